theorem tb_t : ∀ s, s < 64 → ∀ l, l < 6 → ((nI s >>> (nI l &&& 31)) &&& 1) = if s.testBit l = true then 1 else 0 := by decide +kernel
theorem SMr.ons {r r' : Nat → Int32} {σ : Sc} {p : Nat → Bool} (h : SMr r σ) (h0 : ∀ l, l < 6 → r' (3 * l) = if p l = true then 1 else 0) (hr : ∀ j, (∀ l, l < 6 → j ≠ 3 * l) → r' j = r j) : SMr r' (setOns σ p) := by
  obtain ⟨g1, g2, g3⟩ := h
  refine ⟨fun j hj => ⟨h0 j hj, by rw [hr _ (fun l hl => by omega)]; exact (g1 j hj).2.1, by rw [hr _ (fun l hl => by omega)]; exact (g1 j hj).2.2⟩, fun k hk => by rw [hr _ (fun l hl => by omega)]; exact g2 k hk, fun e he => ?_⟩
  have := g3 e he
  show entM r' e (sEn σ e)
  have hr2 : ∀ j, 30 ≤ j → r' j = r j := fun j hj => hr j (fun l hl => by omega)
  rcases hx : sEn σ e with _ | ⟨f, n, o, its⟩
  · rw [hx] at this
    show r' (30 + 12 * e) = -9
    rw [hr2 _ (by omega)]; exact this
  · rw [hx] at this
    obtain ⟨a, b, c, d⟩ := this
    exact ⟨by rw [hr2 _ (by omega)]; exact a, by rw [hr2 _ (by omega)]; exact b, fun hf => by rw [hr2 _ (by omega)]; exact c hf, fun hf => ⟨by rw [hr2 _ (by omega)]; exact (d hf).1, fun i x hi => by rw [hr2 _ (by omega), hr2 _ (by omega)]; exact (d hf).2 i x hi⟩⟩
theorem SMr.off {r : Nat → Int32} {σ : Sc} {p : Nat → Bool} (h : SMr r (setOns σ p)) (hp : ∀ l, l < 6 → p l = sOn σ l) : SMr r σ := by
  obtain ⟨g1, g2, g3⟩ := h
  refine ⟨fun l hl => ⟨?_, (g1 l hl).2⟩, g2, g3⟩
  have := (g1 l hl).1
  rw [show sOn (setOns σ p) l = p l from rfl, hp l hl] at this
  exact this
theorem X8_turnsTo {M : Mem} {σ : Sc} {s : Nat} {q : Nat → Bool} (hs : s < 64) (h : SMr (M 164) (setOns σ q)) : ∃ M', f_X8_turnsTo M (nI s) = some M' ∧ SMr (M' 164) (setOns σ (bitf s)) ∧ ∀ i, i ≠ 164 → M' i = M i := by
  have key : ∀ (m i : Nat) (M : Mem) (fuel : Nat), i + m = 6 → m < fuel → ∃ M', f_X8_turnsTo_2 fuel M (nI s) (nI i) = some M' ∧ (∀ c, c ≠ 164 → M' c = M c) ∧ (∀ l, i ≤ l → l < 6 → M' 164 (3 * l) = if s.testBit l = true then 1 else 0) ∧ ∀ j, (∀ l, i ≤ l → l < 6 → j ≠ 3 * l) → M' 164 j = M 164 j := by
    intro m
    induction m with
    | zero =>
      intro i M fuel him hf
      obtain ⟨fu, rfl⟩ : ∃ fu, fuel = fu + 1 := ⟨fuel - 1, by omega⟩
      rw [f_X8_turnsTo_2, if_pos (show (6 : Int32) ≤ nI i from nI_le (a := 6) (by omega) (by omega))]
      exact ⟨M, rfl, fun _ _ => rfl, fun l _ _ => by omega, fun _ _ => rfl⟩
    | succ m ih =>
      intro i M fuel him hf
      obtain ⟨fu, rfl⟩ : ∃ fu, fuel = fu + 1 := ⟨fuel - 1, by omega⟩
      rw [f_X8_turnsTo_2, if_neg (show ¬ (6 : Int32) ≤ nI i from nI_ge (b := 6) (by omega) (by decide)), m_a0, wra_nI (by omega) (by decide), Option.bind_some, nI_1, tb_t s hs i (by omega)]
      obtain ⟨M', e1, e2, e3, e4⟩ := ih (i + 1) (wr M 164 (3 * i) (if s.testBit i = true then 1 else 0)) fu (by omega) (by omega)
      refine ⟨M', e1, fun c hc => (e2 c hc).trans (wr_ne hc), fun l h1 h2 => ?_, fun j hj => ?_⟩
      · by_cases hl : l = i
        · subst hl
          rw [e4 _ (fun x _ _ => by omega), wr_ap, if_pos ⟨rfl, rfl⟩]
        · exact e3 l (by omega) h2
      · rw [e4 j (fun l h1 h2 => hj l (by omega) h2), wr_ap, if_neg (by have := hj i (by omega) (by omega); omega)]
  obtain ⟨M', e1, e2, e3, e4⟩ := key 6 0 M 1000 rfl (by decide)
  exact ⟨M', e1, SMr.ons (σ := setOns σ q) (p := bitf s) h (fun l hl => e3 l (by omega) hl) (fun j hj => e4 j (fun l _ hl => hj l hl)), e2⟩
theorem X8_areLike {M : Mem} {σ τ : Sc} (hw : WFs τ) (h : SMr (M 164) τ) (hk : WSa M σ) (hr20 : ∀ k, k < 8 → (encS (askS σ k).1).length ≤ 20) : ∃ M', f_X8_areLike M = some (if prS σ τ 8 0 = true then 1 else 0, M') ∧ FRm 0 M M' := by
  have key : ∀ (m i : Nat) (M : Mem) (fuel : Nat), i + m = 8 → m < fuel → SMr (M 164) τ → WSa M σ → ∃ M', f_X8_areLike_4 fuel M 1 (nI i) = some (if prS σ τ m i = true then 1 else 0, M') ∧ FRm 0 M M' := by
    intro m
    induction m with
    | zero =>
      intro i M fuel him hf h hkp
      obtain ⟨fu, rfl⟩ : ∃ fu, fuel = fu + 1 := ⟨fuel - 1, by omega⟩
      rw [f_X8_areLike_4, if_pos (show (8 : Int32) ≤ nI i from nI_le (a := 8) (by omega) (by omega))]
      exact ⟨M, rfl, FRm.rf⟩
    | succ m ih =>
      intro i M fuel him hf h hkp
      obtain ⟨fu, rfl⟩ : ∃ fu, fuel = fu + 1 := ⟨fuel - 1, by omega⟩
      have hi : i < 8 := by omega
      obtain ⟨M1, a1, a2⟩ := X8_isLike hw hi h (hkp i hi) (hr20 i hi)
      have h1 : SMr (M1 164) τ := by rw [a2.1 164 (by omega)]; exact h
      have h2 : WSa M1 σ := hkp.fr (a2.1 182 (by omega))
      rw [f_X8_areLike_4, if_neg (show ¬ (8 : Int32) ≤ nI i from nI_ge (b := 8) (by omega) (by decide)), if_neg (show ¬ (1 : Int32) = 0 by decide), a1, Option.bind_some, nI_1]
      dsimp only
      by_cases hb : likeS (askS σ i).1 (askS τ i).1 = true
      · obtain ⟨M', f1, f2⟩ := ih (i + 1) M1 fu (by omega) (by omega) h1 h2
        rw [if_pos hb, prS_t hb]
        exact ⟨M', f1, a2.tr f2⟩
      · rw [if_neg hb, if_neg (prS_f hb)]
        refine ⟨M1, ?_, a2⟩
        obtain ⟨fv, rfl⟩ : ∃ fv, fu = fv + 1 := ⟨fu - 1, by omega⟩
        rw [f_X8_areLike_4]
        by_cases h8 : (8 : Int32) ≤ nI (i + 1)
        · rw [if_pos h8]; rfl
        · rw [if_neg h8, if_pos rfl]; rfl
  exact key 8 0 M 1000 rfl (by decide) h hk
theorem nI_pm (j : Nat) : nI (j + 1) + (-1) + (-1) = nI j + (-1) := by rw [nI_m1 (by omega), Nat.add_sub_cancel]
theorem X8_fewest_29 {σ : Sc} (hw : WFs σ) (hr20 : ∀ k, k < 8 → (encS (askS σ k).1).length ≤ 20) : ∀ (i b : Nat) (M : Mem) (fuel : Nat) (q : Nat → Bool), i ≤ 64 → i < fuel → SMr (M 164) (setOns σ q) → WSa M σ → Bst σ i b → ∃ M' b', f_X8_fewest_29 fuel M (nI (mskB (sOn σ) 6)) (nI b) (nI i + (-1)) = some (nI b', M') ∧ Bst σ 0 b' ∧ MT M M' ∧ SMr (M' 164) σ := by
  intro i
  induction i with
  | zero =>
    intro b M fuel q hi hf h hk hb
    obtain ⟨fu, rfl⟩ : ∃ fu, fuel = fu + 1 := ⟨fuel - 1, by omega⟩
    obtain ⟨M', e1, e2, e3⟩ := X8_turnsTo (msk6_lt (sOn σ)) h
    rw [f_X8_fewest_29, if_pos (show nI 0 + (-1) < 0 by decide), e1, Option.bind_some]
    refine ⟨M', b, rfl, hb, MT.one (by omega) e3, e2.off (fun l hl => ?_)⟩
    show (mskB (sOn σ) 6).testBit l = sOn σ l
    rw [mskB_tb]; simp [hl]
  | succ i ih =>
    intro b M fuel q hi hf h hk hb
    obtain ⟨fu, rfl⟩ : ∃ fu, fuel = fu + 1 := ⟨fuel - 1, by omega⟩
    have hst := hb.step (by omega)
    rw [f_X8_fewest_29, nI_m1 (by omega), Nat.add_sub_cancel, if_neg (nI_pos (by omega)), X8_ones (by omega), Option.bind_some]
    dsimp only
    rw [X8_ones (by have := hb.1; omega), Option.bind_some]
    dsimp only
    have h7 := pc6 i (by omega)
    have h8 := pc6 b hb.1
    by_cases hc : pcN i ≤ pcN b
    · obtain ⟨M1, e1, e2, e3⟩ := X8_turnsTo (s := i) (by omega) h
      obtain ⟨M2, g1, g2⟩ := X8_areLike (hw.on (bitf i)) e2 (hk.fr (e3 182 (by decide))) hr20
      have h2 : SMr (M2 164) (setOns σ (bitf i)) := by rw [g2.1 164 (by omega)]; exact e2
      have hk2 : WSa M2 σ := (hk.fr (e3 182 (by decide))).fr (g2.1 182 (by omega))
      rw [if_pos (nI_le hc (by omega)), e1, Option.bind_some, g1, Option.bind_some]
      dsimp only
      by_cases hp : presS σ i = true
      · rw [if_pos ⟨hc, hp⟩] at hst
        obtain ⟨M', b', f1, f2, f3, f4⟩ := ih i M2 fu _ (by omega) (by omega) h2 hk2 hst
        rw [if_pos (show prS σ (setOns σ (bitf i)) 8 0 = true from hp), if_neg (show ¬ (1 : Int32) = 0 by decide)]
        exact ⟨M', b', f1, f2, ((MT.one (by omega) e3).tr g2.mk.mt).tr f3, f4⟩
      · rw [if_neg (fun x => hp x.2)] at hst
        obtain ⟨M', b', f1, f2, f3, f4⟩ := ih b M2 fu _ (by omega) (by omega) h2 hk2 hst
        rw [if_neg (show ¬ prS σ (setOns σ (bitf i)) 8 0 = true from hp), if_pos rfl]
        exact ⟨M', b', f1, f2, ((MT.one (by omega) e3).tr g2.mk.mt).tr f3, f4⟩
    · rw [if_neg (fun x => hc x.1)] at hst
      obtain ⟨M', b', f1, f2, f3, f4⟩ := ih b M fu _ (by omega) (by omega) h hk hst
      rw [if_neg (nI_ge (by omega) (by omega))]
      exact ⟨M', b', f1, f2, f3, f4⟩
theorem fewest_same {S : St} (hw : WFS S) : SAME S f_X7_fewest f_X8_fewest := by
  obtain ⟨b, hb1, hb2⟩ := few_ex (gS S)
  refine same_try hw (nI b) (fun M h => ?_) (fun M h => ?_)
  · unfold f_X7_fewest
    obtain ⟨M1, a1, a2, a3⟩ := X7_keepPresent hw h
    obtain ⟨M2, c1, c2, c3⟩ := X4_become (s := 21) (h.cf a3).1 hw.1 (by omega)
    obtain ⟨M', f1, f2⟩ := X7_fewest_17 hw.1 7 0 M2 1000 (sOn (gS S)) rfl (by decide) c2 (a2.fr (fun j x y => c3 j (by omega)))
    rw [hb1] at f1
    rw [a1, Option.bind_some, c1, Option.bind_some]
    exact ⟨M', f1, (a3.tr (fun j hj => c3 j (by omega))).tr f2⟩
  · unfold f_X8_fewest
    have hr20 : ∀ k, k < 8 → (encS (askS (gS S) k).1).length ≤ 20 := fun k hk => enc_len hw.1 hk h.1
    obtain ⟨M1, a1, a2, a3⟩ := X8_tellAll hw.1 h.1 f_X8_fewest_2 (fun M => Option.bind (f_X8_onNow M) fun z2 => f_X8_fewest_29 1000 z2.2 z2.1 z2.1 63) (fun _ _ _ => rfl)
    have h1 : SMr (M1 164) (gS S) := by rw [a2.1 164 (by omega)]; exact h.1
    obtain ⟨M', b', f1, f2, f3, f4⟩ := X8_fewest_29 hw.1 hr20 64 (mskB (sOn (gS S)) 6) M1 1000 (sOn (gS S)) (by omega) (by decide) h1 a3 ⟨msk6_lt _, pres_on _, fun t x y => absurd x (by omega)⟩
    have := f2.eq hb2
    subst this
    rw [a1]
    rw [X8_onNow h1, Option.bind_some]
    exact ⟨M', f1, a2.mk.mt.tr f3, f4⟩
