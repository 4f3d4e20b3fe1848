def KPa (M : Mem) (σ : Sc) : Prop := ∀ d, d < 8 → KPo M (107 + 7 * d) (askS σ d).1
theorem KPa.fr {M M' : Mem} {σ : Sc} (h : KPa M σ) (hM : ∀ i, 107 ≤ i → i < 163 → M' i = M i) : KPa M' σ := fun d hd => (h d hd).fr (fun i a b => hM i (by omega) (by omega))
theorem X7_keepPresent {M : Mem} {S : St} (hw : WFS S) (h : ClsI M S) : ∃ M', f_X7_keepPresent M = some M' ∧ KPa M' (gS S) ∧ CF M M' := by
  have key : ∀ (m i : Nat) (M : Mem) (fuel : Nat), i + m = 8 → m < fuel → ClsI M S → (∀ d, d < i → KPo M (107 + 7 * d) (askS (gS S) d).1) → ∃ M', f_X7_keepPresent_2 fuel M (nI i) = some M' ∧ KPa M' (gS S) ∧ CF M M' := by
    intro m
    induction m with
    | zero =>
      intro i M fuel him hf h hkp
      obtain ⟨fu, rfl⟩ : ∃ fu, fuel = fu + 1 := ⟨fuel - 1, by omega⟩
      rw [f_X7_keepPresent_2, if_pos (show (8 : Int32) ≤ nI i from nI_le (a := 8) (by omega) (by omega))]
      simp at him; subst him; exact ⟨M, rfl, hkp, CF.rf⟩
    | succ m ih =>
      intro i M fuel him hf h hkp
      obtain ⟨fu, rfl⟩ : ∃ fu, fuel = fu + 1 := ⟨fuel - 1, by omega⟩
      have hi : i < 8 := by omega
      obtain ⟨M1, a1, a2, a3⟩ := ask7 h hw hi
      have a4 : ∀ j, 107 ≤ j → j < 163 → M1 j = M j := by
        obtain ⟨M1', x1, x2, -, -⟩ := X2_ask (s := 1) (Or.inl rfl) hw.1 hi h.1
        rw [x1] at a1; cases a1
        exact fun j _ _ => x2 j (by omega)
      obtain ⟨M2, b1, b2, b3⟩ := X1_keep (o := 107 + 7 * i) (by omega) (KPo.of hw.1 hi a3.1)
      have hcf : CF M M2 := a2.tr (fun j hj => b3 j (by omega))
      obtain ⟨M', f1, f2, f3⟩ := ih (i + 1) M2 fu (by omega) (by omega) (h.cf hcf) (fun d hd => by
        by_cases hdi : d = i
        · subst hdi; exact b2
        · exact (hkp d (by omega)).fr (fun j x y => by rw [b3 j (by omega), a4 j (by omega) (by omega)]))
      rw [f_X7_keepPresent_2, if_neg (show ¬ (8 : Int32) ≤ nI i from nI_ge (b := 8) (by omega) (by decide)), rdO_nI hi (by decide), Option.bind_some, a1, Option.bind_some, b1, Option.bind_some, nI_1]
      exact ⟨M', f1, f2, hcf.tr f3⟩
  obtain ⟨M', f1, f2⟩ := key 8 0 M 1000 rfl (by decide) h (fun d hd => absurd hd (by omega))
  exact ⟨M', f1, f2⟩
theorem likeS_comm (r s : Rs) : likeS r s = likeS s r := by
  rw [likeS_enc, likeS_enc]
  congr 1
  apply propext
  constructor <;> exact fun ⟨a, b⟩ => ⟨a.symm, b.symm⟩
def WSa (M : Mem) (σ : Sc) : Prop := ∀ d, d < 8 → WAS M d (askS σ d).1
theorem WSa.fr {M M' : Mem} {σ : Sc} (h : WSa M σ) (hM : M' 182 = M 182) : WSa M' σ := fun d hd => by
  have := h d hd
  unfold WAS at *
  rw [hM]; exact this
theorem WAS.fr {M M' : Mem} {k : Nat} {r : Rs} (h : WAS M k r) (hl : (encS r).length ≤ 20) (hM : ∀ j, 110 * k ≤ j → j < 110 * k + 110 → M' 182 j = M 182 j) : WAS M' k r := by
  unfold WAS at *
  refine ⟨by rw [hM _ (by omega) (by omega)]; exact h.1, by rw [hM _ (by omega) (by omega)]; exact h.2.1, fun i v hv => ?_⟩
  have := (List.getElem?_eq_some_iff.mp hv).1
  rw [hM _ (by omega) (by omega)]; exact h.2.2 i v hv
theorem X8_tellAll {M : Mem} {σ : Sc} (hw : WFs σ) (h : SMr (M 164) σ) (F : Nat → Mem → Int32 → Option (Int32 × Mem)) (K : Mem → Option (Int32 × Mem)) (hF : ∀ n M x, F (n + 1) M x = if 8 ≤ x then K M else Option.bind (f_X8_tells M x) fun z => F n z (x + 1)) : ∃ M', F 1000 M 0 = K M' ∧ FT M M' ∧ WSa M' σ := by
  have key : ∀ (m i : Nat) (M : Mem) (fuel : Nat), i + m = 8 → m < fuel → SMr (M 164) σ → (∀ d, d < i → WAS M d (askS σ d).1) → ∃ M', F fuel M (nI i) = K M' ∧ FT M M' ∧ WSa M' σ := by
    intro m
    induction m with
    | zero =>
      intro i M fuel him hf h hkp
      obtain ⟨fu, rfl⟩ : ∃ fu, fuel = fu + 1 := ⟨fuel - 1, by omega⟩
      rw [hF, if_pos (show (8 : Int32) ≤ nI i from nI_le (a := 8) (by omega) (by omega))]
      simp at him; subst him; exact ⟨M, rfl, FT.rf, hkp⟩
    | succ m ih =>
      intro i M fuel him hf h hkp
      obtain ⟨fu, rfl⟩ : ∃ fu, fuel = fu + 1 := ⟨fuel - 1, by omega⟩
      have hi : i < 8 := by omega
      obtain ⟨M1, a1, a2, a3, a4⟩ := X8_tells hw hi h
      have h1 : SMr (M1 164) σ := by rw [a2.1 164 (by omega)]; exact h
      obtain ⟨M', f1, f2, f3⟩ := ih (i + 1) M1 fu (by omega) (by omega) h1 (fun d hd => by
        by_cases hdi : d = i
        · subst hdi; exact a3
        · exact (hkp d (by omega)).fr (enc_len hw (by omega) h) (fun j x y => a4 j (by omega)))
      rw [hF, if_neg (show ¬ (8 : Int32) ≤ nI i from nI_ge (b := 8) (by omega) (by decide)), a1, Option.bind_some, nI_1]
      exact ⟨M', f1, a2.tr f2, f3⟩
  exact key 8 0 M 1000 rfl (by decide) h (fun d hd => absurd hd (by omega))
def sinS (σ ι : Sc) : Nat → Bool := fun k => !likeS (askS σ k).1 (askS ι k).1
theorem X7_since_22 {S : St} {ι : Sc} (hw : WFs (gS S)) (hwι : WFs ι) : ∀ (m i : Nat) (M : Mem) (fuel : Nat), i + m = 8 → m < fuel → SCr M 11 ι → KPa M (gS S) → ∃ M', f_X7_since_22 fuel M (mskI (sinS (gS S) ι) i) (nI i) = some (mskI (sinS (gS S) ι) 8, M') ∧ CF M M' := by
  intro m
  induction m with
  | zero =>
    intro i M fuel him hf h hkp
    obtain ⟨fu, rfl⟩ : ∃ fu, fuel = fu + 1 := ⟨fuel - 1, by omega⟩
    rw [f_X7_since_22, if_pos (show (8 : Int32) ≤ nI i from nI_le (a := 8) (by omega) (by omega))]
    simp at him; subst him; exact ⟨M, rfl, CF.rf⟩
  | succ m ih =>
    intro i M fuel him hf h hkp
    obtain ⟨fu, rfl⟩ : ∃ fu, fuel = fu + 1 := ⟨fuel - 1, by omega⟩
    have hi : i < 8 := by omega
    obtain ⟨M1, a1, a2, a3, -⟩ := X2_ask (s := 11) (Or.inr (Or.inl rfl)) hwι hi h
    have hk1 : KPa M1 (gS S) := hkp.fr (fun j x y => a2 j (by omega))
    have h1 : SCr M1 11 ι := h.fr (fun j x y => a2 j (by omega))
    obtain ⟨M', f1, f2⟩ := ih (i + 1) M1 fu (by omega) (by omega) h1 hk1
    rw [f_X7_since_22, if_neg (show ¬ (8 : Int32) ≤ nI i from nI_ge (b := 8) (by omega) (by decide)), rdO_nI hi (by decide), Option.bind_some, a1, Option.bind_some, X1_isLike hi (hk1 i hi) (KPo.of hwι hi a3.1), Option.bind_some, nI_1]
    dsimp only
    simp only [mskI] at f1
    refine ⟨M', ?_, a2.cf.tr f2⟩
    by_cases hb : likeS (askS (gS S) i).1 (askS ι i).1 = true
    · rw [if_pos hb, if_pos (by decide)]
      rw [if_neg (show ¬ sinS (gS S) ι i = true by unfold sinS; rw [hb]; decide)] at f1
      exact f1
    · rw [if_neg hb, if_neg (by decide), Option.bind_some]
      rw [if_pos (show sinS (gS S) ι i = true by unfold sinS; simpa using hb)] at f1
      exact f1
theorem X8_since_70 {σ ι : Sc} (hw : WFs σ) (hr20 : ∀ k, k < 8 → (encS (askS ι k).1).length ≤ 20) : ∀ (m i : Nat) (M : Mem) (fuel : Nat), i + m = 8 → m < fuel → SMr (M 164) σ → WSa M ι → ∃ M', f_X8_since_70 fuel M (mskI (sinS σ ι) i) (nI i) = some (mskI (sinS σ ι) 8, M') ∧ MK M M' := by
  intro m
  induction m with
  | zero =>
    intro i M fuel him hf h hkp
    obtain ⟨fu, rfl⟩ : ∃ fu, fuel = fu + 1 := ⟨fuel - 1, by omega⟩
    rw [f_X8_since_70, if_pos (show (8 : Int32) ≤ nI i from nI_le (a := 8) (by omega) (by omega))]
    simp at him; subst him; exact ⟨M, rfl, MK.rf⟩
  | succ m ih =>
    intro i M fuel him hf h hkp
    obtain ⟨fu, rfl⟩ : ∃ fu, fuel = fu + 1 := ⟨fuel - 1, by omega⟩
    have hi : i < 8 := by omega
    obtain ⟨M1, a1, a2⟩ := X8_isLike hw hi h (hkp i hi) (hr20 i hi)
    obtain ⟨M', f1, f2⟩ := ih (i + 1) M1 fu (by omega) (by omega) (by rw [a2.1 164 (by omega)]; exact h) (hkp.fr (a2.1 182 (by omega)))
    rw [f_X8_since_70, if_neg (show ¬ (8 : Int32) ≤ nI i from nI_ge (b := 8) (by omega) (by decide)), a1, Option.bind_some, nI_1]
    dsimp only
    simp only [mskI] at f1
    refine ⟨M', ?_, a2.mk.tr f2⟩
    by_cases hb : likeS (askS ι i).1 (askS σ i).1 = true
    · rw [if_pos hb, if_neg (by decide), Int32.or_zero]
      rw [if_neg (show ¬ sinS σ ι i = true by unfold sinS; rw [likeS_comm, hb]; decide)] at f1
      exact f1
    · rw [if_neg hb, if_pos rfl, Option.bind_some]
      rw [if_pos (show sinS σ ι i = true by unfold sinS; rw [likeS_comm]; simpa using hb)] at f1
      exact f1
theorem since_same {S : St} (hw : WFS S) : SAME S f_X7_since f_X8_since := by
  rcases hI : gI S with _ | ι
  · refine same_no hw (-3) 3 neg3 (by decide) (fun M h => ?_) (fun M h => ?_)
    · have h0 : M 0 9 = 0 := by have := h.2.1; rw [hI] at this; exact this
      unfold f_X7_since
      rw [if_neg (fun q => q h0), bind_eta]
      exact ⟨M, rfl, CF.rf⟩
    · have h0 : M 163 12 = 0 := by have := h.2.1; rw [hI] at this; exact this
      unfold f_X8_since
      rw [if_neg (fun q => q h0), bind_eta]
      exact ⟨M, rfl, MK.rf⟩
  · have hwι := hw.2.1 ι hI
    refine same_try hw (mskI (sinS (gS S) ι) 8) (fun M h => ?_) (fun M h => ?_)
    · have h0 : M 0 9 = 1 ∧ SCr M 11 ι := by have := h.2.1; rw [hI] at this; exact this
      unfold f_X7_since
      obtain ⟨M1, a1, a2, a3⟩ := X7_keepPresent hw h
      obtain ⟨M', f1, f2⟩ := X7_since_22 hw.1 hwι 8 0 M1 1000 rfl (by decide) (h0.2.fr (fun j x y => a3 j (by omega))) a2
      rw [if_pos (by rw [h0.1]; decide), a1, Option.bind_some]
      exact ⟨M', f1, a3.tr f2⟩
    · have h0 : M 163 12 = 1 ∧ SMr (M 165) ι := by have := h.2.1; rw [hI] at this; exact this
      unfold f_X8_since
      obtain ⟨M1, a1, a2, a3⟩ := X8_copies ln640.1 ln640.2.2.1 (by decide) h.1 hw.1
      obtain ⟨M2, b1, b2, b3⟩ := X8_copies (M := M1) ln640.2.1 ln640.1 (by decide) (by rw [a3 165 (by decide)]; exact h0.2) hwι
      obtain ⟨M3, c1, c2, c3⟩ := X8_tellAll hwι b2 f_X8_since_38 f_X8_since_55 (fun _ _ _ => rfl)
      obtain ⟨M4, d1, d2, d3⟩ := X8_copies (M := M3) (a := 166) (b := 164) (σ := gS S) ln640.2.2.1 ln640.1 (by decide) (by rw [c2.1 166 (by omega), b3 166 (by decide)]; exact a2) hw.1
      obtain ⟨M', f1, f2⟩ := X8_since_70 hw.1 (fun k hk => enc_len hwι hk b2) 8 0 M4 1000 rfl (by decide) d2 (c3.fr (d3 182 (by decide)))
      rw [if_pos (by rw [h0.1]; decide), a1, Option.bind_some, b1, Option.bind_some, c1]
      unfold f_X8_since_55
      rw [d1, Option.bind_some]
      exact ⟨M', f1, ((((MT.one (by omega) a3).tr (MT.one (by omega) b3)).tr c2.mk.mt).tr (MT.one (by omega) d3)).tr f2.mt, by rw [f2.1 164 (by omega)]; exact d2⟩
