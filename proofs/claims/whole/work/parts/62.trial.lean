/-! calls that try something -/
theorem fup_same {α : Type} (f : Nat → α) (i : Nat) : fup f i (f i) = f := by funext j; unfold fup; by_cases h : j = i <;> simp [h]
theorem fup_fup {α : Type} (f : Nat → α) (i : Nat) (a b : α) : fup (fup f i a) i b = fup f i b := by funext j; unfold fup; by_cases h : j = i <;> simp [h]
theorem beco7 {M : Mem} {S : St} (h : ClsI M S) (hw : WFS S) : ∃ M', f_X4_become M 21 1 = some M' ∧ SCr M' 21 (gS S) ∧ CF M M' := by
  obtain ⟨M', e1, e2, e3⟩ := X4_become (s := 21) h.1 hw.1 (by omega)
  exact ⟨M', e1, e2, fun i hi => e3 i (by omega)⟩
theorem asks7 {M : Mem} {τ : Sc} {k : Nat} (h : SCr M 21 τ) (hw : WFs τ) (hk : k < 8) : ∃ M', f_X2_ask M 21 (nI k) = some M' ∧ FRr M M' ∧ OUT M' τ k ∧ SCr M' 21 τ := by
  obtain ⟨M', e1, e2, e3, -⟩ := X2_ask (s := 21) (Or.inr (Or.inr rfl)) hw hk h
  exact ⟨M', e1, e2, e3, h.fr (fun i a b => e2 i (by omega))⟩
theorem CF.wt {M : Mem} {i k : Nat} {x : Int32} (h1 : 21 ≤ i) (h2 : i ≤ 30) : CF M (wr M i k x) := fun j hj => wr_ne (by omega)
def oI (b : Bool) : Int32 := if b = true then 1 else 0
theorem X8_numberWith {M : Mem} {σ : Sc} {l k : Nat} {b : Bool} (hw : WFs σ) (hl : l < 6) (hk : k < 8) (h : SMr (M 164) σ) : ∃ M', f_X8_numberWith M (nI l) (oI b) (nI k) = some (nmS (setOn σ l b) k, M') ∧ MK M M' := by
  unfold f_X8_numberWith
  rw [m_a0, rd_nI (by omega) (by decide), Option.bind_some, wra_nI (by omega) (by decide), Option.bind_some]
  have h2 : SMr (wr M 164 (3 * l) (oI b) 164) (setOn σ l b) := SMr.on h hl (by rw [wr_ap, if_pos ⟨rfl, rfl⟩]; rfl) (fun j hj => by rw [wr_ap, if_neg (by omega)])
  obtain ⟨M', e1, e2⟩ := X8_numberOf (hw.on1 l b) hk h2
  rw [e1, Option.bind_some]
  dsimp only
  rw [wra_nI (by omega) (by decide), Option.bind_some]
  have hr : wr M' 164 (3 * l) (M 164 (3 * l)) 164 = M 164 := by
    funext j
    rw [wr_ap, e2.1 164 (by omega), wr_ap]
    by_cases hj : j = 3 * l
    · simp [hj]
    · simp [hj]
  refine ⟨_, rfl, fun i hi => ?_, ?_, ?_, ?_⟩
  · by_cases hi4 : i = 164
    · rw [hi4]; exact hr
    · rw [wr_ne hi4, e2.1 i (by omega), wr_ne hi4]
  · rw [wr_ne (by decide), e2.2.1 7 (by decide) (by decide) (by decide), wr_ne (by decide)]
  · rw [wr_ne (by decide), e2.2.1 8 (by decide) (by decide) (by decide), wr_ne (by decide)]
  · rw [wr_ne (by decide), e2.2.1 12 (by decide) (by decide) (by decide), wr_ne (by decide)]
theorem without_same {S : St} (hw : WFS S) (x y : Int32) : SAME S (fun M => f_X7_without M x y) (fun M => f_X8_without M x y) := by
  rcases argL x with ⟨l, hl, rfl⟩ | hx
  · rcases argK y with ⟨k, hk, rfl⟩ | hy
    · refine same_look hw (nmS (setOn (gS S) l false) k) (fun M h => ?_) (fun M h => ?_)
      · unfold f_X7_without
        rw [X7_noLayer hl, Option.bind_some]
        dsimp only
        rw [if_neg (by decide), X7_noKey hk, Option.bind_some]
        dsimp only
        obtain ⟨M1, a1, a2, a3⟩ := beco7 h hw
        rw [if_pos rfl, a1, Option.bind_some, wrf_eq, Option.bind_some]
        obtain ⟨M2, b1, b2, b3, -⟩ := asks7 (a2.turnOff hl) (hw.1.on1 l false) hk
        rw [b1, Option.bind_some, X1_numberOrNothing b3.1, Option.bind_some]
        exact ⟨M2, rfl, (a3.tr (CF.wt (by decide) (by decide))).tr b2.cf⟩
      · unfold f_X8_without
        rw [X8_isLayer hl, Option.bind_some]
        dsimp only
        rw [if_neg (by decide), X8_isKey hk, Option.bind_some]
        dsimp only
        rw [if_pos (by decide), bind_eta]
        obtain ⟨M', e1, e2⟩ := X8_numberWith (b := false) hw.1 hl hk h.1
        exact ⟨M', e1, e2⟩
    · refine same_no hw (-1) 1 neg1 (by decide) (fun M h => ?_) (fun M h => ?_)
      · unfold f_X7_without
        rw [X7_noLayer hl, Option.bind_some]
        dsimp only
        rw [if_neg (by decide), X7_noKey' hy, Option.bind_some]
        dsimp only
        rw [if_neg (by decide), bind_eta]
        exact ⟨M, rfl, CF.rf⟩
      · unfold f_X8_without
        rw [X8_isLayer hl, Option.bind_some]
        dsimp only
        rw [if_neg (by decide), X8_isKey' hy, Option.bind_some]
        dsimp only
        rw [if_neg (by decide), bind_eta]
        exact ⟨M, rfl, MK.rf⟩
  · refine same_no hw (-1) 1 neg1 (by decide) (fun M h => ?_) (fun M h => ?_)
    · unfold f_X7_without
      rw [X7_noLayer' hx, Option.bind_some]
      dsimp only
      rw [if_pos (by decide), bind_eta]
      exact ⟨M, rfl, CF.rf⟩
    · unfold f_X8_without
      rw [X8_isLayer' hx, Option.bind_some]
      dsimp only
      rw [if_pos rfl, bind_eta]
      exact ⟨M, rfl, MK.rf⟩
/-- the first layer whose turn makes the number -/
def trnS (σ : Sc) (k : Nat) (v : Int32) : Nat → Nat → Int32
  | 0, _ => -9
  | m + 1, i => if nmS (setOn σ i (!sOn σ i)) k = v then nI i else trnS σ k v m (i + 1)
theorem X7_turn_65 {S : St} {k : Nat} {v : Int32} (hw : WFS S) (hk : k < 8) : ∀ (m i : Nat) (M : Mem) (fuel : Nat) (p : Nat → Bool), i + m = 6 → m < fuel → ClsI M S → SCr M 21 (setOns (gS S) p) → ∃ M', f_X7_turn_65 fuel M (nI k) v (nI i) = some (trnS (gS S) k v m i, M') ∧ CF M M' := by
  intro m
  induction m with
  | zero =>
    intro i M fuel p him hf h ht
    obtain ⟨fu, rfl⟩ : ∃ fu, fuel = fu + 1 := ⟨fuel - 1, by omega⟩
    rw [f_X7_turn_65, if_pos (show (6 : Int32) ≤ nI i from nI_le (a := 6) (by omega) (by omega))]
    exact ⟨M, rfl, CF.rf⟩
  | succ m ih =>
    intro i M fuel p him hf h ht
    obtain ⟨fu, rfl⟩ : ∃ fu, fuel = fu + 1 := ⟨fuel - 1, by omega⟩
    rw [f_X7_turn_65, if_neg (show ¬ (6 : Int32) ≤ nI i from nI_ge (b := 6) (by omega) (by decide)), wrf_eq, Option.bind_some]
    have hx : M 1 0 ^^^ bitI i = nI (mskB (fup (sOn (gS S)) i (!sOn (gS S) i)) 6) := by
      rw [h.1.1, t_xor _ (mskB_lt _ 6 (by decide)) i (by omega), msk_tog _ (by omega)]
    have hw1 : CF M (wr M 21 0 (M 1 0 ^^^ (1 <<< (nI i &&& 31)))) := CF.wt (by decide) (by decide)
    have ht1 : SCr (wr M 21 0 (M 1 0 ^^^ (1 <<< (nI i &&& 31)))) 21 (setOn (gS S) i (!sOn (gS S) i)) := SCr.ons (σ := setOns (gS S) p) (p := fup (sOn (gS S)) i (!sOn (gS S) i)) ht (by rw [wr_ap, if_pos ⟨rfl, rfl⟩]; exact hx) (fun j a b => wr_ne (by omega))
    obtain ⟨M1, b1, b2, b3, b4⟩ := asks7 ht1 (hw.1.on1 _ _) hk
    rw [b1, Option.bind_some, X1_numberOrNothing b3.1, Option.bind_some]
    dsimp only
    simp only [trnS]
    have hcf : CF M M1 := hw1.tr b2.cf
    by_cases hv : nmS (setOn (gS S) i (!sOn (gS S) i)) k = v
    · rw [if_neg (fun q => q hv), if_pos hv]
      exact ⟨M1, rfl, hcf⟩
    · rw [if_pos hv, if_neg hv, nI_1]
      obtain ⟨M', f1, f2⟩ := ih (i + 1) M1 fu _ (by omega) (by omega) (h.cf hcf) b4
      exact ⟨M', f1, hcf.tr f2⟩
theorem X8_turn_52 {σ : Sc} {k : Nat} {v : Int32} (hw : WFs σ) (hk : k < 8) : ∀ (m i : Nat) (M : Mem) (fuel : Nat), i + m = 6 → m < fuel → SMr (M 164) σ → ∃ M', f_X8_turn_52 fuel M (nI k) v (nI i) = some (trnS σ k v m i, M') ∧ MK M M' := by
  intro m
  induction m with
  | zero =>
    intro i M fuel him hf h
    obtain ⟨fu, rfl⟩ : ∃ fu, fuel = fu + 1 := ⟨fuel - 1, by omega⟩
    rw [f_X8_turn_52, if_pos (show (6 : Int32) ≤ nI i from nI_le (a := 6) (by omega) (by omega))]
    exact ⟨M, rfl, MK.rf⟩
  | succ m ih =>
    intro i M fuel him hf h
    obtain ⟨fu, rfl⟩ : ∃ fu, fuel = fu + 1 := ⟨fuel - 1, by omega⟩
    have hb : 1 - M 164 (3 * i) = oI (!sOn σ i) := by
      rw [(h.1 i (by omega)).1]
      by_cases hh : sOn σ i = true
      · simp [hh, oI]
      · simp [hh, oI]
    obtain ⟨M1, e1, e2⟩ := X8_numberWith (l := i) (b := !sOn σ i) hw (by omega) hk h
    rw [f_X8_turn_52, if_neg (show ¬ (6 : Int32) ≤ nI i from nI_ge (b := 6) (by omega) (by decide)), m_a0, rd_nI (by omega) (by decide), Option.bind_some, hb, e1, Option.bind_some]
    dsimp only
    simp only [trnS]
    by_cases hv : nmS (setOn σ i (!sOn σ i)) k = v
    · rw [if_neg (fun q => q hv), if_pos hv]
      exact ⟨M1, rfl, e2⟩
    · rw [if_pos hv, if_neg hv, nI_1]
      obtain ⟨M', f1, f2⟩ := ih (i + 1) M1 fu (by omega) (by omega) (by rw [e2.1 164 (by omega)]; exact h)
      exact ⟨M', f1, e2.tr f2⟩
theorem turn_same {S : St} (hw : WFS S) (x v : Int32) : SAME S (fun M => f_X7_turn M x v) (fun M => f_X8_turn M x v) := by
  rcases argK x with ⟨k, hk, rfl⟩ | hx
  · have c8 : ∀ M, f_X8_turn M (nI k) v = if 0 ≤ v then (if v ≤ 999 then Option.bind (f_X8_numberOf M (nI k)) (fun z5 => if ¬ z5.1 = v then f_X8_turn_52 1000 z5.2 (nI k) v 0 else some (-9, z5.2)) else f_X8_no M (-6)) else f_X8_no M (-4) := by
      intro M
      unfold f_X8_turn
      rw [X8_isKey hk, Option.bind_some]
      dsimp only
      rw [if_pos (by decide)]
      simp only [bind_eta]
    have c7 : ∀ M, f_X7_turn M (nI k) v = Option.bind (f_X7_outside M v 999) fun z3 => f_X7_turn_18 z3.2 (nI k) v z3.1 := by
      intro M
      unfold f_X7_turn
      rw [X7_noKey hk, Option.bind_some]
      dsimp only
      rw [if_pos rfl]
    rcases argo v 999 (by decide) with ⟨n, hn, rfl⟩ | hz | ⟨hz1, hz2⟩
    · refine same_look hw (if nmS (gS S) k = nI n then -9 else trnS (gS S) k (nI n) 6 0) (fun M h => ?_) (fun M h => ?_)
      · rw [c7, show f_X7_outside M (nI n) 999 = some (0, M) from X7_out (n := 999) hn (by decide), Option.bind_some]
        dsimp only
        unfold f_X7_turn_18
        rw [if_pos rfl]
        obtain ⟨M1, a1, a2, a3, -⟩ := ask7 h hw hk
        rw [a1, Option.bind_some, X1_numberOrNothing a3, Option.bind_some]
        dsimp only
        by_cases hv : nmS (gS S) k = nI n
        · rw [if_neg (fun q => q hv), if_pos hv]; exact ⟨M1, rfl, a2⟩
        · rw [if_pos hv, if_neg hv]
          obtain ⟨M2, b1, b2, b3⟩ := beco7 (h.cf a2) hw
          rw [b1, Option.bind_some]
          obtain ⟨M', f1, f2⟩ := X7_turn_65 (v := nI n) hw hk 6 0 M2 1000 (sOn (gS S)) rfl (by decide) ((h.cf a2).cf b3) b2
          exact ⟨M', f1, (a2.tr b3).tr f2⟩
      · rw [c8, if_pos (ge0 (by omega)), if_pos (show nI n ≤ 999 from nI_le (b := 999) hn (by decide))]
        obtain ⟨M1, a1, a2⟩ := X8_numberOf hw.1 hk h.1
        rw [a1, Option.bind_some]
        dsimp only
        by_cases hv : nmS (gS S) k = nI n
        · rw [if_neg (fun q => q hv), if_pos hv]; exact ⟨M1, rfl, a2.mk⟩
        · rw [if_pos hv, if_neg hv]
          obtain ⟨M', f1, f2⟩ := X8_turn_52 (v := nI n) hw.1 hk 6 0 M1 1000 rfl (by decide) (by rw [a2.1 164 (by omega)]; exact h.1)
          exact ⟨M', f1, a2.mk.tr f2⟩
    · refine same_no hw (-4) 4 neg4 (by decide) (fun M h => ?_) (fun M h => ?_)
      · rw [c7, X7_outL hz, Option.bind_some]
        dsimp only
        unfold f_X7_turn_18
        rw [if_neg (by decide), bind_eta]
        exact ⟨M, rfl, CF.rf⟩
      · rw [c8, if_neg (nge0 hz)]
        exact ⟨M, rfl, MK.rf⟩
    · refine same_no hw (-6) 6 neg6 (by decide) (fun M h => ?_) (fun M h => ?_)
      · rw [c7, X7_outH (y := 999) hz1 hz2, Option.bind_some]
        dsimp only
        unfold f_X7_turn_18
        rw [if_neg (by decide), bind_eta]
        exact ⟨M, rfl, CF.rf⟩
      · rw [c8, if_pos (ge0' hz1), if_neg (show ¬ v ≤ 999 from hz2)]
        exact ⟨M, rfl, MK.rf⟩
  · refine same_no hw (-1) 1 neg1 (by decide) (fun M h => ?_) (fun M h => ?_)
    · unfold f_X7_turn
      rw [X7_noKey' hx, Option.bind_some]
      dsimp only
      unfold f_X7_turn_18
      rw [if_neg (by decide), if_neg (by decide), bind_eta]
      exact ⟨M, rfl, CF.rf⟩
    · unfold f_X8_turn
      rw [X8_isKey' hx, Option.bind_some]
      dsimp only
      rw [if_neg (by decide), bind_eta]
      exact ⟨M, rfl, MK.rf⟩
