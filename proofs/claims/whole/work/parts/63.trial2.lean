theorem setMn_Mn (σ : Sc) (k a b : Nat) : setMn (setMn σ k a) k b = setMn σ k b := by unfold setMn; rw [fup_fup]
theorem setMn_self (σ : Sc) (k : Nat) : setMn σ k (sMn σ k) = σ := by
  obtain ⟨a, b, c, d, e⟩ := σ
  show (a, b, c, fup d k (d k), e) = _
  rw [fup_same]
def mnS (σ : Sc) (k : Nat) (v : Int32) : Nat → Bool := fun m => decide (nmS (setMn σ k m) k = v)
theorem X7_byManner_46 {S : St} {k : Nat} {v : Int32} (hw : WFS S) (hk : k < 8) : ∀ (j i : Nat) (M : Mem) (fuel : Nat) (a : Nat), i + j = 5 → j < fuel → ClsI M S → SCr M 21 (setMn (gS S) k a) → ∃ M', f_X7_byManner_46 fuel M (nI k) v (mskI (mnS (gS S) k v) i) (nI i) = some (mskI (mnS (gS S) k v) 5, M') ∧ CF M M' := by
  intro j
  induction j with
  | zero =>
    intro i M fuel a him hf h ht
    obtain ⟨fu, rfl⟩ : ∃ fu, fuel = fu + 1 := ⟨fuel - 1, by omega⟩
    rw [f_X7_byManner_46, if_pos (show (5 : Int32) ≤ nI i from nI_le (a := 5) (by omega) (by omega))]
    simp at him; subst him; exact ⟨M, rfl, CF.rf⟩
  | succ j ih =>
    intro i M fuel a him hf h ht
    obtain ⟨fu, rfl⟩ : ∃ fu, fuel = fu + 1 := ⟨fuel - 1, by omega⟩
    have ht1 : SCr (wr M 24 k (nI i)) 21 (setMn (gS S) k i) := by
      have := SCr.manner (k := k) (m := i) ht
      rw [setMn_Mn] at this
      exact this
    obtain ⟨M1, b1, b2, b3, b4⟩ := asks7 ht1 (hw.1.mn (by omega)) hk
    have hcf : CF M M1 := (CF.wt (by decide) (by decide)).tr b2.cf
    obtain ⟨M', f1, f2⟩ := ih (i + 1) M1 fu i (by omega) (by omega) (h.cf hcf) b4
    rw [f_X7_byManner_46, if_neg (show ¬ (5 : Int32) ≤ nI i from nI_ge (b := 5) (by omega) (by decide)), wra_nI hk (by decide), Option.bind_some, b1, Option.bind_some, X1_numberOrNothing b3.1, Option.bind_some]
    dsimp only
    rw [nI_1]
    simp only [mskI] at f1
    refine ⟨M', ?_, hcf.tr f2⟩
    by_cases hv : nmS (setMn (gS S) k i) k = v
    · rw [if_neg (fun q => q hv), Option.bind_some]
      rw [if_pos (show mnS (gS S) k v i = true by unfold mnS; simp [hv])] at f1
      exact f1
    · rw [if_pos hv]
      rw [if_neg (show ¬ mnS (gS S) k v i = true by unfold mnS; simp [hv])] at f1
      exact f1
theorem X8_byManner_54 {σ : Sc} {k : Nat} {v : Int32} {M0 : Mem} (hw : WFs σ) (hk : k < 8) (h0 : SMr (M0 164) σ) : ∀ (j i : Nat) (M : Mem) (fuel : Nat), i + j = 5 → j < fuel → (∀ a, a ≠ 20 + k → M 164 a = M0 164 a) → ∃ M', f_X8_byManner_54 fuel M (nI k) v (M0 164 (20 + k)) (mskI (mnS σ k v) i) (nI i) = some (mskI (mnS σ k v) 5, M') ∧ M' 164 = M0 164 ∧ (∀ a, (a < 163 ∨ a = 165 ∨ a = 168 ∨ a = 169 ∨ a = 170) → M' a = M a) ∧ M' 163 7 = M 163 7 ∧ M' 163 8 = M 163 8 ∧ M' 163 12 = M 163 12 := by
  intro j
  induction j with
  | zero =>
    intro i M fuel him hf hM
    obtain ⟨fu, rfl⟩ : ∃ fu, fuel = fu + 1 := ⟨fuel - 1, by omega⟩
    rw [f_X8_byManner_54, if_pos (show (5 : Int32) ≤ nI i from nI_le (a := 5) (by omega) (by omega))]
    unfold f_X8_byManner_99
    rw [show (20 : Int32) = nI 20 from rfl, nI_add, wra_nI (by omega) (by decide), Option.bind_some]
    simp at him; subst him
    refine ⟨_, rfl, ?_, fun a ha => wr_ne (by omega), by rw [wr_ne (by decide)], by rw [wr_ne (by decide)], by rw [wr_ne (by decide)]⟩
    funext a
    rw [wr_ap]
    by_cases ha : a = 20 + k
    · simp [ha]
    · simp [ha]; exact hM a ha
  | succ j ih =>
    intro i M fuel him hf hM
    obtain ⟨fu, rfl⟩ : ∃ fu, fuel = fu + 1 := ⟨fuel - 1, by omega⟩
    have h1 : SMr (wr M 164 (20 + k) (nI i) 164) (setMn σ k i) := SMr.mn h0 hk (by rw [wr_ap, if_pos ⟨rfl, rfl⟩]) (fun a ha => by rw [wr_ap, if_neg (by omega)]; exact hM a ha)
    obtain ⟨M1, b1, b2⟩ := X8_numberOf (hw.mn (by omega)) hk h1
    obtain ⟨M', f1, f2, f3, f4, f5, f6⟩ := ih (i + 1) M1 fu (by omega) (by omega) (fun a ha => by rw [b2.1 164 (by omega), wr_ap, if_neg (by omega)]; exact hM a ha)
    rw [f_X8_byManner_54, if_neg (show ¬ (5 : Int32) ≤ nI i from nI_ge (b := 5) (by omega) (by decide)), show (20 : Int32) = nI 20 from rfl, nI_add, wra_nI (by omega) (by decide), Option.bind_some, b1, Option.bind_some]
    dsimp only
    rw [nI_1]
    simp only [mskI] at f1
    refine ⟨M', ?_, f2, fun a ha => by rw [f3 a ha, b2.1 a (by omega), wr_ne (by omega)], by rw [f4, b2.2.1 7 (by decide) (by decide) (by decide), wr_ne (by decide)], by rw [f5, b2.2.1 8 (by decide) (by decide) (by decide), wr_ne (by decide)], by rw [f6, b2.2.1 12 (by decide) (by decide) (by decide), wr_ne (by decide)]⟩
    by_cases hv : nmS (setMn σ k i) k = v
    · rw [if_neg (fun q => q hv), Option.bind_some]
      rw [if_pos (show mnS σ k v i = true by unfold mnS; simp [hv])] at f1
      exact f1
    · rw [if_pos hv, Int32.or_zero]
      rw [if_neg (show ¬ mnS σ k v i = true by unfold mnS; simp [hv])] at f1
      exact f1
theorem byManner_same {S : St} (hw : WFS S) (x v : Int32) : SAME S (fun M => f_X7_byManner M x v) (fun M => f_X8_byManner M x v) := by
  rcases argK x with ⟨k, hk, rfl⟩ | hx
  · have c8 : ∀ M, f_X8_byManner M (nI k) v = if 0 ≤ v then (if v ≤ 999 then Option.bind (rd 640 (M 164) (20 + nI k)) (fun v5 => f_X8_byManner_54 1000 M (nI k) v v5 0 0) else f_X8_no M (-6)) else f_X8_no M (-4) := by
      intro M
      unfold f_X8_byManner
      rw [X8_isKey hk, Option.bind_some]
      dsimp only
      rw [if_pos (by decide)]
      simp only [bind_eta]
    have c7 : ∀ M, f_X7_byManner M (nI k) v = Option.bind (f_X7_outside M v 999) fun z3 => f_X7_byManner_18 z3.2 (nI k) v z3.1 := by
      intro M
      unfold f_X7_byManner
      rw [X7_noKey hk, Option.bind_some]
      dsimp only
      rw [if_pos rfl]
    rcases argo v 999 (by decide) with ⟨n, hn, rfl⟩ | hz | ⟨hz1, hz2⟩
    · refine same_look hw (mskI (mnS (gS S) k (nI n)) 5) (fun M h => ?_) (fun M h => ?_)
      · rw [c7, show f_X7_outside M (nI n) 999 = some (0, M) from X7_out (n := 999) hn (by decide), Option.bind_some]
        dsimp only
        unfold f_X7_byManner_18
        obtain ⟨M2, b1, b2, b3⟩ := beco7 h hw
        rw [if_pos rfl, b1, Option.bind_some]
        obtain ⟨M', f1, f2⟩ := X7_byManner_46 (v := nI n) hw hk 5 0 M2 1000 (sMn (gS S) k) rfl (by decide) (h.cf b3) (by rw [setMn_self]; exact b2)
        exact ⟨M', f1, b3.tr f2⟩
      · rw [c8, if_pos (ge0 (by omega)), if_pos (show nI n ≤ 999 from nI_le (b := 999) hn (by decide)), show (20 : Int32) = nI 20 from rfl, nI_add, rd_nI (by omega) (by decide), Option.bind_some]
        obtain ⟨M', f1, f2, f3, f4, f5, f6⟩ := X8_byManner_54 (v := nI n) (M0 := M) hw.1 hk h.1 5 0 M 1000 rfl (by decide) (fun _ _ => rfl)
        exact ⟨M', f1, fun i hi => by
          by_cases h4 : i = 164
          · rw [h4]; exact f2
          · exact f3 i (by omega), f4, f5, f6⟩
    · refine same_no hw (-4) 4 neg4 (by decide) (fun M h => ?_) (fun M h => ?_)
      · rw [c7, X7_outL hz, Option.bind_some]
        dsimp only
        unfold f_X7_byManner_18
        rw [if_neg (by decide), bind_eta]
        exact ⟨M, rfl, CF.rf⟩
      · rw [c8, if_neg (nge0 hz)]
        exact ⟨M, rfl, MK.rf⟩
    · refine same_no hw (-6) 6 neg6 (by decide) (fun M h => ?_) (fun M h => ?_)
      · rw [c7, X7_outH (y := 999) hz1 hz2, Option.bind_some]
        dsimp only
        unfold f_X7_byManner_18
        rw [if_neg (by decide), bind_eta]
        exact ⟨M, rfl, CF.rf⟩
      · rw [c8, if_pos (ge0' hz1), if_neg (show ¬ v ≤ 999 from hz2)]
        exact ⟨M, rfl, MK.rf⟩
  · refine same_no hw (-1) 1 neg1 (by decide) (fun M h => ?_) (fun M h => ?_)
    · unfold f_X7_byManner
      rw [X7_noKey' hx, Option.bind_some]
      dsimp only
      unfold f_X7_byManner_18
      rw [if_neg (by decide), if_neg (by decide), bind_eta]
      exact ⟨M, rfl, CF.rf⟩
    · unfold f_X8_byManner
      rw [X8_isKey' hx, Option.bind_some]
      dsimp only
      rw [if_neg (by decide), bind_eta]
      exact ⟨M, rfl, MK.rf⟩
