theorem t_sh2 : ∀ x, x < 256 → ∀ k, k < 8 → ((nI x >>> (nI k &&& 31)) &&& 1) = if x.testBit k = true then 1 else 0 := by decide +kernel
def usN (σ : Sc) (k : Nat) : Nat := (askS σ k).2.2 ^^^ ((askS σ k).2.2 &&& 2 ^ k)
theorem usI_N {σ : Sc} {k : Nat} (hk : k < 8) (h : (askS σ k).2.2 < 256) : usI σ k = nI (usN σ k) ∧ usN σ k < 256 := by
  refine ⟨t_off _ h k hk, ?_⟩
  unfold usN
  exact Nat.xor_lt_two_pow (n := 8) h (Nat.lt_of_le_of_lt Nat.and_le_left h)
theorem X8_usesOf {M : Mem} {σ : Sc} {k : Nat} (hw : WFs σ) (hk : k < 8) (h : SMr (M 164) σ) : ∃ M', f_X8_usesOf M (nI k) = some (usI σ k, M') ∧ FRm 0 M M' := by
  obtain ⟨r, M', e1, e2, e3, e4, e5⟩ := X8_resolves hw hk h
  unfold f_X8_usesOf
  rw [e1, Option.bind_some]
  dsimp only
  rw [e4]
  exact ⟨M', rfl, e2⟩
theorem seen_lt {σ : Sc} (hw : WFs σ) {M : Mem} {k : Nat} (hk : k < 8) (h : SMr (M 164) σ) : (askS σ k).2.2 < 256 := by
  obtain ⟨r, M', e1, e2, e3, e4, e5⟩ := X8_resolves hw hk h
  exact e5
def ubS (σ : Sc) (k : Nat) : Nat → Bool := fun j => (usN σ j).testBit k
theorem uses_same {S : St} (hw : WFS S) (x y : Int32) : SAME S (fun M => f_X7_uses M x y) (fun M => f_X8_uses M x y) := by
  rcases argK x with ⟨k, hk, rfl⟩ | hx
  · have c7 : ∀ M, f_X7_uses M (nI k) y = if y = 0 then Option.bind (f_X2_ask M 1 (nI k)) (fun z4 => some (z4 34 13, z4)) else if y = 1 then f_X7_usedBy M (nI k) else f_X7_refuse M (-2) := by
      intro M
      unfold f_X7_uses
      rw [X7_noKey hk, Option.bind_some]
      dsimp only
      rw [if_pos rfl]
      simp only [bind_eta]
    have c8 : ∀ M, f_X8_uses M (nI k) y = Option.bind (f_X8_isIn M y 0 1) fun z3 => if ¬ z3.1 = 0 then (if ¬ y = 0 then f_X8_uses_44 1000 z3.2 (nI k) 0 0 else f_X8_usesOf z3.2 (nI k)) else f_X8_no z3.2 (-2) := by
      intro M
      unfold f_X8_uses
      rw [X8_isKey hk, Option.bind_some]
      dsimp only
      rw [if_pos (by decide)]
      simp only [bind_eta]
    rcases argc y 2 (by decide) with ⟨i, hi, rfl⟩ | hbad
    · have i2 : i = 0 ∨ i = 1 := by omega
      rcases i2 with rfl | rfl
      · refine same_look hw (usI (gS S) k) (fun M h => ?_) (fun M h => ?_)
        · obtain ⟨M', e1, e2, e3, e4, e5⟩ := ask7 h hw hk
          rw [c7, if_pos (by decide), e1, Option.bind_some, e5]
          exact ⟨M', rfl, e2⟩
        · obtain ⟨M', e1, e2⟩ := X8_usesOf hw.1 hk h.1
          rw [c8, show f_X8_isIn M (nI 0) 0 1 = some (1, M) from X8_isIn (n := 2) hi (by decide), Option.bind_some]
          dsimp only
          rw [if_pos (by decide), if_neg (by decide), e1]
          exact ⟨M', rfl, e2.mk⟩
      · refine same_look hw (mskI (ubS (gS S) k) 8) (fun M h => ?_) (fun M h => ?_)
        · have key : ∀ (m i : Nat) (M : Mem) (fuel : Nat), i + m = 8 → m < fuel → ClsI M S → ∃ M', f_X7_usedBy_4 fuel M (nI k) (mskI (ubS (gS S) k) i) (nI i) = some (mskI (ubS (gS S) k) 8, M') ∧ CF M M' := by
            intro m
            induction m with
            | zero =>
              intro i M fuel him hf h
              obtain ⟨fu, rfl⟩ : ∃ fu, fuel = fu + 1 := ⟨fuel - 1, by omega⟩
              rw [f_X7_usedBy_4, if_pos (show (8 : Int32) ≤ nI i from nI_le (a := 8) (by omega) (by omega))]
              simp at him; subst him; exact ⟨M, rfl, CF.rf⟩
            | succ m ih =>
              intro i M fuel him hf h
              obtain ⟨fu, rfl⟩ : ∃ fu, fuel = fu + 1 := ⟨fuel - 1, by omega⟩
              obtain ⟨M1, e1, e2, e3, e4⟩ := X2_ask (s := 1) (k := i) (Or.inl rfl) hw.1 (by omega) h.1
              obtain ⟨u1, u2⟩ := usI_N (σ := gS S) (k := i) (by omega) e4
              obtain ⟨M', f1, f2⟩ := ih (i + 1) M1 fu (by omega) (by omega) (h.cf e2.cf)
              rw [f_X7_usedBy_4, if_neg (show ¬ (8 : Int32) ≤ nI i from nI_ge (b := 8) (by omega) (by decide)), e1, Option.bind_some, e3.2.2, u1, t_sh2 _ u2 k hk, nI_1]
              simp only [mskI] at f1
              refine ⟨M', ?_, e2.cf.tr f2⟩
              by_cases hb : (usN (gS S) i).testBit k = true
              · rw [if_pos hb, if_neg (by decide), Option.bind_some]
                rw [if_pos (show ubS (gS S) k i = true from hb)] at f1
                exact f1
              · rw [if_neg hb, if_pos rfl]
                rw [if_neg (show ¬ ubS (gS S) k i = true from hb)] at f1
                exact f1
          rw [c7, if_neg (by decide), if_pos (by decide)]
          unfold f_X7_usedBy
          exact key 8 0 M 1000 rfl (by decide) h
        · have key : ∀ (m i : Nat) (M : Mem) (fuel : Nat), i + m = 8 → m < fuel → SMr (M 164) (gS S) → ∃ M', f_X8_uses_44 fuel M (nI k) (mskI (ubS (gS S) k) i) (nI i) = some (mskI (ubS (gS S) k) 8, M') ∧ FRm 0 M M' := by
            intro m
            induction m with
            | zero =>
              intro i M fuel him hf h
              obtain ⟨fu, rfl⟩ : ∃ fu, fuel = fu + 1 := ⟨fuel - 1, by omega⟩
              rw [f_X8_uses_44, if_pos (show (8 : Int32) ≤ nI i from nI_le (a := 8) (by omega) (by omega))]
              simp at him; subst him; exact ⟨M, rfl, FRm.rf⟩
            | succ m ih =>
              intro i M fuel him hf h
              obtain ⟨fu, rfl⟩ : ∃ fu, fuel = fu + 1 := ⟨fuel - 1, by omega⟩
              obtain ⟨M1, e1, e2⟩ := X8_usesOf (k := i) hw.1 (by omega) h
              obtain ⟨u1, u2⟩ := usI_N (σ := gS S) (k := i) (by omega) (seen_lt hw.1 (by omega) h)
              obtain ⟨M', f1, f2⟩ := ih (i + 1) M1 fu (by omega) (by omega) (by rw [e2.1 164 (by omega)]; exact h)
              rw [f_X8_uses_44, if_neg (show ¬ (8 : Int32) ≤ nI i from nI_ge (b := 8) (by omega) (by decide)), e1, Option.bind_some, Option.bind_some]
              dsimp only
              rw [u1, t_sh2 _ u2 k hk, nI_1]
              simp only [mskI] at f1
              refine ⟨M', ?_, e2.tr f2⟩
              by_cases hb : (usN (gS S) i).testBit k = true
              · rw [if_pos hb, (sh_t i (by omega)).1]
                rw [if_pos (show ubS (gS S) k i = true from hb)] at f1
                exact f1
              · rw [if_neg hb, (sh_t i (by omega)).2, Int32.or_zero]
                rw [if_neg (show ¬ ubS (gS S) k i = true from hb)] at f1
                exact f1
          rw [c8, show f_X8_isIn M (nI 1) 0 1 = some (1, M) from X8_isIn (n := 2) hi (by decide), Option.bind_some]
          dsimp only
          rw [if_pos (by decide), if_pos (by decide)]
          obtain ⟨M', e1, e2⟩ := key 8 0 M 1000 rfl (by decide) h.1
          exact ⟨M', e1, e2.mk⟩
    · have nb : ∀ i, i < 2 → ¬ y = nI i := fun i hi => ne_of_bad (n := 2) hbad hi (by decide)
      refine same_no hw (-2) 2 neg2 (by decide) (fun M h => ?_) (fun M h => ?_)
      · rw [c7, if_neg (show ¬ y = 0 from nb 0 (by decide)), if_neg (show ¬ y = 1 from nb 1 (by decide))]
        exact ⟨M, rfl, CF.rf⟩
      · rw [c8, show f_X8_isIn M y 0 1 = some (0, M) from X8_isIn' (n := 2) hbad (by decide) (by decide), Option.bind_some]
        dsimp only
        rw [if_neg (by decide)]
        exact ⟨M, rfl, MK.rf⟩
  · refine same_no hw (-1) 1 neg1 (by decide) (fun M h => ?_) (fun M h => ?_)
    · unfold f_X7_uses
      rw [X7_noKey' hx, Option.bind_some]
      dsimp only
      rw [if_neg (by decide), bind_eta]
      exact ⟨M, rfl, CF.rf⟩
    · unfold f_X8_uses
      rw [X8_isKey' hx, Option.bind_some]
      dsimp only
      rw [if_neg (by decide), bind_eta]
      exact ⟨M, rfl, MK.rf⟩
