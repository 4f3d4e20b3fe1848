def nvS (σ : Sc) (k : Nat) : Nat := (nmS σ k).toNatClampNeg
theorem ni999 : ∀ n, n ≤ 999 → (nI n).toNatClampNeg = n ∧ nI n ≠ -9 := by
  have : ∀ n, n < 1000 → (nI n).toNatClampNeg = n ∧ nI n ≠ -9 := by decide +kernel
  exact fun n hn => this n (by omega)
theorem nvS_rng {σ : Sc} (hw : WFs σ) {k : Nat} (hk : k < 8) : (nmS σ k = -9 ∧ nvS σ k = 0) ∨ (nmS σ k ≠ -9 ∧ nmS σ k = nI (nvS σ k) ∧ nvS σ k ≤ 999) := by
  unfold nvS
  rcases nmS_rng hw hk with h | ⟨i, hi, h⟩
  · left; rw [h]; exact ⟨rfl, by decide⟩
  · right; rw [h, (ni999 i hi).1]; exact ⟨(ni999 i hi).2, rfl, hi⟩
theorem soS2 {σ : Sc} (hw : WFs σ) {k : Nat} (hk : k < 8) : soS σ 2 k = true ↔ nmS σ k ≠ -9 := by
  have hg := askS_good hw hk
  unfold soS isSoS nmS
  rw [if_neg (by decide), if_neg (by decide)]
  rcases hx : (askS σ k).1 with fs | ⟨v | v, s, d⟩
  · simp
  · rw [hx] at hg
    dsimp only
    have : v ≠ -9 := by
      obtain ⟨i, hi, rfl⟩ := hg
      exact (ni999 i hi).2
    simp [this]
  · simp
def cB (p : Nat → Bool) : Nat → Nat
  | 0 => 0
  | n + 1 => cB p n + if p n = true then 1 else 0
theorem cB_le (p : Nat → Bool) : ∀ n, cB p n ≤ n := by
  intro n
  induction n with
  | zero => exact Nat.le_refl _
  | succ n ih => simp only [cB]; split <;> omega
theorem pc_cB (p : Nat → Bool) : pcN (mskB p 8) = cB p 8 := by
  have h : ∀ j, j < 8 → (mskB p 8).testBit j = p j := fun j hj => by rw [mskB_tb]; simp [hj]
  show List.countP _ [0, 1, 2, 3, 4, 5, 6, 7] = _
  simp only [List.countP_cons, List.countP_nil, h 0 (by decide), h 1 (by decide), h 2 (by decide), h 3 (by decide), h 4 (by decide), h 5 (by decide), h 6 (by decide), h 7 (by decide), cB]
  omega
def tvS (σ : Sc) : Nat → Nat
  | 0 => 0
  | n + 1 => tvS σ n + nvS σ n
theorem tvS_le {σ : Sc} (hw : WFs σ) : ∀ n, n ≤ 8 → tvS σ n ≤ 999 * n := by
  intro n
  induction n with
  | zero => intro _; exact Nat.le_refl _
  | succ n ih =>
    intro h
    have := ih (by omega)
    simp only [tvS]
    rcases nvS_rng hw (show n < 8 by omega) with ⟨-, a⟩ | ⟨-, -, a⟩ <;> omega
theorem X7_mean_24 {S : St} {w : Nat} (hw : WFS S) (hw2 : w < 2) : ∀ (m i : Nat) (M : Mem) (fuel : Nat), i + m = 8 → m < fuel → ClsI M S → ∃ M', f_X7_mean_24 fuel M (nI w) (nL (tvS (gS S) i)) (nL (cB (soS (gS S) 2) i)) (nI i) = some (nL (ltS (tvS (gS S) 8) (cB (soS (gS S) 2) 8) w), M') ∧ CF M M' := by
  intro m
  induction m with
  | zero =>
    intro i M fuel him hf h
    obtain ⟨fu, rfl⟩ : ∃ fu, fuel = fu + 1 := ⟨fuel - 1, by omega⟩
    simp at him; subst him
    have h1 := tvS_le hw.1 8 (by decide)
    have h2 := cB_le (soS (gS S) 2) 8
    rw [f_X7_mean_24, if_pos (show (8 : Int32) ≤ nI 8 by decide), X7_leastTerms (by omega) (by omega) hw2]
    exact ⟨M, rfl, CF.rf⟩
  | succ m ih =>
    intro i M fuel him hf h
    obtain ⟨fu, rfl⟩ : ∃ fu, fuel = fu + 1 := ⟨fuel - 1, by omega⟩
    have hi : i < 8 := by omega
    obtain ⟨M1, a1, a2, a3, -⟩ := ask7 h hw hi
    obtain ⟨M', f1, f2⟩ := ih (i + 1) M1 fu (by omega) (by omega) (h.cf a2)
    rw [f_X7_mean_24, if_neg (show ¬ (8 : Int32) ≤ nI i from nI_ge (b := 8) (by omega) (by decide)), a1, Option.bind_some, X1_numberOrNothing a3, Option.bind_some, nI_1]
    dsimp only
    refine ⟨M', ?_, a2.tr f2⟩
    simp only [tvS, cB] at f1
    have hs := soS2 hw.1 hi
    rcases nvS_rng hw.1 hi with ⟨b1, b2⟩ | ⟨b1, b2, b3⟩
    · rw [if_pos b1]
      rw [b2, if_neg (fun q => (hs.mp q) b1)] at f1
      exact f1
    · rw [if_neg b1, Option.bind_some, b2, nL_of (by omega), nL_add, show (1 : Int64) = nL 1 from rfl, nL_add]
      rw [if_pos (hs.mpr b1)] at f1
      exact f1
theorem X8_sum {M : Mem} {σ : Sc} (hw : WFs σ) (h : SMr (M 164) σ) : ∃ M', f_X8_sum M = some (nI (tvS σ 8), M') ∧ FRm 0 M M' := by
  have key : ∀ (m i : Nat) (M : Mem) (fuel : Nat), i + m = 8 → m < fuel → SMr (M 164) σ → ∃ M', f_X8_sum_4 fuel M (nI (tvS σ i)) (nI i) = some (nI (tvS σ 8), M') ∧ FRm 0 M M' := by
    intro m
    induction m with
    | zero =>
      intro i M fuel him hf h
      obtain ⟨fu, rfl⟩ : ∃ fu, fuel = fu + 1 := ⟨fuel - 1, by omega⟩
      simp at him; subst him
      rw [f_X8_sum_4, if_pos (show (8 : Int32) ≤ nI 8 by decide)]
      exact ⟨M, rfl, FRm.rf⟩
    | succ m ih =>
      intro i M fuel him hf h
      obtain ⟨fu, rfl⟩ : ∃ fu, fuel = fu + 1 := ⟨fuel - 1, by omega⟩
      have hi : i < 8 := by omega
      obtain ⟨M1, a1, a2⟩ := X8_numberOf hw hi h
      obtain ⟨M', f1, f2⟩ := ih (i + 1) M1 fu (by omega) (by omega) (by rw [a2.1 164 (by omega)]; exact h)
      rw [f_X8_sum_4, if_neg (show ¬ (8 : Int32) ≤ nI i from nI_ge (b := 8) (by omega) (by decide)), a1, Option.bind_some, nI_1]
      dsimp only
      refine ⟨M', ?_, a2.tr f2⟩
      simp only [tvS] at f1
      rcases nvS_rng hw hi with ⟨b1, b2⟩ | ⟨b1, b2, b3⟩
      · rw [if_neg (fun q => q b1), Int32.add_zero]
        rw [b2] at f1
        exact f1
      · rw [if_pos b1, b2, nI_add]
        exact f1
  exact key 8 0 M 1000 rfl (by decide) h
theorem mean_same {S : St} (hw : WFS S) (x : Int32) : SAME S (fun M => f_X7_mean M x) (fun M => f_X8_mean M x) := by
  rcases argc x 2 (by decide) with ⟨w, hw2, rfl⟩ | hx
  · refine same_look hw (nL (ltS (tvS (gS S) 8) (cB (soS (gS S) 2) 8) w)) (fun M h => ?_) (fun M h => ?_)
    · unfold f_X7_mean
      rw [if_neg (nI_pos (by omega)), if_pos (show nI w ≤ 1 from nI_le (b := 1) (by omega) (by decide))]
      exact X7_mean_24 hw hw2 8 0 M 1000 rfl (by decide) h
    · unfold f_X8_mean
      rw [show f_X8_isIn M (nI w) 0 1 = some (1, M) from X8_isIn (n := 2) hw2 (by decide), Option.bind_some]
      dsimp only
      obtain ⟨M1, a1, a2⟩ := X8_allSo (w := 2) hw.1 (by decide) h.1
      have a1' : f_X8_allSo M 2 = _ := a1
      have h2 := cB_le (soS (gS S) 2) 8
      have h1 := tvS_le hw.1 8 (by decide)
      rw [if_pos (show ¬ (1 : Int32) = 0 by decide), a1', Option.bind_some]
      dsimp only
      rw [mskI_B _ 8 (by decide), X8_ones (mskB_lt _ 8 (by decide)), Option.bind_some, pc_cB]
      dsimp only
      by_cases h0 : cB (soS (gS S) 2) 8 = 0
      · rw [if_neg (fun q => q (by rw [h0]; rfl))]
        refine ⟨M1, ?_, a2.mk⟩
        have hz : ∀ n, n ≤ 8 → cB (soS (gS S) 2) n = 0 → tvS (gS S) n = 0 := by
          intro n
          induction n with
          | zero => intro _ _; rfl
          | succ n ih =>
            intro hn hc
            simp only [cB] at hc
            simp only [tvS]
            have h5 := ih (by omega) (by omega)
            rcases nvS_rng hw.1 (show n < 8 by omega) with ⟨b1, b2⟩ | ⟨b1, b2, b3⟩
            · omega
            · rw [if_pos ((soS2 hw.1 (by omega)).mpr b1)] at hc; omega
        have := hz 8 (by decide) h0
        unfold ltS
        rw [this, h0, if_pos (by decide), nL_of (by omega)]
      · rw [if_pos (show ¬ nI (cB (soS (gS S) 2) 8) = 0 from fun q => h0 ((nI_eq (b := 0) (by omega) (by decide)).mp q))]
        obtain ⟨M2, b1, b2⟩ := X8_sum (M := M1) hw.1 (by rw [a2.1 164 (by omega)]; exact h.1)
        rw [b1, Option.bind_some]
        dsimp only
        rw [nL_of (by omega), nL_of (by omega), X8_part (by omega) (by omega) (by omega) hw2]
        exact ⟨M2, rfl, (a2.tr b2).mk⟩
  · refine same_noL hw (-2) 2 neg2 (by decide) (fun M h => ?_) (fun M h => ?_)
    · unfold f_X7_mean
      by_cases h0 : x < 0
      · rw [if_pos h0, bind_eta]; exact ⟨M, rfl, CF.rf⟩
      · rw [if_neg h0, if_neg (fun q => ?_)]
        · rw [bind_eta]; exact ⟨M, rfl, CF.rf⟩
        · obtain ⟨i, hi, rfl⟩ := nI_of h0
          rcases hx with hx | hx
          · exact h0 hx
          · exact nI_ge (a := 1) (b := i) (by
              by_cases h3 : i < 2
              · exact absurd (nI_lt h3 (by decide)) hx
              · omega) hi q
    · unfold f_X8_mean
      rw [show f_X8_isIn M x 0 1 = some (0, M) from X8_isIn' (n := 2) hx (by decide) (by decide), Option.bind_some]
      dsimp only
      rw [if_neg (by decide), bind_eta]
      exact ⟨M, rfl, MK.rf⟩
