theorem law_steps (xs : Nat → Int32) (L : Nat) (hL : L ≤ 2560) : ∀ (n i : Nat) (M : Mem) (S : St), i ≤ L → L < i + 5 * n → ClsI M S → ModI M S → WFS S → f_L_law_18 xs L n M (nI i) = some 1 := by
  intro n
  induction n with
  | zero => intro i M S hi hn; omega
  | succ n ih =>
    intro i M S hi hn h7 h8 hw
    rw [f_L_law_18]
    by_cases hm : L < i + 5
    · rw [if_pos ((law_more hL hi).mpr hm)]
    rw [if_neg (fun q => hm ((law_more hL hi).mp q))]
    have r0 : rds L xs (nI i) = some (xs i) := by
      have := rds_at (xs := xs) (i := i) (k := 0) (by omega : i + 0 < L) hL
      rw [nI_add] at this
      exact this
    have r1 : rds L xs (nI i + 1) = some (xs (i + 1)) := rds_at (k := 1) (by omega) hL
    have r2 : rds L xs (nI i + 2) = some (xs (i + 2)) := rds_at (k := 2) (by omega) hL
    have r3 : rds L xs (nI i + 3) = some (xs (i + 3)) := rds_at (k := 3) (by omega) hL
    have r4 : rds L xs (nI i + 4) = some (xs (i + 4)) := rds_at (k := 4) (by omega) hL
    have hF : ∀ A S', ClsI A S' → ModI A S' → WFS S' → f_L_law_18 xs L n A (nI i + 5) = some 1 := fun A S' a b c => by
      rw [show nI i + 5 = nI (i + 5) from nI_add i 5]
      exact ih (i + 5) A S' (by omega) (by omega) a b c
    simp only [r0, r1, r2, r3, r4, Option.bind_some]
    refine ite1 (law_call (F := fun A => f_L_law_18 xs L n A (nI i + 5)) (letter_same hw (xs (i + 1))) h7 h8 hF) ?_
    refine ite1 (law_call (F := fun A => f_L_law_18 xs L n A (nI i + 5)) (settings_same hw ) h7 h8 hF) ?_
    refine ite1 (law_call (F := fun A => f_L_law_18 xs L n A (nI i + 5)) (turns_same hw (xs (i + 1))) h7 h8 hF) ?_
    refine ite1 (law_call (F := fun A => f_L_law_18 xs L n A (nI i + 5)) (kind_same hw (xs (i + 1)) (xs (i + 2)) (xs (i + 3))) h7 h8 hF) ?_
    refine ite1 (law_call (F := fun A => f_L_law_18 xs L n A (nI i + 5)) (manner_same hw (xs (i + 1)) (xs (i + 2))) h7 h8 hF) ?_
    refine ite1 (law_call (F := fun A => f_L_law_18 xs L n A (nI i + 5)) (sets_same hw (xs (i + 1)) (xs (i + 2)) (xs (i + 3))) h7 h8 hF) ?_
    refine ite1 (law_call (F := fun A => f_L_law_18 xs L n A (nI i + 5)) (adds_same hw (xs (i + 1)) (xs (i + 2)) (xs (i + 3)) (xs (i + 4))) h7 h8 hF) ?_
    refine ite1 (law_call (F := fun A => f_L_law_18 xs L n A (nI i + 5)) (refers_same hw (xs (i + 1)) (xs (i + 2)) (xs (i + 3)) (xs (i + 4))) h7 h8 hF) ?_
    refine ite1 (law_call (F := fun A => f_L_law_18 xs L n A (nI i + 5)) (gap_same hw (xs (i + 1)) (xs (i + 2))) h7 h8 hF) ?_
    refine ite1 (law_call (F := fun A => f_L_law_18 xs L n A (nI i + 5)) (drops_same hw (xs (i + 1)) (xs (i + 2))) h7 h8 hF) ?_
    refine ite1 (law_call (F := fun A => f_L_law_18 xs L n A (nI i + 5)) (layer_same hw (xs (i + 1)) (xs (i + 2))) h7 h8 hF) ?_
    refine ite1 (law_call (F := fun A => f_L_law_18 xs L n A (nI i + 5)) (entry_same hw (xs (i + 1)) (xs (i + 2)) (xs (i + 3))) h7 h8 hF) ?_
    refine ite1 (law_call (F := fun A => f_L_law_18 xs L n A (nI i + 5)) (value_same hw (xs (i + 1)) (xs (i + 2))) h7 h8 hF) ?_
    refine ite1 (law_call (F := fun A => f_L_law_18 xs L n A (nI i + 5)) (item_same hw (xs (i + 1)) (xs (i + 2)) (xs (i + 3))) h7 h8 hF) ?_
    refine ite1 (law_call (F := fun A => f_L_law_18 xs L n A (nI i + 5)) (fault_same hw (xs (i + 1)) (xs (i + 2)) (xs (i + 3))) h7 h8 hF) ?_
    refine ite1 (law_call (F := fun A => f_L_law_18 xs L n A (nI i + 5)) (sources_same hw (xs (i + 1)) (xs (i + 2))) h7 h8 hF) ?_
    refine ite1 (law_call (F := fun A => f_L_law_18 xs L n A (nI i + 5)) (uses_same hw (xs (i + 1)) (xs (i + 2))) h7 h8 hF) ?_
    refine ite1 (law_call (F := fun A => f_L_law_18 xs L n A (nI i + 5)) (all_same hw (xs (i + 1))) h7 h8 hF) ?_
    refine ite1 (law_call (F := fun A => f_L_law_18 xs L n A (nI i + 5)) (hidden_same hw (xs (i + 1))) h7 h8 hF) ?_
    refine ite1 (law_call (F := fun A => f_L_law_18 xs L n A (nI i + 5)) (without_same hw (xs (i + 1)) (xs (i + 2))) h7 h8 hF) ?_
    refine ite1 (law_call (F := fun A => f_L_law_18 xs L n A (nI i + 5)) (turn_same hw (xs (i + 1)) (xs (i + 2))) h7 h8 hF) ?_
    refine ite1 (law_call (F := fun A => f_L_law_18 xs L n A (nI i + 5)) (set_same hw (xs (i + 1)) (xs (i + 2)) (xs (i + 3)) (xs (i + 4))) h7 h8 hF) ?_
    refine ite1 (law_call (F := fun A => f_L_law_18 xs L n A (nI i + 5)) (byManner_same hw (xs (i + 1)) (xs (i + 2))) h7 h8 hF) ?_
    refine ite1 (law_call (F := fun A => f_L_law_18 xs L n A (nI i + 5)) (fewest_same hw ) h7 h8 hF) ?_
    refine ite1 (law_call (F := fun A => f_L_law_18 xs L n A (nI i + 5)) (since_same hw ) h7 h8 hF) ?_
    refine ite1 (law_callL (F := fun A => f_L_law_18 xs L n A (nI i + 5)) (missing_same hw (xs (i + 1)) (xs (i + 2)) (xs (i + 3)) (xs (i + 4))) h7 h8 hF) ?_
    refine ite1 (law_callL (F := fun A => f_L_law_18 xs L n A (nI i + 5)) (mean_same hw (xs (i + 1))) h7 h8 hF) ?_
    refine ite1 (law_call (F := fun A => f_L_law_18 xs L n A (nI i + 5)) (whatIs_same hw (xs (i + 1)) (xs (i + 2))) h7 h8 hF) ?_
    refine ite1 (law_call (F := fun A => f_L_law_18 xs L n A (nI i + 5)) (row_same hw (xs (i + 1))) h7 h8 hF) ?_
    refine ite1 (law_call (F := fun A => f_L_law_18 xs L n A (nI i + 5)) (judge_same hw ) h7 h8 hF) ?_
    refine ite1 (law_call (F := fun A => f_L_law_18 xs L n A (nI i + 5)) (clear_same hw ) h7 h8 hF) ?_
    refine ite1 (law_call (F := fun A => f_L_law_18 xs L n A (nI i + 5)) (lots_same hw (xs (i + 1)) (xs (i + 2)) (xs (i + 3))) h7 h8 hF) ?_
    refine ite1 (law_call (F := fun A => f_L_law_18 xs L n A (nI i + 5)) (image_same hw ) h7 h8 hF) ?_
    refine ite1 (law_call (F := fun A => f_L_law_18 xs L n A (nI i + 5)) (on_same hw ) h7 h8 hF) ?_
    refine ite1 (law_call (F := fun A => f_L_law_18 xs L n A (nI i + 5)) (count_same hw (xs (i + 1))) h7 h8 hF) ?_
    exact hF M S h7 h8 hw
theorem law_pure (xs : Nat → Int32) (L : Nat) (hL : L ≤ 2560) : f_L_law_18 xs L 1000 Minit (nI 0) = some 1 := law_steps xs L hL 1000 0 Minit S0 (Nat.zero_le _) (by omega) S0_cls S0_mod S0_wf
