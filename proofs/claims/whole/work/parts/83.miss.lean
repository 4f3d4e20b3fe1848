def misS (σ : Sc) (o k : Nat) (v : Int32) (b : Nat) : Nat → Nat → Nat
  | 0, _ => 0
  | m + 1, i => (if (nI i &&& (nI o ^^^ (-1))) = 0 ∧ nmS (setOns σ (bitf i)) k = v then b ^ pcN i else 0) + misS σ o k v b m (i + 1)
theorem pow19 {b e : Nat} (hb : b ≤ 20) (he : e ≤ 6) : b ^ e ≤ 64000000 :=
  Nat.le_trans (Nat.pow_le_pow_left hb e) (Nat.le_trans (Nat.pow_le_pow_right (by decide) he) (by decide))
theorem misS_le {σ : Sc} {o k : Nat} {v : Int32} {b : Nat} (hb : b ≤ 20) : ∀ (m i : Nat), i + m = 64 → misS σ o k v b m i ≤ m * 64000000 := by
  intro m
  induction m with
  | zero => intro i _; exact Nat.le_of_eq (by simp [misS])
  | succ m ih =>
    intro i him
    have h1 := ih (i + 1) (by omega)
    have h2 := pow19 (e := pcN i) hb (by have := pc6 i (by omega); omega)
    simp only [misS]
    split <;> omega
theorem cB_pc : ∀ s, s < 64 → cB (bitf s) 6 = pcN s := by decide +kernel
theorem misS_y {σ : Sc} {o k : Nat} {v : Int32} {b m i : Nat} (h : (nI i &&& (nI o ^^^ (-1))) = 0) (h2 : nmS (setOns σ (bitf i)) k = v) : misS σ o k v b (m + 1) i = b ^ pcN i + misS σ o k v b m (i + 1) := by
  simp only [misS]; rw [if_pos ⟨h, h2⟩]
theorem misS_n {σ : Sc} {o k : Nat} {v : Int32} {b m i : Nat} (h : ¬ ((nI i &&& (nI o ^^^ (-1))) = 0 ∧ nmS (setOns σ (bitf i)) k = v)) : misS σ o k v b (m + 1) i = misS σ o k v b m (i + 1) := by
  simp only [misS]; rw [if_neg h, Nat.zero_add]
/-! the class -/
theorem X7_missing_84 {S : St} {k v t w : Nat} (hw : WFS S) (hk : k < 8) (ht : 2 ≤ t) (ht2 : t ≤ 20) (hw2 : w < 2) : ∀ (m i A : Nat) (M : Mem) (fuel : Nat) (q : Nat → Bool), i + m = 64 → m < fuel → ClsI M S → SCr M 21 (setOns (gS S) q) → A + misS (gS S) (mskB (sOn (gS S)) 6) k (nI v) (t - 1) m i < 2 ^ 62 → ∃ M', f_X7_missing_84 fuel M (nI k) (nI v) (nI t) (nI w) (nL A) (nI i) = some (nL (ltS (A + misS (gS S) (mskB (sOn (gS S)) 6) k (nI v) (t - 1) m i) (t ^ pcN (mskB (sOn (gS S)) 6)) w), M') ∧ CF M M' := by
  intro m
  induction m with
  | zero =>
    intro i A M fuel q him hf h hs hA
    obtain ⟨fu, rfl⟩ : ∃ fu, fuel = fu + 1 := ⟨fuel - 1, by omega⟩
    have h6 := pc6 _ (msk6_lt (sOn (gS S)))
    have hp := pow19 (b := t) (e := pcN (mskB (sOn (gS S)) 6)) ht2 (by omega)
    rw [f_X7_missing_84, if_pos (show (64 : Int32) ≤ nI i from nI_le (a := 64) (by omega) (by omega))]
    unfold f_X7_missing_157
    rw [h.1.1, J6_bitCount (mskB_lt _ 6 (by decide)), Option.bind_some]
    dsimp only
    rw [nL_of (by omega), X7_power (by omega), Option.bind_some]
    dsimp only
    simp only [misS, Nat.add_zero] at hA ⊢
    rw [X7_leastTerms hA (by omega) hw2, Option.bind_some]
    exact ⟨M, rfl, CF.rf⟩
  | succ m ih =>
    intro i A M fuel q him hf h hs hA
    obtain ⟨fu, rfl⟩ : ∃ fu, fuel = fu + 1 := ⟨fuel - 1, by omega⟩
    have hi : i < 64 := by omega
    have h1 : SCr (wr M 21 0 (nI i)) 21 (setOns (gS S) (bitf i)) := SCr.ons (σ := setOns (gS S) q) hs (by rw [wr_ap, if_pos ⟨rfl, rfl⟩, msk_bits hi]) (fun j a b => wr_ne (by omega))
    have hc1 : CF M (wr M 21 0 (nI i)) := CF.wt (by decide) (by decide)
    rw [f_X7_missing_84, if_neg (show ¬ (64 : Int32) ≤ nI i from nI_ge (b := 64) (by omega) (by decide)), wrf_eq, Option.bind_some, nI_1]
    rw [show wr M 21 0 (nI i) 1 0 = nI (mskB (sOn (gS S)) 6) by rw [wr_ne (by decide)]; exact h.1.1]
    by_cases hsub : (nI i &&& (nI (mskB (sOn (gS S)) 6) ^^^ (-1))) = 0
    · obtain ⟨M1, b1, b2, b3, b4⟩ := asks7 h1 (hw.1.on _) hk
      have hc2 : CF M M1 := hc1.tr b2.cf
      rw [if_neg (fun x => x hsub), b1, Option.bind_some, X1_numberOrNothing b3.1, Option.bind_some]
      dsimp only
      by_cases hv : nmS (setOns (gS S) (bitf i)) k = nI v
      · rw [misS_y hsub hv] at hA ⊢
        rw [if_neg (fun x => x hv), J6_bitCount (by omega), Option.bind_some]
        dsimp only
        rw [nI_pred1 (by omega), nL_of (by omega), X7_power (by have := pc6 i hi; omega), Option.bind_some]
        dsimp only
        rw [nL_add]
        rw [← Nat.add_assoc] at hA ⊢
        obtain ⟨M', f1, f2⟩ := ih (i + 1) _ M1 fu _ (by omega) (by omega) (h.cf hc2) b4 hA
        exact ⟨M', f1, hc2.tr f2⟩
      · rw [misS_n (fun x => hv x.2)] at hA ⊢
        rw [if_pos hv]
        obtain ⟨M', f1, f2⟩ := ih (i + 1) A M1 fu _ (by omega) (by omega) (h.cf hc2) b4 hA
        exact ⟨M', f1, hc2.tr f2⟩
    · rw [misS_n (fun x => hsub x.1)] at hA ⊢
      rw [if_pos hsub]
      obtain ⟨M', f1, f2⟩ := ih (i + 1) A _ fu _ (by omega) (by omega) (h.cf hc1) h1 hA
      exact ⟨M', f1, hc1.tr f2⟩
/-! the reference -/
theorem X8_missing_81 {M : Mem} {k v t w o : Nat} (hw2 : w < 2) (ho : o < 64) (ht2 : t ≤ 20) : ∀ (m i fuel : Nat), i + m = 6 → m < fuel → f_X8_missing_81 fuel M (nI k) (nI v) (nI t) (nI w) (nI o) 0 (nL (t ^ cB (bitf o) i)) (nI i) = f_X8_missing_119 1000 M (nI k) (nI v) (nI t) (nI w) (nI o) 0 (nL (t ^ cB (bitf o) 6)) 0 := by
  intro m
  induction m with
  | zero =>
    intro i fuel him hf
    obtain ⟨fu, rfl⟩ : ∃ fu, fuel = fu + 1 := ⟨fuel - 1, by omega⟩
    simp at him; subst him
    rw [f_X8_missing_81, if_pos (show (6 : Int32) ≤ nI 6 by decide)]
  | succ m ih =>
    intro i fuel him hf
    obtain ⟨fu, rfl⟩ : ∃ fu, fuel = fu + 1 := ⟨fuel - 1, by omega⟩
    have g := ih (i + 1) fu (by omega) (by omega)
    simp only [cB] at g
    rw [f_X8_missing_81, if_neg (show ¬ (6 : Int32) ≤ nI i from nI_ge (b := 6) (by omega) (by decide)), tb_t o ho i (by omega), nI_1]
    by_cases hb : o.testBit i = true
    · rw [if_pos hb, if_neg (show ¬ ¬ (1 : Int32) = 1 by decide), Option.bind_some, nL_of (by omega), nL_mul, ← Nat.pow_succ]
      rw [if_pos (show bitf o i = true from hb)] at g
      exact g
    · rw [if_neg hb, if_pos (show ¬ (0 : Int32) = 1 by decide), Int64.mul_one]
      rw [if_neg (show ¬ bitf o i = true from hb)] at g
      exact g
theorem X8_missing_151 {M : Mem} {k v t w o s : Nat} {K : Mem → Int32 → Int32 → Int32 → Int32 → Int32 → Int64 → Int64 → Int32 → Option (Int64 × Mem)} {A B : Int64} (hs : s < 64) (ht : 2 ≤ t) (ht2 : t ≤ 20) : ∀ (m i fuel : Nat), i + m = 6 → m < fuel → f_X8_missing_151 K fuel M (nI k) (nI v) (nI t) (nI w) (nI o) A B (nI s) (nL ((t - 1) ^ cB (bitf s) i)) (nI i) = f_X8_missing_188 K M (nI k) (nI v) (nI t) (nI w) (nI o) A B (nI s) (nL ((t - 1) ^ cB (bitf s) 6)) := by
  intro m
  induction m with
  | zero =>
    intro i fuel him hf
    obtain ⟨fu, rfl⟩ : ∃ fu, fuel = fu + 1 := ⟨fuel - 1, by omega⟩
    simp at him; subst him
    rw [f_X8_missing_151, if_pos (show (6 : Int32) ≤ nI 6 by decide)]
  | succ m ih =>
    intro i fuel him hf
    obtain ⟨fu, rfl⟩ : ∃ fu, fuel = fu + 1 := ⟨fuel - 1, by omega⟩
    have g := ih (i + 1) fu (by omega) (by omega)
    simp only [cB] at g
    rw [f_X8_missing_151, if_neg (show ¬ (6 : Int32) ≤ nI i from nI_ge (b := 6) (by omega) (by decide)), tb_t s hs i (by omega), nI_1]
    by_cases hb : s.testBit i = true
    · rw [if_pos hb, if_neg (show ¬ ¬ (1 : Int32) = 1 by decide), Option.bind_some, nI_pred1 (by omega), nL_of (by omega), nL_mul, ← Nat.pow_succ]
      rw [if_pos (show bitf s i = true from hb)] at g
      exact g
    · rw [if_neg hb, if_pos (show ¬ (0 : Int32) = 1 by decide), Int64.mul_one]
      rw [if_neg (show ¬ bitf s i = true from hb)] at g
      exact g
theorem X8_missing_119 {σ : Sc} {k v t w : Nat} (hw : WFs σ) (hk : k < 8) (ht : 2 ≤ t) (ht2 : t ≤ 20) (hw2 : w < 2) : ∀ (m i A : Nat) (M : Mem) (fuel : Nat) (q : Nat → Bool), i + m = 64 → m < fuel → SMr (M 164) (setOns σ q) → A + misS σ (mskB (sOn σ) 6) k (nI v) (t - 1) m i < 2 ^ 62 → ∃ M', f_X8_missing_119 fuel M (nI k) (nI v) (nI t) (nI w) (nI (mskB (sOn σ) 6)) (nL A) (nL (t ^ cB (bitf (mskB (sOn σ) 6)) 6)) (nI i) = some (nL (ltS (A + misS σ (mskB (sOn σ) 6) k (nI v) (t - 1) m i) (t ^ pcN (mskB (sOn σ) 6)) w), M') ∧ MT M M' ∧ SMr (M' 164) σ := by
  intro m
  induction m with
  | zero =>
    intro i A M fuel q him hf h hA
    obtain ⟨fu, rfl⟩ : ∃ fu, fuel = fu + 1 := ⟨fuel - 1, by omega⟩
    have h6 := pc6 _ (msk6_lt (sOn σ))
    have hp := pow19 (b := t) (e := pcN (mskB (sOn σ) 6)) ht2 (by omega)
    obtain ⟨M', e1, e2, e3⟩ := X8_turnsTo (msk6_lt (sOn σ)) h
    rw [f_X8_missing_119, if_pos (show (64 : Int32) ≤ nI i from nI_le (a := 64) (by omega) (by omega)), e1, Option.bind_some, cB_pc _ (msk6_lt (sOn σ))]
    simp only [misS, Nat.add_zero] at hA ⊢
    rw [X8_part hA (by omega) (Nat.pow_pos (by omega)) hw2, Option.bind_some]
    refine ⟨M', rfl, MT.one (by omega) e3, e2.off (fun l hl => ?_)⟩
    show (mskB (sOn σ) 6).testBit l = sOn σ l
    rw [mskB_tb]; simp [hl]
  | succ m ih =>
    intro i A M fuel q him hf h hA
    obtain ⟨fu, rfl⟩ : ∃ fu, fuel = fu + 1 := ⟨fuel - 1, by omega⟩
    have hi : i < 64 := by omega
    rw [f_X8_missing_119, if_neg (show ¬ (64 : Int32) ≤ nI i from nI_ge (b := 64) (by omega) (by decide)), nI_1]
    by_cases hsub : (nI i &&& (nI (mskB (sOn σ) 6) ^^^ (-1))) = 0
    · obtain ⟨M1, e1, e2, e3⟩ := X8_turnsTo hi h
      obtain ⟨M2, g1, g2⟩ := X8_numberOf (hw.on (bitf i)) hk e2
      have h2 : SMr (M2 164) (setOns σ (bitf i)) := by rw [g2.1 164 (by omega)]; exact e2
      have hmt : MT M M2 := (MT.one (by omega) e3).tr g2.mk.mt
      have hl := X8_missing_151 (M := M1) (k := k) (v := v) (w := w) (o := mskB (sOn σ) 6) (K := f_X8_missing_119 fu) (A := nL A) (B := nL (t ^ cB (bitf (mskB (sOn σ) 6)) 6)) hi ht ht2 6 0 1000 rfl (by decide)
      have hl' : f_X8_missing_151 (f_X8_missing_119 fu) 1000 M1 (nI k) (nI v) (nI t) (nI w) (nI (mskB (sOn σ) 6)) (nL A) (nL (t ^ cB (bitf (mskB (sOn σ) 6)) 6)) (nI i) 1 0 = _ := hl
      rw [if_pos hsub, e1, Option.bind_some, hl']
      unfold f_X8_missing_188
      rw [g1, Option.bind_some, nI_1]
      dsimp only
      by_cases hv : nmS (setOns σ (bitf i)) k = nI v
      · rw [misS_y hsub hv] at hA ⊢
        rw [if_neg (fun x => x hv), nL_add, cB_pc i hi]
        rw [← Nat.add_assoc] at hA ⊢
        obtain ⟨M', f1, f2, f3⟩ := ih (i + 1) _ M2 fu _ (by omega) (by omega) h2 hA
        exact ⟨M', f1, hmt.tr f2, f3⟩
      · rw [misS_n (fun x => hv x.2)] at hA ⊢
        rw [if_pos hv, Int64.add_zero]
        obtain ⟨M', f1, f2, f3⟩ := ih (i + 1) A M2 fu _ (by omega) (by omega) h2 hA
        exact ⟨M', f1, hmt.tr f2, f3⟩
    · rw [misS_n (fun x => hsub x.1)] at hA ⊢
      rw [if_neg hsub]
      obtain ⟨M', f1, f2, f3⟩ := ih (i + 1) A M fu _ (by omega) (by omega) h hA
      exact ⟨M', f1, f2, f3⟩
theorem missing_same {S : St} (hw : WFS S) (x y z u : Int32) : SAME S (fun M => f_X7_missing M x y z u) (fun M => f_X8_missing M x y z u) := by
  rcases argK x with ⟨k, hk, rfl⟩ | hx
  · have c7 : ∀ M, f_X7_missing M (nI k) y z u = if y < 0 then f_X7_refuseLong M (-4) else if 2 ≤ z then (if 999 < y then f_X7_refuseLong M (-6) else if z ≤ 20 then (if u < 0 then f_X7_refuseLong M (-2) else if u ≤ 1 then (Option.bind (f_X4_become M 21 1) fun z12 => f_X7_missing_84 1000 z12 (nI k) y z u 0 0) else f_X7_refuseLong M (-2)) else f_X7_refuseLong M (-6)) else f_X7_refuseLong M (-4) := by
      intro M
      unfold f_X7_missing
      rw [X7_noKey hk, Option.bind_some]
      dsimp only
      rw [if_pos rfl]
      simp only [bind_eta]
    have c8 : ∀ M, f_X8_missing M (nI k) y z u = if y < 0 then f_X8_noLong M (-4) else if 2 ≤ z then (if 999 < y then f_X8_noLong M (-6) else if z ≤ 20 then (Option.bind (f_X8_isIn M u 0 1) fun z9 => if ¬ z9.1 = 0 then (Option.bind (f_X8_onNow z9.2) fun z11 => f_X8_missing_81 1000 z11.2 (nI k) y z u z11.1 0 1 0) else f_X8_noLong z9.2 (-2)) else f_X8_noLong M (-6)) else f_X8_noLong M (-4) := by
      intro M
      unfold f_X8_missing
      rw [X8_isKey hk, Option.bind_some]
      dsimp only
      rw [if_pos (show ¬ (1 : Int32) = 0 by decide)]
      simp only [bind_eta]
    by_cases hy0 : y < 0
    · refine same_noL hw (-4) 4 neg4 (by decide) (fun M h => ⟨M, ?_, CF.rf⟩) (fun M h => ⟨M, ?_, MK.rf⟩)
      · rw [c7, if_pos hy0]
      · rw [c8, if_pos hy0]
    by_cases hz2 : (2 : Int32) ≤ z
    · by_cases hy9 : (999 : Int32) < y
      · refine same_noL hw (-6) 6 neg6 (by decide) (fun M h => ⟨M, ?_, CF.rf⟩) (fun M h => ⟨M, ?_, MK.rf⟩)
        · rw [c7, if_neg hy0, if_pos hz2, if_pos hy9]
        · rw [c8, if_neg hy0, if_pos hz2, if_pos hy9]
      by_cases hz20 : z ≤ (20 : Int32)
      · rcases argc u 2 (by decide) with ⟨w, hw2, rfl⟩ | hu
        · obtain ⟨v, -, rfl⟩ := nI_of hy0
          have hzt : ∃ t, 2 ≤ t ∧ t ≤ 20 ∧ z = nI t := by
            rcases argo z 20 (by decide) with ⟨t, ht, rfl⟩ | hz | ⟨-, hz⟩
            · refine ⟨t, ?_, ht, rfl⟩
              by_cases h : 2 ≤ t
              · exact h
              · exact absurd hz2 (nI_ge (b := 2) (by omega) (by decide))
            · exact absurd hz2 (fun q => by
                have h0 : (0 : Int32) ≤ z := Int32.le_trans (by decide) q
                exact absurd hz (Int32.not_lt.mpr h0))
            · exact absurd hz20 hz
          obtain ⟨t, ht, ht2, rfl⟩ := hzt
          have hA : 0 + misS (gS S) (mskB (sOn (gS S)) 6) k (nI v) (t - 1) 64 0 < 2 ^ 62 := by
            have := misS_le (σ := gS S) (o := mskB (sOn (gS S)) 6) (k := k) (v := nI v) (b := t - 1) (by omega) 64 0 rfl
            omega
          refine same_try hw (nL (ltS (0 + misS (gS S) (mskB (sOn (gS S)) 6) k (nI v) (t - 1) 64 0) (t ^ pcN (mskB (sOn (gS S)) 6)) w)) (fun M h => ?_) (fun M h => ?_)
          · rw [c7, if_neg hy0, if_pos hz2, if_neg hy9, if_pos hz20, if_neg (nI_pos (by omega)), if_pos (show nI w ≤ 1 from nI_le (b := 1) (by omega) (by decide))]
            obtain ⟨M1, a1, a2, a3⟩ := beco7 h hw
            obtain ⟨M', f1, f2⟩ := X7_missing_84 (v := v) hw hk ht ht2 hw2 64 0 0 M1 1000 (sOn (gS S)) rfl (by decide) (h.cf a3) a2 hA
            rw [a1, Option.bind_some]
            exact ⟨M', f1, a3.tr f2⟩
          · rw [c8, if_neg hy0, if_pos hz2, if_neg hy9, if_pos hz20, show f_X8_isIn M (nI w) 0 1 = some (1, M) from X8_isIn (n := 2) hw2 (by decide), Option.bind_some]
            dsimp only
            rw [if_pos (show ¬ (1 : Int32) = 0 by decide), X8_onNow h.1, Option.bind_some]
            dsimp only
            obtain ⟨M', f1, f2, f3⟩ := X8_missing_119 (v := v) hw.1 hk ht ht2 hw2 64 0 0 M 1000 (sOn (gS S)) rfl (by decide) h.1 hA
            have hl := X8_missing_81 (M := M) (k := k) (v := v) (t := t) (w := w) hw2 (msk6_lt (sOn (gS S))) ht2 6 0 1000 rfl (by decide)
            have hl' : f_X8_missing_81 1000 M (nI k) (nI v) (nI t) (nI w) (nI (mskB (sOn (gS S)) 6)) 0 1 0 = _ := hl
            rw [hl']
            exact ⟨M', f1, f2, f3⟩
        · have hu2 : ¬ (¬ u < 0 ∧ u ≤ 1) := fun q => by
            obtain ⟨i, hi, rfl⟩ := nI_of q.1
            rcases hu with hu | hu
            · exact q.1 hu
            · exact nI_ge (a := 1) (b := i) (by
                by_cases h3 : i < 2
                · exact absurd (nI_lt h3 (by decide)) hu
                · omega) hi q.2
          refine same_noL hw (-2) 2 neg2 (by decide) (fun M h => ⟨M, ?_, CF.rf⟩) (fun M h => ⟨M, ?_, MK.rf⟩)
          · rw [c7, if_neg hy0, if_pos hz2, if_neg hy9, if_pos hz20]
            by_cases h0 : u < 0
            · rw [if_pos h0]
            · rw [if_neg h0, if_neg (fun q => hu2 ⟨h0, q⟩)]
          · rw [c8, if_neg hy0, if_pos hz2, if_neg hy9, if_pos hz20, show f_X8_isIn M u 0 1 = some (0, M) from X8_isIn' (n := 2) hu (by decide) (by decide), Option.bind_some]
            dsimp only
            rw [if_neg (by decide)]
      · refine same_noL hw (-6) 6 neg6 (by decide) (fun M h => ⟨M, ?_, CF.rf⟩) (fun M h => ⟨M, ?_, MK.rf⟩)
        · rw [c7, if_neg hy0, if_pos hz2, if_neg hy9, if_neg hz20]
        · rw [c8, if_neg hy0, if_pos hz2, if_neg hy9, if_neg hz20]
    · refine same_noL hw (-4) 4 neg4 (by decide) (fun M h => ⟨M, ?_, CF.rf⟩) (fun M h => ⟨M, ?_, MK.rf⟩)
      · rw [c7, if_neg hy0, if_neg hz2]
      · rw [c8, if_neg hy0, if_neg hz2]
  · refine same_noL hw (-1) 1 neg1 (by decide) (fun M h => ⟨M, ?_, CF.rf⟩) (fun M h => ⟨M, ?_, MK.rf⟩)
    · unfold f_X7_missing
      rw [X7_noKey' hx, Option.bind_some]
      dsimp only
      rw [if_neg (by decide), bind_eta]
    · unfold f_X8_missing
      rw [X8_isKey' hx, Option.bind_some]
      dsimp only
      rw [if_neg (by decide), bind_eta]
