def hidS (σ : Sc) (k : Nat) : Nat → Bool := fun l => hasE σ l k && likeS (askS σ k).1 (askS (setEn σ (8 * l + k) none) k).1
theorem X7_hidden_38 {S : St} {k : Nat} (hw : WFS S) (hk : k < 8) : ∀ (m i : Nat) (M : Mem) (fuel : Nat), i + m = 6 → m < fuel → ClsI M S → KPo M (107 + 7 * k) (askS (gS S) k).1 → ∃ M', f_X7_hidden_38 fuel M (nI k) (mskI (hidS (gS S) k) i) (nI i) = some (mskI (hidS (gS S) k) 6, M') ∧ CF M M' := by
  intro m
  induction m with
  | zero =>
    intro i M fuel him hf h hkp
    obtain ⟨fu, rfl⟩ : ∃ fu, fuel = fu + 1 := ⟨fuel - 1, by omega⟩
    rw [f_X7_hidden_38, if_pos (show (6 : Int32) ≤ nI i from nI_le (a := 6) (by omega) (by omega))]
    simp at him; subst him; exact ⟨M, rfl, CF.rf⟩
  | succ m ih =>
    intro i M fuel him hf h hkp
    obtain ⟨fu, rfl⟩ : ∃ fu, fuel = fu + 1 := ⟨fuel - 1, by omega⟩
    rw [f_X7_hidden_38, if_neg (show ¬ (6 : Int32) ≤ nI i from nI_ge (b := 6) (by omega) (by decide)), X7_slotOf, Option.bind_some]
    dsimp only
    rw [rd_nI (by omega) (by decide), Option.bind_some, nI_1]
    have hf := X4_form h.1 hw.1 (show i < 6 by omega) hk
    by_cases hh : hasE (gS S) i k = true
    · obtain ⟨M1, a1, a2, a3⟩ := X4_become (s := 21) h.1 hw.1 (by omega)
      obtain ⟨M2, b1, b2, b3⟩ := X4_eraseE a2 hw.1 (show 8 * i + k < 48 by omega)
      obtain ⟨M3, c1, c2, c3, c4⟩ := asks7 b2 (hw.1.en trivial) hk
      have hcf : CF M M3 := CF.tr (fun j hj => by rw [b3 j (by omega), a3 j (by omega)]) c2.cf
      have hkp3 : KPo M3 (107 + 7 * k) (askS (gS S) k).1 := hkp.fr (fun j x y => by rw [c2 j (by omega), b3 j (by omega), a3 j (by omega)])
      have hkp34 : KPo M3 34 (askS (setEn (gS S) (8 * i + k) none) k).1 := KPo.of (hw.1.en trivial) hk c3.1
      obtain ⟨M', f1, f2⟩ := ih (i + 1) M3 fu (by omega) (by omega) (h.cf hcf) hkp3
      rw [if_neg (fun q => by rw [hf.mp q] at hh; cases hh), a1, Option.bind_some, b1, Option.bind_some, rdO_nI hk (by decide), Option.bind_some, c1, Option.bind_some, X1_isLike hk hkp3 hkp34, Option.bind_some]
      dsimp only
      simp only [mskI] at f1
      refine ⟨M', ?_, hcf.tr f2⟩
      by_cases hb : likeS (askS (gS S) k).1 (askS (setEn (gS S) (8 * i + k) none) k).1 = true
      · rw [if_pos hb, if_neg (by decide), Option.bind_some]
        rw [if_pos (show hidS (gS S) k i = true by unfold hidS; rw [hh, hb]; rfl)] at f1
        exact f1
      · rw [if_neg hb, if_pos rfl]
        rw [if_neg (show ¬ hidS (gS S) k i = true by unfold hidS; rw [hh]; simpa using hb)] at f1
        exact f1
    · obtain ⟨M', f1, f2⟩ := ih (i + 1) M fu (by omega) (by omega) h hkp
      rw [if_pos (hf.mpr (by simpa using hh))]
      simp only [mskI] at f1
      rw [if_neg (show ¬ hidS (gS S) k i = true by unfold hidS; simp [hh])] at f1
      exact ⟨M', f1, f2⟩
theorem X8_hidden_22 {σ : Sc} {k : Nat} (hw : WFs σ) (hk : k < 8) (hr20 : (encS (askS σ k).1).length ≤ 20) : ∀ (m i : Nat) (M : Mem) (fuel : Nat), i + m = 6 → m < fuel → SMr (M 164) σ → WAS M k (askS σ k).1 → ∃ M', f_X8_hidden_22 fuel M (nI k) (mskI (hidS σ k) i) (nI i) = some (mskI (hidS σ k) 6, M') ∧ MK M M' := by
  intro m
  induction m with
  | zero =>
    intro i M fuel him hf h hW
    obtain ⟨fu, rfl⟩ : ∃ fu, fuel = fu + 1 := ⟨fuel - 1, by omega⟩
    rw [f_X8_hidden_22, if_pos (show (6 : Int32) ≤ nI i from nI_le (a := 6) (by omega) (by omega))]
    simp at him; subst him; exact ⟨M, rfl, MK.rf⟩
  | succ m ih =>
    intro i M fuel him hf h hW
    obtain ⟨fu, rfl⟩ : ∃ fu, fuel = fu + 1 := ⟨fuel - 1, by omega⟩
    have hi6 : i < 6 := by omega
    rw [f_X8_hidden_22, if_neg (show ¬ (6 : Int32) ≤ nI i from nI_ge (b := 6) (by omega) (by decide)), X8_entryAt, Option.bind_some]
    dsimp only
    rw [Int32.add_zero, rd_nI (by omega) (by decide), Option.bind_some]
    have hnone := X8_none hw h hi6 hk
    by_cases hx : sEn σ (8 * i + k) = none
    · have hh : hasE σ i k = false := by unfold hasE; rw [hx]; rfl
      obtain ⟨M', f1, f2⟩ := ih (i + 1) M fu (by omega) (by omega) h hW
      rw [if_neg (fun q => q (hnone.mpr hx)), nI_1]
      simp only [mskI] at f1
      rw [if_neg (show ¬ hidS σ k i = true by unfold hidS; simp [hh])] at f1
      exact ⟨M', f1, f2⟩
    · have hh : hasE σ i k = true := by
        unfold hasE
        rcases hq : sEn σ (8 * i + k) with _ | e
        · exact absurd hq hx
        · rfl
      rw [if_pos (fun q => hx (hnone.mp q)), X8_entryAt, Option.bind_some]
      dsimp only
      rw [Int32.add_zero, wra_nI (by omega) (by decide), Option.bind_some]
      have hs : SMr (wr M 164 (30 + 12 * (8 * i + k)) (-9) 164) (setEn σ (8 * i + k) none) := h.setE hw (by omega) (show wr M 164 (30 + 12 * (8 * i + k)) (-9) 164 (30 + 12 * (8 * i + k)) = -9 by rw [wr_ap, if_pos ⟨rfl, rfl⟩]) (fun j hj => by rw [wr_ap, if_neg (by omega)])
      have hW1 : WAS (wr M 164 (30 + 12 * (8 * i + k)) (-9)) k (askS σ k).1 := by unfold WAS at *; rw [wr_ne (by decide)]; exact hW
      obtain ⟨M1, b1, b2⟩ := X8_isLike (hw.en (v := none) trivial) hk hs hW1 hr20
      rw [b1, Option.bind_some]
      dsimp only
      -- the entry comes back
      have back : ∀ (t : Int32), f_X8_hidden_82 (f_X8_hidden_22 fu) M1 (nI k) (nI i) (M 164 (30 + 12 * (8 * i + k))) t (mskI (hidS σ k) i) = f_X8_hidden_22 fu (wr M1 164 (30 + 12 * (8 * i + k)) (M 164 (30 + 12 * (8 * i + k)))) (nI k) (mskI (hidS σ k) i ||| t) (nI (i + 1)) := by
        intro t
        unfold f_X8_hidden_82
        rw [X8_entryAt, Option.bind_some]
        dsimp only
        rw [Int32.add_zero, wra_nI (by omega) (by decide), Option.bind_some, nI_1]
      have hr : wr M1 164 (30 + 12 * (8 * i + k)) (M 164 (30 + 12 * (8 * i + k))) 164 = M 164 := by
        funext j
        rw [wr_ap, b2.1 164 (by omega), wr_ap]
        by_cases hj : j = 30 + 12 * (8 * i + k)
        · simp [hj]
        · simp [hj]
      have hmk : MK M (wr M1 164 (30 + 12 * (8 * i + k)) (M 164 (30 + 12 * (8 * i + k)))) := by
        refine ⟨fun j hj => ?_, ?_, ?_, ?_⟩
        · by_cases h4 : j = 164
          · rw [h4]; exact hr
          · rw [wr_ne h4, b2.1 j (by omega), wr_ne h4]
        · rw [wr_ne (by decide), b2.2.1 7 (by decide) (by decide) (by decide), wr_ne (by decide)]
        · rw [wr_ne (by decide), b2.2.1 8 (by decide) (by decide) (by decide), wr_ne (by decide)]
        · rw [wr_ne (by decide), b2.2.1 12 (by decide) (by decide) (by decide), wr_ne (by decide)]
      have hW2 : WAS (wr M1 164 (30 + 12 * (8 * i + k)) (M 164 (30 + 12 * (8 * i + k)))) k (askS σ k).1 := by
        unfold WAS at *
        rw [wr_ne (by decide), b2.1 182 (by omega), wr_ne (by decide)]
        exact hW
      obtain ⟨M', f1, f2⟩ := ih (i + 1) _ fu (by omega) (by omega) (by rw [hr]; exact h) hW2
      simp only [mskI] at f1
      refine ⟨M', ?_, hmk.tr f2⟩
      by_cases hb : likeS (askS σ k).1 (askS (setEn σ (8 * i + k) none) k).1 = true
      · rw [if_pos hb, if_neg (by decide), back]
        rw [if_pos (show hidS σ k i = true by unfold hidS; rw [hh, hb]; rfl)] at f1
        exact f1
      · rw [if_neg hb, if_pos rfl, back, Int32.or_zero]
        rw [if_neg (show ¬ hidS σ k i = true by unfold hidS; rw [hh]; simpa using hb)] at f1
        exact f1
theorem hidden_same {S : St} (hw : WFS S) (x : Int32) : SAME S (fun M => f_X7_hidden M x) (fun M => f_X8_hidden M x) := by
  rcases argK x with ⟨k, hk, rfl⟩ | hx
  · refine same_look hw (mskI (hidS (gS S) k) 6) (fun M h => ?_) (fun M h => ?_)
    · unfold f_X7_hidden
      rw [X7_noKey hk, Option.bind_some]
      dsimp only
      obtain ⟨M1, a1, a2, a3⟩ := ask7 h hw hk
      obtain ⟨M2, b1, b2, b3⟩ := X1_keep (o := 107 + 7 * k) (by omega) (KPo.of hw.1 hk a3.1)
      rw [if_pos rfl, rdO_nI hk (by decide), Option.bind_some, a1, Option.bind_some, b1, Option.bind_some]
      have hcf : CF M M2 := a2.tr (fun j hj => b3 j (by omega))
      obtain ⟨M', f1, f2⟩ := X7_hidden_38 hw hk 6 0 M2 1000 rfl (by decide) (h.cf hcf) b2
      exact ⟨M', f1, hcf.tr f2⟩
    · unfold f_X8_hidden
      rw [X8_isKey hk, Option.bind_some]
      dsimp only
      obtain ⟨M1, a1, a2, a3, a4⟩ := X8_tells hw.1 hk h.1
      rw [if_pos (by decide), a1, Option.bind_some]
      obtain ⟨M', f1, f2⟩ := X8_hidden_22 hw.1 hk (enc_len hw.1 hk h.1) 6 0 M1 1000 rfl (by decide) (by rw [a2.1 164 (by omega)]; exact h.1) a3
      exact ⟨M', f1, a2.mk.tr f2⟩
  · refine same_no hw (-1) 1 neg1 (by decide) (fun M h => ?_) (fun M h => ?_)
    · unfold f_X7_hidden
      rw [X7_noKey' hx, Option.bind_some]
      dsimp only
      rw [if_neg (by decide), bind_eta]
      exact ⟨M, rfl, CF.rf⟩
    · unfold f_X8_hidden
      rw [X8_isKey' hx, Option.bind_some]
      dsimp only
      rw [if_neg (by decide), bind_eta]
      exact ⟨M, rfl, MK.rf⟩
