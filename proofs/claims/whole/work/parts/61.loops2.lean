theorem X8_isTold {M : Mem} {σ : Sc} {k : Nat} {v : Int32} (hw : WFs σ) (hk : k < 8) (h : SMr (M 164) σ) (hv : M 170 k = v) (h0 : 0 ≤ v) (h1 : v ≤ 100) : ∃ M', f_X8_isTold M (nI k) = some (if othS v (nmS σ k) = true then 0 else 1, M') ∧ FRm 0 M M' := by
  obtain ⟨M', e1, e2⟩ := X8_numberOf hw hk h
  have hv' : M' 170 k = v := by rw [e2.1 170 (by omega)]; exact hv
  unfold f_X8_isTold othS
  rw [e1, Option.bind_some]
  dsimp only
  rw [rd_nI hk (by decide), Option.bind_some, Option.bind_some, Option.bind_some, hv']
  refine ⟨M', ?_, e2⟩
  by_cases hn : nmS σ k = -9
  · rw [if_neg (fun q => q hn), hn]
    by_cases hc : v = 100
    · rw [if_neg (fun q => q hc), if_pos hc]; simp [bret_1]
    · rw [if_pos hc, if_neg hc]
      have : v ≠ -9 := by rintro rfl; exact absurd h0 (by decide)
      simp [this, bret_0]
  · rw [if_pos hn]
    by_cases hc : v = 100
    · rw [if_pos (by rw [hc]; decide), if_pos hc]; simp [hn, bret_0]
    · have : ¬ 100 ≤ v := fun q => hc (Int32.le_antisymm h1 q)
      rw [if_neg this, if_neg hc]
      by_cases h2 : v = nmS σ k
      · rw [if_neg (fun q => q h2)]; simp [h2, bret_1]
      · rw [if_pos h2]; simp [h2, bret_0]
theorem X8_wrongInRow_l {σ : Sc} {row : List Int32} (hw : WFs σ) (hr8 : row.length ≤ 8) (hrow : ∀ v ∈ row, 0 ≤ v ∧ v ≤ 100) : ∀ (rest : List Int32) (i : Nat) (M : Mem) (fuel : Nat), rest.length < fuel → row.drop i = rest → i + rest.length = row.length → SMr (M 164) σ → LsI (M 163 8) (M 170) row → ∃ M', f_X8_wrongInRow_2 fuel M (nI i) = some (fstS σ rest i, M') ∧ FRm 0 M M' := by
  intro rest
  induction rest with
  | nil =>
    intro i M fuel hf hd hi h hl
    obtain ⟨fu, rfl⟩ : ∃ fu, fuel = fu + 1 := ⟨fuel - 1, by simp at hf; omega⟩
    simp at hi
    rw [f_X8_wrongInRow_2, hl.1, hi, if_pos (Int32.le_refl _)]
    exact ⟨M, rfl, FRm.rf⟩
  | cons v rest ih =>
    intro i M fuel hf hd hi h hl
    obtain ⟨fu, rfl⟩ : ∃ fu, fuel = fu + 1 := ⟨fuel - 1, by simp at hf; omega⟩
    simp only [List.length_cons] at hf hi
    have hget : row[i]? = some v := by
      have : (row.drop i)[0]? = some v := by rw [hd]; rfl
      rw [List.getElem?_drop] at this
      simpa using this
    obtain ⟨g1, g2⟩ := hrow v (List.mem_of_getElem? hget)
    obtain ⟨M1, e1, e2⟩ := X8_isTold (k := i) hw (by omega) h (hl.2 i v hget) g1 g2
    rw [f_X8_wrongInRow_2, hl.1, if_neg (nI_ge (by omega) (by omega)), e1, Option.bind_some]
    dsimp only
    simp only [fstS]
    by_cases hb : othS v (nmS σ i) = true
    · rw [if_pos hb, if_neg (by decide), if_pos hb]
      exact ⟨M1, rfl, e2⟩
    · rw [if_neg hb, if_pos (by decide), if_neg hb, nI_1]
      obtain ⟨M', f1, f2⟩ := ih (i + 1) M1 fu (by omega) (by rw [← List.drop_drop, hd]; rfl) (by omega) (by rw [e2.1 164 (by omega)]; exact h) (by rw [e2.2.1 8 (by decide) (by decide) (by decide), e2.1 170 (by omega)]; exact hl)
      exact ⟨M', f1, e2.tr f2⟩
theorem X8_wrongInRow {M : Mem} {σ : Sc} {row : List Int32} (hw : WFs σ) (hr8 : row.length ≤ 8) (hrow : ∀ v ∈ row, 0 ≤ v ∧ v ≤ 100) (h : SMr (M 164) σ) (hl : LsI (M 163 8) (M 170) row) : ∃ M', f_X8_wrongInRow M = some (fstS σ row 0, M') ∧ FRm 0 M M' := by
  unfold f_X8_wrongInRow
  exact X8_wrongInRow_l hw hr8 hrow row 0 M 1000 (by omega) rfl (by omega) h hl
theorem judge_same {S : St} (hw : WFS S) : SAME S (fun M => f_X7_judge M) (fun M => f_X8_judge M) := by
  refine ⟨fstS (gS S) (gR S) 0, putR S [], fun M h => ?_, fun M h => ?_, hw.clr⟩
  · unfold f_X7_judge f_X7_firstNotSo
    obtain ⟨M', e1, e2⟩ := X7_firstNotSo (s := 1) (Or.inl rfl) hw.1 hw.2.2.1 (gR S) 0 M 1000 (by have := hw.2.2.1; omega) rfl (by omega) h.1 h.2.2.1
    have e1' : f_X7_firstNotSo_2 1000 M 1 0 = some (fstS (gS S) (gR S) 0, M') := e1
    dsimp only
    rw [e1', Option.bind_some]
    dsimp only
    rw [wrf_eq, Option.bind_some]
    exact ⟨_, rfl, (h.cf e2.cf).clr, e2.cf.f7.tr (fun i hi => wr_ne (by omega))⟩
  · unfold f_X8_judge
    obtain ⟨M', e1, e2⟩ := X8_wrongInRow hw.1 hw.2.2.1 hw.2.2.2.1 h.1 h.2.2.1
    dsimp only
    rw [e1, Option.bind_some]
    dsimp only
    rw [wrf_eq, Option.bind_some]
    exact ⟨_, rfl, (h.mk e2.mk).clr, e2.mk.f8.tr (fun i hi => wr_ne (by omega))⟩
theorem t_cmp : ∀ x, x < 256 → (255 : Int32) &&& (nI x ^^^ (-1)) = nI (x ^^^ 255) := by decide +kernel
theorem msk_not (p : Nat → Bool) : mskB (fun k => !p k) 8 = mskB p 8 ^^^ 255 := by
  apply Nat.eq_of_testBit_eq
  intro j
  rw [Nat.testBit_xor, mskB_tb, mskB_tb, show (255 : Nat) = 2 ^ 8 - 1 from rfl, Nat.testBit_two_pow_sub_one]
  by_cases hj : j < 8
  · simp [hj]
  · simp [hj]
theorem X7_faultBits {s : Nat} {σ : Sc} (hs : okS s) (hw : WFs σ) {M : Mem} (h : SCr M s σ) : ∃ M', f_X7_faultBits M s = some (nI (mskB (soS σ 1) 8 ^^^ 255), M') ∧ FRr M M' := by
  have key : ∀ (m i : Nat) (M : Mem) (fuel : Nat), i + m = 8 → m < fuel → SCr M s σ → ∃ M', f_X7_faultBits_4 fuel M s (mskI (fun k => !soS σ 1 k) i) (nI i) = some (mskI (fun k => !soS σ 1 k) 8, M') ∧ FRr M M' := by
    intro m
    induction m with
    | zero =>
      intro i M fuel him hf h
      obtain ⟨fu, rfl⟩ : ∃ fu, fuel = fu + 1 := ⟨fuel - 1, by omega⟩
      rw [f_X7_faultBits_4, if_pos (show (8 : Int32) ≤ nI i from nI_le (a := 8) (by omega) (by omega))]
      simp at him; subst him; exact ⟨M, rfl, FRr.rf⟩
    | succ m ih =>
      intro i M fuel him hf h
      obtain ⟨fu, rfl⟩ : ∃ fu, fuel = fu + 1 := ⟨fuel - 1, by omega⟩
      obtain ⟨M1, e1, e2, e3, -⟩ := X2_ask (k := i) hs hw (by omega) h
      obtain ⟨M', f1, f2⟩ := ih (i + 1) M1 fu (by omega) (by omega) (h.fr (fun j a b => e2 j (by have := okS_lt hs; omega)))
      rw [f_X7_faultBits_4, if_neg (show ¬ (8 : Int32) ≤ nI i from nI_ge (b := 8) (by omega) (by decide)), e1, Option.bind_some, RSo_form e3.1, nI_1]
      simp only [mskI] at f1
      refine ⟨M', ?_, e2.tr f2⟩
      have hst : (stS (askS σ i).1 = 2) ↔ (!soS σ 1 i) = true := by
        unfold soS isSoS
        rcases (askS σ i).1 with fs | ⟨v | v, a, b⟩
        · exact ⟨fun _ => rfl, fun _ => rfl⟩
        · exact ⟨fun q => absurd q (show ¬ (0 : Int32) = 2 by decide), fun q => by simp at q⟩
        · exact ⟨fun q => absurd q (show ¬ (1 : Int32) = 2 by decide), fun q => by simp at q⟩
      by_cases hb : (!soS σ 1 i) = true
      · rw [if_neg (fun q => q (hst.mpr hb)), Option.bind_some]
        rw [if_pos hb] at f1
        exact f1
      · rw [if_pos (fun q => hb (hst.mp q))]
        rw [if_neg hb] at f1
        exact f1
  unfold f_X7_faultBits
  obtain ⟨M', e1, e2⟩ := key 8 0 M 1000 rfl (by decide) h
  refine ⟨M', ?_, e2⟩
  rw [← msk_not, ← mskI_B _ 8 (by decide)]
  exact e1
theorem seven_cases (x : Int32) : (∃ i, i < 7 ∧ x = nI i) ∨ (x < 0 ∨ ¬ x < 7) := argc x 7 (by decide)
theorem X8_isIn11 {M : Mem} (x : Int32) : (∃ i, i < 6 ∧ x = nI (i + 11) ∧ f_X8_isIn M x 11 16 = some (1, M)) ∨ ((x < 11 ∨ 16 < x) ∧ f_X8_isIn M x 11 16 = some (0, M)) := by
  unfold f_X8_isIn
  by_cases h1 : x < 11
  · right; rw [if_pos h1]; exact ⟨Or.inl h1, rfl⟩
  · rw [if_neg h1]
    by_cases h2 : 16 < x
    · right; rw [if_pos h2]; exact ⟨Or.inr h2, rfl⟩
    · left
      rw [if_neg h2]
      have h0 : ¬ x < 0 := fun q => h1 (Int32.lt_trans q (by decide))
      obtain ⟨j, hj, rfl⟩ := nI_of h0
      have ha : ¬ j < 11 := fun q => h1 (nI_lt (b := 11) q (by decide))
      have hb : ¬ 16 < j := fun q => h2 (nI_lt (a := 16) q hj)
      exact ⟨j - 11, by omega, by congr 1; omega, rfl⟩
theorem count_same {S : St} (hw : WFS S) (x : Int32) : SAME S (fun M => f_X7_count M x) (fun M => f_X8_count M x) := by
  have p7 : ∀ M, f_X7_count M x = if x = 0 then f_X4_entries M 1 else if x = 1 then some (M 1 0, M) else if x = 2 then f_X4_keyBitsOfAll M 1 else if x = 3 then f_X4_items M 1 else if x = 4 then f_X7_faultBits M 1 else if x = 5 then some (M 102 1, M) else if x = 6 then some (M 97 1, M) else if x < 11 then some (-9, M) else if 16 < x then some (-9, M) else Option.bind (rd 7 (M 106) (x - 10)) fun v14 => some (v14, M) := by
    intro M
    unfold f_X7_count
    simp only [bind_eta]
  have p8 : ∀ M, f_X8_count M x = Option.bind (f_X8_isIn M x 11 16) fun z1 => if z1.1 = 0 then (if x = 0 then f_X8_entries_ z1.2 else if x = 1 then f_X8_onNow z1.2 else if x = 2 then f_X8_count_80 1000 z1.2 0 0 else if x = 3 then f_X8_count_104 1000 z1.2 0 0 else if x = 4 then Option.bind (f_X8_allSo z1.2 1) (fun z10 => some (255 &&& (z10.1 ^^^ (-1)), z10.2)) else if x = 5 then some (z1.2 163 8, z1.2) else if x = 6 then some (z1.2 163 7, z1.2) else some (-9, z1.2)) else Option.bind (rd 8 (z1.2 168) (x - 10)) fun v13 => some (v13, z1.2) := by
    intro M
    unfold f_X8_count
    simp only [bind_eta]
  rcases seven_cases x with ⟨i, hi, rfl⟩ | hbad
  · have q8 : ∀ M, f_X8_isIn M (nI i) 11 16 = some (0, M) := by
      intro M
      unfold f_X8_isIn
      rw [if_pos (show nI i < 11 from nI_lt (b := 11) (by omega) (by decide))]; rfl
    have i7 : i = 0 ∨ i = 1 ∨ i = 2 ∨ i = 3 ∨ i = 4 ∨ i = 5 ∨ i = 6 := by omega
    rcases i7 with rfl | rfl | rfl | rfl | rfl | rfl | rfl
    · refine same_look hw (totS (gS S) 6) (fun M h => ?_) (fun M h => ?_)
      · rw [p7, if_pos (by decide), X4_entries h.1 hw.1]; exact ⟨M, rfl, CF.rf⟩
      · rw [p8, q8, Option.bind_some]; dsimp only
        rw [if_pos rfl, if_pos (by decide), X8_entries_ h.1 hw.1]; exact ⟨M, rfl, MK.rf⟩
    · refine same_look hw (nI (mskB (sOn (gS S)) 6)) (fun M h => ?_) (fun M h => ?_)
      · rw [p7, if_neg (by decide), if_pos (by decide), h.1.1]; exact ⟨M, rfl, CF.rf⟩
      · rw [p8, q8, Option.bind_some]; dsimp only
        rw [if_pos rfl, if_neg (by decide), if_pos (by decide), X8_onNow h.1]; exact ⟨M, rfl, MK.rf⟩
    · refine same_look hw (orS (gS S) 6) (fun M h => ?_) (fun M h => ?_)
      · rw [p7, if_neg (by decide), if_neg (by decide), if_pos (by decide), X4_keyBitsOfAll h.1 hw.1]; exact ⟨M, rfl, CF.rf⟩
      · rw [p8, q8, Option.bind_some]; dsimp only
        rw [if_pos rfl, if_neg (by decide), if_neg (by decide), if_pos (by decide), X8_count_80 h.1 hw.1]; exact ⟨M, rfl, MK.rf⟩
    · refine same_look hw (itS (gS S) 48) (fun M h => ?_) (fun M h => ?_)
      · rw [p7, if_neg (by decide), if_neg (by decide), if_neg (by decide), if_pos (by decide), X4_items h.1 hw.1]; exact ⟨M, rfl, CF.rf⟩
      · rw [p8, q8, Option.bind_some]; dsimp only
        rw [if_pos rfl, if_neg (by decide), if_neg (by decide), if_neg (by decide), if_pos (by decide), X8_count_104 h.1 hw.1]; exact ⟨M, rfl, MK.rf⟩
    · refine same_look hw (nI (mskB (soS (gS S) 1) 8 ^^^ 255)) (fun M h => ?_) (fun M h => ?_)
      · rw [p7, if_neg (by decide), if_neg (by decide), if_neg (by decide), if_neg (by decide), if_pos (by decide)]
        obtain ⟨M', e1, e2⟩ := X7_faultBits (s := 1) (Or.inl rfl) hw.1 h.1
        exact ⟨M', e1, e2.cf⟩
      · rw [p8, q8, Option.bind_some]; dsimp only
        rw [if_pos rfl, if_neg (by decide), if_neg (by decide), if_neg (by decide), if_neg (by decide), if_pos (by decide)]
        obtain ⟨M', e1, e2⟩ := X8_allSo (w := 1) hw.1 (by decide) h.1
        have e1' : f_X8_allSo M 1 = some (mskI (soS (gS S) 1) 8, M') := e1
        rw [e1', Option.bind_some]
        dsimp only
        rw [mskI_B _ 8 (by decide), t_cmp _ (mskB_lt _ 8 (by decide))]
        exact ⟨M', rfl, e2.mk⟩
    · refine same_look hw (nI (gR S).length) (fun M h => ?_) (fun M h => ?_)
      · rw [p7, if_neg (by decide), if_neg (by decide), if_neg (by decide), if_neg (by decide), if_neg (by decide), if_pos (by decide), h.2.2.1.1]; exact ⟨M, rfl, CF.rf⟩
      · rw [p8, q8, Option.bind_some]; dsimp only
        rw [if_pos rfl, if_neg (by decide), if_neg (by decide), if_neg (by decide), if_neg (by decide), if_neg (by decide), if_pos (by decide), h.2.2.1.1]; exact ⟨M, rfl, MK.rf⟩
    · refine same_look hw (nI (gT S).length) (fun M h => ?_) (fun M h => ?_)
      · rw [p7, if_neg (by decide), if_neg (by decide), if_neg (by decide), if_neg (by decide), if_neg (by decide), if_neg (by decide), if_pos (by decide), h.2.2.2.1.1]; exact ⟨M, rfl, CF.rf⟩
      · rw [p8, q8, Option.bind_some]; dsimp only
        rw [if_pos rfl, if_neg (by decide), if_neg (by decide), if_neg (by decide), if_neg (by decide), if_neg (by decide), if_neg (by decide), if_pos (by decide), h.2.2.2.1.1]; exact ⟨M, rfl, MK.rf⟩
  · have nb : ∀ i, i < 7 → ¬ x = nI i := fun i hi => ne_of_bad (n := 7) hbad hi (by decide)
    have r7 : ∀ M, f_X7_count M x = if x < 11 then some (-9, M) else if 16 < x then some (-9, M) else Option.bind (rd 7 (M 106) (x - 10)) fun v14 => some (v14, M) := by
      intro M
      rw [p7, if_neg (show ¬ x = 0 from nb 0 (by decide)), if_neg (show ¬ x = 1 from nb 1 (by decide)), if_neg (show ¬ x = 2 from nb 2 (by decide)), if_neg (show ¬ x = 3 from nb 3 (by decide)), if_neg (show ¬ x = 4 from nb 4 (by decide)), if_neg (show ¬ x = 5 from nb 5 (by decide)), if_neg (show ¬ x = 6 from nb 6 (by decide))]
    have hdum : Mem := fun _ _ => 0
    rcases X8_isIn11 (M := hdum) x with ⟨i, hi, rfl, -⟩ | ⟨hout, -⟩
    · have q10 : nI (i + 11) - 10 = nI (i + 1) := by
        rw [show (10 : Int32) = nI 10 from rfl, nI_sub (by omega), show i + 11 - 10 = i + 1 by omega]
      refine same_look hw (gF S (i + 1)) (fun M h => ?_) (fun M h => ?_)
      · rw [r7, if_neg (show ¬ nI (i + 11) < 11 from nI_nlt (b := 11) (by omega) (by omega)), if_neg (show ¬ 16 < nI (i + 11) from nI_nlt (a := 16) (b := i + 11) (by omega) (by decide)), q10, rd_nI (by omega) (by decide), Option.bind_some, h.2.2.2.2 _ (by omega)]
        exact ⟨M, rfl, CF.rf⟩
      · rw [p8]
        have q8 : f_X8_isIn M (nI (i + 11)) 11 16 = some (1, M) := by
          rcases X8_isIn11 (M := M) (nI (i + 11)) with ⟨-, -, -, e⟩ | ⟨hh, -⟩
          · exact e
          · exfalso
            rcases hh with hh | hh
            · exact nI_nlt (a := i + 11) (b := 11) (by omega) (by omega) hh
            · exact nI_nlt (a := 16) (b := i + 11) (by omega) (by decide) hh
        rw [q8, Option.bind_some]
        dsimp only
        rw [if_neg (by decide), q10, rd_nI (by omega) (by decide), Option.bind_some, h.2.2.2.2 _ (by omega)]
        exact ⟨M, rfl, MK.rf⟩
    · refine same_look hw (-9) (fun M h => ?_) (fun M h => ?_)
      · rw [r7]
        refine ⟨M, ?_, CF.rf⟩
        by_cases h1 : x < 11
        · rw [if_pos h1]
        · rw [if_neg h1, if_pos (hout.resolve_left h1)]
      · rw [p8]
        have q8 : f_X8_isIn M x 11 16 = some (0, M) := by
          unfold f_X8_isIn
          by_cases h1 : x < 11
          · rw [if_pos h1]; rfl
          · rw [if_neg h1, if_pos (hout.resolve_left h1)]; rfl
        rw [q8, Option.bind_some]
        dsimp only
        rw [if_pos rfl, if_neg (show ¬ x = 0 from nb 0 (by decide)), if_neg (show ¬ x = 1 from nb 1 (by decide)), if_neg (show ¬ x = 2 from nb 2 (by decide)), if_neg (show ¬ x = 3 from nb 3 (by decide)), if_neg (show ¬ x = 4 from nb 4 (by decide)), if_neg (show ¬ x = 5 from nb 5 (by decide)), if_neg (show ¬ x = 6 from nb 6 (by decide))]
        exact ⟨M, rfl, MK.rf⟩
