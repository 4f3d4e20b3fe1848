theorem no_l7 {S : St} {M : Mem} (h : ClsI M S) : ∃ M', f_X7_refuse M (-1) = some (-1, M') ∧ ClsI M' (bump S 1) ∧ F7 M M' := X7_refuse neg1 (by decide) h
theorem gap_same {S : St} (hw : WFS S) (x y : Int32) : SAME S (fun M => f_X7_gap M x y) (fun M => f_X8_gap M x y) := by
  rcases argL x with ⟨l, hl, rfl⟩ | hx
  · rcases argK y with ⟨k, hk, rfl⟩ | hy
    · refine ⟨if sEn (gS S) (8 * l + k) = none then 0 else 1, putS S (setEn (gS S) (8 * l + k) (some (4, 0, 0, []))), fun M h => ?_, fun M h => ?_, hw.now (hw.1.en ⟨by decide, by decide, by decide, by decide, by decide⟩)⟩
      · unfold f_X7_gap
        dsimp only
        rw [X7_noLayer hl, Option.bind_some]
        dsimp only
        rw [if_neg (by decide), X7_noKey hk, Option.bind_some]
        dsimp only
        rw [if_pos rfl, bind_eta]
        exact X7_replace h hw hl hk (fun M' a b c => ⟨a, by rw [b]; rfl, by rw [c]; rfl, fun q => by cases q⟩)
      · unfold f_X8_gap
        dsimp only
        rw [X8_isLayer hl, Option.bind_some]
        dsimp only
        rw [if_neg (by decide), X8_isKey hk, Option.bind_some]
        dsimp only
        rw [if_pos (by decide), bind_eta]
        exact X8_replace h hw hl hk (fun r a b c d => ⟨a, by rw [b]; rfl, fun q => by omega, fun q => by cases q⟩)
    · refine ⟨-1, bump S 1, fun M h => ?_, fun M h => ?_, hw⟩
      · unfold f_X7_gap
        dsimp only
        rw [X7_noLayer hl, Option.bind_some]
        dsimp only
        rw [if_neg (by decide), X7_noKey' hy, Option.bind_some]
        dsimp only
        rw [if_neg (by decide), bind_eta]
        exact X7_refuse neg1 (by decide) h
      · unfold f_X8_gap
        dsimp only
        rw [X8_isLayer hl, Option.bind_some]
        dsimp only
        rw [if_neg (by decide), X8_isKey' hy, Option.bind_some]
        dsimp only
        rw [if_neg (by decide), bind_eta]
        exact X8_no neg1 (by decide) h
  · refine ⟨-1, bump S 1, fun M h => ?_, fun M h => ?_, hw⟩
    · unfold f_X7_gap
      dsimp only
      rw [X7_noLayer' hx, Option.bind_some]
      dsimp only
      rw [if_pos (by decide), bind_eta]
      exact X7_refuse neg1 (by decide) h
    · unfold f_X8_gap
      dsimp only
      rw [X8_isLayer' hx, Option.bind_some]
      dsimp only
      rw [if_pos rfl, bind_eta]
      exact X8_no neg1 (by decide) h
theorem refers_same {S : St} (hw : WFS S) (x y z n : Int32) : SAME S (fun M => f_X7_refers M x y z n) (fun M => f_X8_refers M x y z n) := by
  rcases argL x with ⟨l, hl, rfl⟩ | hx
  · rcases argK y with ⟨k, hk, rfl⟩ | hy
    · rcases argK z with ⟨o, ho, rfl⟩ | hz
      · have pre7 : ∀ M, f_X7_refers M (nI l) (nI k) (nI o) n = if (-1) ≤ n then (if n ≤ 99 then (if 0 ≤ n then f_X7_replace M (nI l) (nI k) 3 n (nI o) else f_X7_replace M (nI l) (nI k) 2 0 (nI o)) else f_X7_refuse M (-6)) else f_X7_refuse M (-4) := by
          intro M
          unfold f_X7_refers
          rw [X7_noLayer hl, Option.bind_some]
          dsimp only
          rw [if_neg (by decide), X7_noKey hk, Option.bind_some]
          dsimp only
          rw [if_neg (by decide), X7_noKey ho, Option.bind_some]
          dsimp only
          rw [if_pos rfl, bind_eta, bind_eta, bind_eta, bind_eta]
        have pre8 : ∀ M, f_X8_refers M (nI l) (nI k) (nI o) n = if (-1) ≤ n then (if n ≤ 99 then (if 0 ≤ n then f_X8_tell M (nI l) (nI k) 3 (if 0 < n then n else 0) (nI o) else f_X8_tell M (nI l) (nI k) 2 (if 0 < n then n else 0) (nI o)) else f_X8_no M (-6)) else f_X8_no M (-4) := by
          intro M
          unfold f_X8_refers
          rw [X8_isLayer hl, Option.bind_some]
          dsimp only
          rw [if_neg (by decide), X8_isKey hk, Option.bind_some]
          dsimp only
          rw [if_neg (by decide), X8_isKey ho, Option.bind_some]
          dsimp only
          unfold f_X8_refers_67
          rw [if_pos (by decide), bind_eta, bind_eta, bind_eta, bind_eta]
        by_cases h1 : (-1) ≤ n
        · by_cases h2 : n ≤ 99
          · by_cases h3 : 0 ≤ n
            · have hmax : (if 0 < n then n else 0) = n := by
                by_cases h0 : 0 < n
                · rw [if_pos h0]
                · rw [if_neg h0]
                  exact Int32.le_antisymm h3 (Int32.not_lt.mp h0)
              refine ⟨if sEn (gS S) (8 * l + k) = none then 0 else 1, putS S (setEn (gS S) (8 * l + k) (some (3, n, o, []))), fun M h => ?_, fun M h => ?_, hw.now (hw.1.en ⟨by decide, ho, by simp, h3, h2⟩)⟩
              · dsimp only
                rw [pre7, if_pos h1, if_pos h2, if_pos h3]
                exact X7_replace h hw hl hk (fun M' a b c => ⟨a, by rw [b]; rfl, by rw [c]; rfl, fun q => by cases q⟩)
              · dsimp only
                rw [pre8, if_pos h1, if_pos h2, if_pos h3, hmax]
                exact X8_replace h hw hl hk (fun r a b c d => ⟨a, by rw [b]; rfl, fun q => c, fun q => by cases q⟩)
            · have hmax : (if 0 < n then n else 0) = 0 := if_neg (fun q => h3 (Int32.le_of_lt q))
              refine ⟨if sEn (gS S) (8 * l + k) = none then 0 else 1, putS S (setEn (gS S) (8 * l + k) (some (2, 0, o, []))), fun M h => ?_, fun M h => ?_, hw.now (hw.1.en ⟨by decide, ho, by simp, by decide, by decide⟩)⟩
              · dsimp only
                rw [pre7, if_pos h1, if_pos h2, if_neg h3]
                exact X7_replace h hw hl hk (fun M' a b c => ⟨a, by rw [b]; rfl, by rw [c]; rfl, fun q => by cases q⟩)
              · dsimp only
                rw [pre8, if_pos h1, if_pos h2, if_neg h3, hmax]
                exact X8_replace h hw hl hk (fun r a b c d => ⟨a, by rw [b]; rfl, fun q => c, fun q => by cases q⟩)
          · refine ⟨-6, bump S 6, fun M h => ?_, fun M h => ?_, hw⟩
            · dsimp only
              rw [pre7, if_pos h1, if_neg h2]
              exact X7_refuse neg6 (by decide) h
            · dsimp only
              rw [pre8, if_pos h1, if_neg h2]
              exact X8_no neg6 (by decide) h
        · refine ⟨-4, bump S 4, fun M h => ?_, fun M h => ?_, hw⟩
          · dsimp only
            rw [pre7, if_neg h1]
            exact X7_refuse neg4 (by decide) h
          · dsimp only
            rw [pre8, if_neg h1]
            exact X8_no neg4 (by decide) h
      · refine ⟨-1, bump S 1, fun M h => ?_, fun M h => ?_, hw⟩
        · unfold f_X7_refers
          dsimp only
          rw [X7_noLayer hl, Option.bind_some]
          dsimp only
          rw [if_neg (by decide), X7_noKey hk, Option.bind_some]
          dsimp only
          rw [if_neg (by decide), X7_noKey' hz, Option.bind_some]
          dsimp only
          rw [if_neg (by decide), bind_eta]
          exact X7_refuse neg1 (by decide) h
        · unfold f_X8_refers
          dsimp only
          rw [X8_isLayer hl, Option.bind_some]
          dsimp only
          rw [if_neg (by decide), X8_isKey hk, Option.bind_some]
          dsimp only
          rw [if_neg (by decide), X8_isKey' hz, Option.bind_some]
          dsimp only
          rw [if_neg (by decide), bind_eta]
          exact X8_no neg1 (by decide) h
    · refine ⟨-1, bump S 1, fun M h => ?_, fun M h => ?_, hw⟩
      · unfold f_X7_refers
        dsimp only
        rw [X7_noLayer hl, Option.bind_some]
        dsimp only
        rw [if_neg (by decide), X7_noKey' hy, Option.bind_some]
        dsimp only
        rw [if_pos (by decide), bind_eta]
        exact X7_refuse neg1 (by decide) h
      · unfold f_X8_refers
        dsimp only
        rw [X8_isLayer hl, Option.bind_some]
        dsimp only
        rw [if_neg (by decide), X8_isKey' hy, Option.bind_some]
        dsimp only
        rw [if_pos rfl, bind_eta]
        exact X8_no neg1 (by decide) h
  · refine ⟨-1, bump S 1, fun M h => ?_, fun M h => ?_, hw⟩
    · unfold f_X7_refers
      dsimp only
      rw [X7_noLayer' hx, Option.bind_some]
      dsimp only
      rw [if_pos (by decide), bind_eta]
      exact X7_refuse neg1 (by decide) h
    · unfold f_X8_refers
      dsimp only
      rw [X8_isLayer' hx, Option.bind_some]
      dsimp only
      rw [if_pos rfl, bind_eta]
      exact X8_no neg1 (by decide) h
/-- whether there is no entry: the class -/
theorem X7_noEntry {M : Mem} {S : St} {x y : Int32} (h : ClsI M S) (hw : WFS S) : (∃ l k, l < 6 ∧ k < 8 ∧ x = nI l ∧ y = nI k ∧ hasE (gS S) l k = true ∧ f_X7_noEntry M x y = some (0, M)) ∨ f_X7_noEntry M x y = some (1, M) := by
  unfold f_X7_noEntry
  rcases argL x with ⟨l, hl, rfl⟩ | hx
  · rw [X7_noLayer hl, Option.bind_some]
    dsimp only
    rw [if_neg (by decide)]
    rcases argK y with ⟨k, hk, rfl⟩ | hy
    · rw [X7_noKey hk, Option.bind_some]
      dsimp only
      rw [if_neg (by decide), X7_slotOf, Option.bind_some]
      dsimp only
      rw [rd_nI (by omega) (by decide), Option.bind_some]
      have hf := X4_form h.1 hw.1 hl hk
      by_cases hh : hasE (gS S) l k = true
      · rw [if_pos (fun q => by rw [hf.mp q] at hh; cases hh)]
        exact Or.inl ⟨l, k, hl, hk, rfl, rfl, hh, rfl⟩
      · rw [if_neg (fun q => q (hf.mpr (by simpa using hh)))]
        exact Or.inr rfl
    · rw [X7_noKey' hy, Option.bind_some]
      dsimp only
      rw [if_pos (by decide)]
      exact Or.inr rfl
  · rw [X7_noLayer' hx, Option.bind_some]
    dsimp only
    rw [if_pos (by decide)]
    exact Or.inr rfl
theorem noEntry_of {M : Mem} {S : St} {l k : Nat} (h : ClsI M S) (hw : WFS S) (hl : l < 6) (hk : k < 8) : f_X7_noEntry M (nI l) (nI k) = some (if hasE (gS S) l k = true then 0 else 1, M) := by
  unfold f_X7_noEntry
  rw [X7_noLayer hl, Option.bind_some]
  dsimp only
  rw [if_neg (by decide), X7_noKey hk, Option.bind_some]
  dsimp only
  rw [if_neg (by decide), X7_slotOf, Option.bind_some]
  dsimp only
  rw [rd_nI (by omega) (by decide), Option.bind_some]
  have hf := X4_form h.1 hw.1 hl hk
  by_cases hh : hasE (gS S) l k = true
  · rw [if_pos (fun q => by rw [hf.mp q] at hh; cases hh), if_pos hh]; rfl
  · rw [if_neg (fun q => q (hf.mpr (by simpa using hh))), if_neg hh]; rfl
theorem noEntry_bad {M : Mem} {x y : Int32} (h : (x < 0 ∨ ¬ x < 6) ∨ (∃ l, l < 6 ∧ x = nI l) ∧ (y < 0 ∨ ¬ y < 8)) : f_X7_noEntry M x y = some (1, M) := by
  unfold f_X7_noEntry
  rcases h with hx | ⟨⟨l, hl, rfl⟩, hy⟩
  · rw [X7_noLayer' hx, Option.bind_some]
    dsimp only
    rw [if_pos (by decide)]; rfl
  · rw [X7_noLayer hl, Option.bind_some]
    dsimp only
    rw [if_neg (by decide), X7_noKey' hy, Option.bind_some]
    dsimp only
    rw [if_pos (by decide)]; rfl
theorem drops_same {S : St} (hw : WFS S) (x y : Int32) : SAME S (fun M => f_X7_drops M x y) (fun M => f_X8_drops M x y) := by
  rcases argL x with ⟨l, hl, rfl⟩ | hx
  · rcases argK y with ⟨k, hk, rfl⟩ | hy
    · by_cases hh : hasE (gS S) l k = true
      · have hw' : WFs (setEn (gS S) (8 * l + k) none) := hw.1.en trivial
        refine ⟨nI (pcN (kbS (setEn (gS S) (8 * l + k) none) l)), putS S (setEn (gS S) (8 * l + k) none), fun M h => ?_, fun M h => ?_, hw.now hw'⟩
        · unfold f_X7_drops
          dsimp only
          rw [noEntry_of h hw hl hk, if_pos hh, Option.bind_some]
          dsimp only
          rw [if_pos rfl, X7_slotOf, Option.bind_some]
          dsimp only
          obtain ⟨M', e1, e2, e3⟩ := X4_eraseE h.1 hw.1 (show 8 * l + k < 48 by omega)
          rw [e1, Option.bind_some, X4_keyBits e2 hw' hl, Option.bind_some]
          dsimp only
          rw [J6_bitCount (kbS_lt _ _), Option.bind_some]
          exact ⟨M', rfl, h.now e2 (fun i hi => e3 i (by omega)), fun i hi => e3 i (by omega)⟩
        · unfold f_X8_drops
          dsimp only
          rw [X8_isLayer hl, Option.bind_some]
          dsimp only
          rw [if_neg (by decide), X8_isKey hk, Option.bind_some]
          dsimp only
          rw [if_neg (by decide), X8_has hw.1 h.1 hl hk, if_pos hh, Option.bind_some]
          dsimp only
          rw [if_pos (by decide), X8_entryAt, Option.bind_some]
          dsimp only
          rw [Int32.add_zero, wra_nI (by omega) (by decide), Option.bind_some]
          have hs : SMr (wr M 164 (30 + 12 * (8 * l + k)) (-9) 164) (setEn (gS S) (8 * l + k) none) := h.1.setE hw.1 (by omega) (show wr M 164 (30 + 12 * (8 * l + k)) (-9) 164 (30 + 12 * (8 * l + k)) = -9 by rw [wr_ap, if_pos ⟨rfl, rfl⟩]) (fun j hj => by rw [wr_ap, if_neg (by omega)])
          rw [X8_entries hs hw' hl, Option.bind_some]
          dsimp only
          rw [X8_ones (kbS_lt _ _), Option.bind_some]
          exact ⟨_, rfl, h.now hs (fun i hi => wr_ne hi), fun i hi => wr_ne (by omega)⟩
      · refine ⟨-1, bump S 1, fun M h => ?_, fun M h => ?_, hw⟩
        · unfold f_X7_drops
          dsimp only
          rw [noEntry_of h hw hl hk, if_neg hh, Option.bind_some]
          dsimp only
          rw [if_neg (by decide), bind_eta]
          exact X7_refuse neg1 (by decide) h
        · unfold f_X8_drops
          dsimp only
          rw [X8_isLayer hl, Option.bind_some]
          dsimp only
          rw [if_neg (by decide), X8_isKey hk, Option.bind_some]
          dsimp only
          rw [if_neg (by decide), X8_has hw.1 h.1 hl hk, if_neg hh, Option.bind_some]
          dsimp only
          rw [if_neg (by decide), bind_eta]
          exact X8_no neg1 (by decide) h
    · refine ⟨-1, bump S 1, fun M h => ?_, fun M h => ?_, hw⟩
      · unfold f_X7_drops
        dsimp only
        rw [noEntry_bad (Or.inr ⟨⟨l, hl, rfl⟩, hy⟩), Option.bind_some]
        dsimp only
        rw [if_neg (by decide), bind_eta]
        exact X7_refuse neg1 (by decide) h
      · unfold f_X8_drops
        dsimp only
        rw [X8_isLayer hl, Option.bind_some]
        dsimp only
        rw [if_neg (by decide), X8_isKey' hy, Option.bind_some]
        dsimp only
        rw [if_pos rfl, bind_eta]
        exact X8_no neg1 (by decide) h
  · refine ⟨-1, bump S 1, fun M h => ?_, fun M h => ?_, hw⟩
    · unfold f_X7_drops
      dsimp only
      rw [noEntry_bad (Or.inl hx), Option.bind_some]
      dsimp only
      rw [if_neg (by decide), bind_eta]
      exact X7_refuse neg1 (by decide) h
    · unfold f_X8_drops
      dsimp only
      rw [X8_isLayer' hx, Option.bind_some]
      dsimp only
      rw [if_pos rfl, bind_eta]
      exact X8_no neg1 (by decide) h
theorem LsI.app {n n' v : Int32} {r r' : Nat → Int32} {ls : List Int32} (h : LsI n r ls) (h1 : n' = nI (ls.length + 1)) (h2 : r' ls.length = v) (h3 : ∀ i, i ≠ ls.length → r' i = r i) : LsI n' r' (ls ++ [v]) := by
  refine ⟨by rw [h1]; simp, fun i w hw => ?_⟩
  by_cases hi : i < ls.length
  · rw [List.getElem?_append_left hi] at hw
    rw [h3 i (by omega)]; exact h.2 i w hw
  · rw [List.getElem?_append_right (by omega)] at hw
    have h0 : i - ls.length = 0 := by
      have := (List.getElem?_eq_some_iff.mp hw).1
      simp at this
      omega
    have hi2 : i = ls.length := by omega
    rw [h0] at hw
    simp at hw
    subst hw
    rw [hi2]; exact h2
def putR (S : St) (r : List Int32) : St := (gS S, gI S, r, gT S, gF S)
def putT (S : St) (t : List Int32) : St := (gS S, gI S, gR S, t, gF S)
theorem letter_same {S : St} (hw : WFS S) (x : Int32) : SAME S (fun M => f_X7_letter M x) (fun M => f_X8_letter M x) := by
  by_cases h0 : 0 ≤ x
  · by_cases h1 : 255 < x
    · refine ⟨-6, bump S 6, fun M h => ?_, fun M h => ?_, hw⟩
      · unfold f_X7_letter
        dsimp only
        rw [if_pos h0, if_pos h1, bind_eta]
        exact X7_refuse neg6 (by decide) h
      · unfold f_X8_letter
        dsimp only
        rw [if_pos h0, if_pos h1, bind_eta]
        exact X8_no neg6 (by decide) h
    · have hl := hw.2.2.2.2.1
      by_cases h2 : (gT S).length < 96
      · refine ⟨nI ((gT S).length + 1), putT S (gT S ++ [x]), fun M h => ?_, fun M h => ?_, ⟨hw.1, hw.2.1, hw.2.2.1, hw.2.2.2.1, by show (gT S ++ [x]).length ≤ 96; simp; omega, fun c hc => ?_⟩⟩
        · obtain ⟨g1, g2, g3, g4, g5⟩ := h
          unfold f_X7_letter f_X6_append
          dsimp only
          rw [if_pos h0, if_neg h1, g4.1, if_pos (show nI (gT S).length < 96 from nI_lt (b := 96) h2 (by decide)), wra_nI h2 (by decide), Option.bind_some, wrf_eq, Option.bind_some, wr_ne (show 97 ≠ 98 by decide), g4.1, nI_1, wr_ap, if_pos ⟨rfl, rfl⟩, Option.bind_some]
          dsimp only
          refine ⟨_, rfl, ⟨g1.fr (fun i a b => by rw [wr_ne (by omega), wr_ne (by omega)]), g2.fr (by rw [wr_ne (by decide), wr_ne (by decide)]) (fun i a b => by rw [wr_ne (by omega), wr_ne (by omega)]), ?_, ?_, fun i hi => ?_⟩, fun i hi => by rw [wr_ne (by omega), wr_ne (by omega)]⟩
          · rw [wr_ne (by decide), wr_ne (by decide), wr_ne (by decide), wr_ne (by decide)]; exact g3
          · refine g4.app ?_ ?_ (fun i hi => ?_)
            · rw [wr_ap, if_pos ⟨rfl, rfl⟩]
            · rw [wr_ne (by decide), wr_ap, if_pos ⟨rfl, rfl⟩]
            · rw [wr_ne (by decide), wr_ap, if_neg (by omega)]
          · rw [wr_ne (by decide), wr_ne (by decide)]; exact g5 i hi
        · obtain ⟨g1, g2, g3, g4, g5⟩ := h
          unfold f_X8_letter
          dsimp only
          rw [if_pos h0, if_neg h1, g4.1, if_pos (show ¬ nI (gT S).length = 96 from fun q => by have := (nI_eq (b := 96) (by omega) (by decide)).mp q; omega), wra_nI h2 (by decide), Option.bind_some, wrf_eq, Option.bind_some, wr_ne (show 163 ≠ 169 by decide), g4.1, nI_1, wr_ap, if_pos ⟨rfl, rfl⟩]
          refine ⟨_, rfl, ⟨by rw [wr_ne (by decide), wr_ne (by decide)]; exact g1, g2.fr (by rw [wr_ap, if_neg (by decide), wr_ne (by decide)]) (by rw [wr_ne (by decide), wr_ne (by decide)]), ?_, ?_, fun i hi => ?_⟩, fun i hi => by rw [wr_ne (by omega), wr_ne (by omega)]⟩
          · rw [wr_ap, if_neg (by decide), wr_ne (show 163 ≠ 169 by decide), wr_ne (show 170 ≠ 163 by decide), wr_ne (show 170 ≠ 169 by decide)]; exact g3
          · refine g4.app ?_ ?_ (fun i hi => ?_)
            · rw [wr_ap, if_pos ⟨rfl, rfl⟩]
            · rw [wr_ne (by decide), wr_ap, if_pos ⟨rfl, rfl⟩]
            · rw [wr_ne (by decide), wr_ap, if_neg (by omega)]
          · rw [wr_ne (by decide), wr_ne (by decide)]; exact g5 i hi
        · rcases List.mem_append.mp hc with hc | hc
          · exact hw.2.2.2.2.2 c hc
          · rw [List.mem_singleton.mp hc]; exact ⟨h0, Int32.not_lt.mp h1⟩
      · have h96 : (gT S).length = 96 := by omega
        refine ⟨-6, bump S 6, fun M h => ?_, fun M h => ?_, hw⟩
        · unfold f_X7_letter
          dsimp only
          rw [if_pos h0, if_neg h1, h.2.2.2.1.1, h96, if_neg (by decide), bind_eta]
          exact X7_refuse neg6 (by decide) h
        · unfold f_X8_letter
          dsimp only
          rw [if_pos h0, if_neg h1, h.2.2.2.1.1, h96, if_neg (by decide), bind_eta]
          exact X8_no neg6 (by decide) h
  · refine ⟨-4, bump S 4, fun M h => ?_, fun M h => ?_, hw⟩
    · unfold f_X7_letter
      dsimp only
      rw [if_neg h0, bind_eta]
      exact X7_refuse neg4 (by decide) h
    · unfold f_X8_letter
      dsimp only
      rw [if_neg h0, bind_eta]
      exact X8_no neg4 (by decide) h
theorem row_same {S : St} (hw : WFS S) (x : Int32) : SAME S (fun M => f_X7_row M x) (fun M => f_X8_row M x) := by
  by_cases h0 : 0 ≤ x
  · by_cases h1 : 100 < x
    · refine ⟨-6, bump S 6, fun M h => ?_, fun M h => ?_, hw⟩
      · unfold f_X7_row
        dsimp only
        rw [if_pos h0, if_pos h1, bind_eta]
        exact X7_refuse neg6 (by decide) h
      · unfold f_X8_row
        dsimp only
        rw [if_pos h0, if_pos h1, bind_eta]
        exact X8_no neg6 (by decide) h
    · have hl := hw.2.2.1
      by_cases h2 : (gR S).length < 8
      · refine ⟨nI ((gR S).length + 1), putR S (gR S ++ [x]), fun M h => ?_, fun M h => ?_, ⟨hw.1, hw.2.1, by show (gR S ++ [x]).length ≤ 8; simp; omega, fun c hc => ?_, hw.2.2.2.2⟩⟩
        · obtain ⟨g1, g2, g3, g4, g5⟩ := h
          unfold f_X7_row f_X3_append
          dsimp only
          rw [if_pos h0, if_neg h1, g3.1, if_pos (show nI (gR S).length < 8 from nI_lt (b := 8) h2 (by decide)), wra_nI h2 (by decide), Option.bind_some, wrf_eq, Option.bind_some, wr_ne (show 102 ≠ 103 by decide), g3.1, nI_1, wr_ap, if_pos ⟨rfl, rfl⟩, Option.bind_some]
          dsimp only
          refine ⟨_, rfl, ⟨g1.fr (fun i a b => by rw [wr_ne (by omega), wr_ne (by omega)]), g2.fr (by rw [wr_ne (by decide), wr_ne (by decide)]) (fun i a b => by rw [wr_ne (by omega), wr_ne (by omega)]), ?_, ?_, fun i hi => ?_⟩, fun i hi => by rw [wr_ne (by omega), wr_ne (by omega)]⟩
          · refine g3.app ?_ ?_ (fun i hi => ?_)
            · rw [wr_ap, if_pos ⟨rfl, rfl⟩]
            · rw [wr_ne (by decide), wr_ap, if_pos ⟨rfl, rfl⟩]
            · rw [wr_ne (by decide), wr_ap, if_neg (by omega)]
          · rw [wr_ne (by decide), wr_ne (by decide), wr_ne (by decide), wr_ne (by decide)]; exact g4
          · rw [wr_ne (by decide), wr_ne (by decide)]; exact g5 i hi
        · obtain ⟨g1, g2, g3, g4, g5⟩ := h
          unfold f_X8_row
          dsimp only
          rw [if_pos h0, if_neg h1, g3.1, if_pos (show ¬ nI (gR S).length = 8 from fun q => by have := (nI_eq (b := 8) (by omega) (by decide)).mp q; omega), wra_nI h2 (by decide), Option.bind_some, wrf_eq, Option.bind_some, wr_ne (show 163 ≠ 170 by decide), g3.1, nI_1, wr_ap, if_pos ⟨rfl, rfl⟩]
          refine ⟨_, rfl, ⟨by rw [wr_ne (by decide), wr_ne (by decide)]; exact g1, g2.fr (by rw [wr_ap, if_neg (by decide), wr_ne (by decide)]) (by rw [wr_ne (by decide), wr_ne (by decide)]), ?_, ?_, fun i hi => ?_⟩, fun i hi => by rw [wr_ne (by omega), wr_ne (by omega)]⟩
          · refine g3.app ?_ ?_ (fun i hi => ?_)
            · rw [wr_ap, if_pos ⟨rfl, rfl⟩]
            · rw [wr_ne (by decide), wr_ap, if_pos ⟨rfl, rfl⟩]
            · rw [wr_ne (by decide), wr_ap, if_neg (by omega)]
          · rw [wr_ap, if_neg (by decide), wr_ne (show 163 ≠ 170 by decide), wr_ne (show 169 ≠ 163 by decide), wr_ne (show 169 ≠ 170 by decide)]; exact g4
          · rw [wr_ne (by decide), wr_ne (by decide)]; exact g5 i hi
        · rcases List.mem_append.mp hc with hc | hc
          · exact hw.2.2.2.1 c hc
          · rw [List.mem_singleton.mp hc]; exact ⟨h0, Int32.not_lt.mp h1⟩
      · have h96 : (gR S).length = 8 := by omega
        refine ⟨-6, bump S 6, fun M h => ?_, fun M h => ?_, hw⟩
        · unfold f_X7_row
          dsimp only
          rw [if_pos h0, if_neg h1, h.2.2.1.1, h96, if_neg (by decide), bind_eta]
          exact X7_refuse neg6 (by decide) h
        · unfold f_X8_row
          dsimp only
          rw [if_pos h0, if_neg h1, h.2.2.1.1, h96, if_neg (by decide), bind_eta]
          exact X8_no neg6 (by decide) h
  · refine ⟨-4, bump S 4, fun M h => ?_, fun M h => ?_, hw⟩
    · unfold f_X7_row
      dsimp only
      rw [if_neg h0, bind_eta]
      exact X7_refuse neg4 (by decide) h
    · unfold f_X8_row
      dsimp only
      rw [if_neg h0, bind_eta]
      exact X8_no neg4 (by decide) h
/-- the row is emptied -/
theorem ClsI.clr {M : Mem} {S : St} (h : ClsI M S) : ClsI (wr M 102 1 0) (putR S []) := by
  obtain ⟨g1, g2, g3, g4, g5⟩ := h
  refine ⟨g1.fr (fun i a b => wr_ne (by omega)), g2.fr (wr_ne (by decide)) (fun i a b => wr_ne (by omega)), ⟨by rw [wr_ap, if_pos ⟨rfl, rfl⟩]; rfl, fun i v hv => by have hv' : ([] : List Int32)[i]? = some v := hv; simp at hv'⟩, ?_, fun i hi => ?_⟩
  · rw [wr_ne (by decide), wr_ne (by decide)]; exact g4
  · rw [wr_ne (by decide)]; exact g5 i hi
theorem ModI.clr {M : Mem} {S : St} (h : ModI M S) : ModI (wr M 163 8 0) (putR S []) := by
  obtain ⟨g1, g2, g3, g4, g5⟩ := h
  refine ⟨by rw [wr_ne (by decide)]; exact g1, g2.fr (by rw [wr_ap, if_neg (by decide)]) (wr_ne (by decide)), ⟨by rw [wr_ap, if_pos ⟨rfl, rfl⟩]; rfl, fun i v hv => by have hv' : ([] : List Int32)[i]? = some v := hv; simp at hv'⟩, ?_, fun i hi => ?_⟩
  · rw [wr_ap, if_neg (by decide), wr_ne (by decide)]; exact g4
  · rw [wr_ne (by decide)]; exact g5 i hi
theorem WFS.clr {S : St} (h : WFS S) : WFS (putR S []) := ⟨h.1, h.2.1, by show ([] : List Int32).length ≤ 8; simp, fun v hv => by have hv' : v ∈ ([] : List Int32) := hv; simp at hv', h.2.2.2.2⟩
theorem clear_same {S : St} (hw : WFS S) : SAME S (fun M => f_X7_clear M) (fun M => f_X8_clear M) := by
  refine ⟨nI (gR S).length, putR S [], fun M h => ?_, fun M h => ?_, hw.clr⟩
  · exact ⟨wr M 102 1 0, by unfold f_X7_clear; dsimp only; rw [wrf_eq, Option.bind_some, h.2.2.1.1], h.clr, fun i hi => wr_ne (by omega)⟩
  · exact ⟨wr M 163 8 0, by unfold f_X8_clear; dsimp only; rw [wrf_eq, Option.bind_some, h.2.2.1.1], h.clr, fun i hi => wr_ne (by omega)⟩
def putI (S : St) (ι : Sc) : St := (gS S, some ι, gR S, gT S, gF S)
theorem ln640 : ln 164 = 640 ∧ ln 165 = 640 ∧ ln 166 = 640 ∧ ln 167 = 640 := by decide +kernel
theorem image_same {S : St} (hw : WFS S) : SAME S (fun M => f_X7_image M) (fun M => f_X8_image M) := by
  refine ⟨totS (gS S) 6, putI S (gS S), fun M h => ?_, fun M h => ?_, ⟨hw.1, fun ι hi => by cases hi; exact hw.1, hw.2.2⟩⟩
  · unfold f_X7_image
    dsimp only
    obtain ⟨M', e1, e2, e3⟩ := X4_become (s := 11) h.1 hw.1 (by omega)
    have hsc : SCr (wr M' 0 9 1) 1 (gS S) := h.1.fr (fun i a b => by rw [wr_ne (by omega), e3 i (by omega)])
    rw [e1, Option.bind_some, wrz_eq (Or.inr rfl), Option.bind_some, X4_entries hsc hw.1, Option.bind_some]
    dsimp only
    refine ⟨_, rfl, ⟨hsc, ⟨by rw [wr_ap, if_pos ⟨rfl, rfl⟩], e2.fr (fun i a b => wr_ne (by omega))⟩, ?_, ?_, fun i hi => ?_⟩, fun i hi => by rw [wr_ne (by omega), e3 i (by omega)]⟩
    · rw [wr_ne (by decide), wr_ne (by decide), e3 _ (by omega), e3 _ (by omega)]; exact h.2.2.1
    · rw [wr_ne (by decide), wr_ne (by decide), e3 _ (by omega), e3 _ (by omega)]; exact h.2.2.2.1
    · rw [wr_ne (by decide), e3 _ (by omega)]; exact h.2.2.2.2 i hi
  · unfold f_X8_image
    dsimp only
    have h1 : SMr (wr M 163 12 1 164) (gS S) := by rw [wr_ne (by decide)]; exact h.1
    rw [wrz_eq (Or.inr rfl), Option.bind_some]
    obtain ⟨M', e1, e2, e3⟩ := X8_copies ln640.1 ln640.2.1 (by decide) h1 hw.1
    have h2 : SMr (M' 164) (gS S) := by rw [e3 164 (by decide)]; exact h1
    rw [e1, Option.bind_some, X8_entries_ h2 hw.1, Option.bind_some]
    dsimp only
    refine ⟨_, rfl, ⟨h2, ⟨by rw [e3 163 (by decide), wr_ap, if_pos ⟨rfl, rfl⟩], e2⟩, ?_, ?_, fun i hi => ?_⟩, fun i hi => by rw [e3 i (by omega), wr_ne (by omega)]⟩
    · rw [e3 163 (by decide), e3 170 (by decide), wr_ap, if_neg (by decide), wr_ne (by decide)]; exact h.2.2.1
    · rw [e3 163 (by decide), e3 169 (by decide), wr_ap, if_neg (by decide), wr_ne (by decide)]; exact h.2.2.2.1
    · rw [e3 168 (by decide), wr_ne (by decide)]; exact h.2.2.2.2 i hi
theorem on_same {S : St} (hw : WFS S) : SAME S (fun M => f_X7_on M) (fun M => f_X8_on M) := by
  rcases hi : gI S with _ | ι
  · refine ⟨-3, bump S 3, fun M h => ?_, fun M h => ?_, hw⟩
    · have h9 := h.2.1
      rw [hi] at h9
      unfold f_X7_on
      dsimp only
      rw [show M 0 9 = 0 from h9, if_neg (by decide), bind_eta]
      exact X7_refuse neg3 (by decide) h
    · have h9 := h.2.1
      rw [hi] at h9
      unfold f_X8_on
      dsimp only
      rw [show M 163 12 = 0 from h9, if_neg (by decide), bind_eta]
      exact X8_no neg3 (by decide) h
  · have hwι := hw.2.1 ι hi
    refine ⟨totS ι 6, putS S ι, fun M h => ?_, fun M h => ?_, hw.now hwι⟩
    · have h9 := h.2.1
      rw [hi] at h9
      unfold f_X7_on
      dsimp only
      obtain ⟨M', e1, e2, e3⟩ := X4_become (s := 1) h9.2 hwι (by omega)
      rw [h9.1, if_pos (by decide), e1, Option.bind_some, X4_entries e2 hwι, Option.bind_some]
      exact ⟨M', rfl, h.now e2 (fun i hi => e3 i (by omega)), fun i hi => e3 i (by omega)⟩
    · have h9 := h.2.1
      rw [hi] at h9
      unfold f_X8_on
      dsimp only
      obtain ⟨M', e1, e2, e3⟩ := X8_copies ln640.2.1 ln640.1 (by decide) h9.2 hwι
      rw [h9.1, if_pos (by decide), e1, Option.bind_some, X8_entries_ e2 hwι, Option.bind_some]
      exact ⟨M', rfl, h.now e2 e3, fun i hi => e3 i (by omega)⟩
