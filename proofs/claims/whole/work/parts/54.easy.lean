/-! the calls that only look and put -/
def putS (S : St) (σ : Sc) : St := (σ, S.2)
theorem ClsI.now {M M' : Mem} {S : St} {σ : Sc} (h : ClsI M S) (h1 : SCr M' 1 σ) (hM : ∀ i, (i < 1 ∨ 11 ≤ i) → M' i = M i) : ClsI M' (putS S σ) := by
  obtain ⟨-, g2, g3, g4, g5⟩ := h
  refine ⟨h1, g2.fr (hM 0 (by omega)) (fun i a b => hM i (by omega)), ?_, ?_, fun i hi => ?_⟩
  · rw [hM 102 (by omega), hM 103 (by omega)]; exact g3
  · rw [hM 97 (by omega), hM 98 (by omega)]; exact g4
  · rw [hM 106 (by omega)]; exact g5 i hi
theorem ModI.now {M M' : Mem} {S : St} {σ : Sc} (h : ModI M S) (h1 : SMr (M' 164) σ) (hM : ∀ i, i ≠ 164 → M' i = M i) : ModI M' (putS S σ) := by
  obtain ⟨-, g2, g3, g4, g5⟩ := h
  refine ⟨h1, g2.fr (by rw [hM 163 (by decide)]) (hM 165 (by decide)), ?_, ?_, fun i hi => ?_⟩
  · rw [hM 163 (by decide), hM 170 (by decide)]; exact g3
  · rw [hM 163 (by decide), hM 169 (by decide)]; exact g4
  · rw [hM 168 (by decide)]; exact g5 i hi
theorem WFS.now {S : St} {σ : Sc} (h : WFS S) (hw : WFs σ) : WFS (putS S σ) := ⟨hw, h.2⟩
theorem argL (x : Int32) : (∃ l, l < 6 ∧ x = nI l) ∨ (x < 0 ∨ ¬ x < 6) := argc x 6 (by decide)
theorem argK (x : Int32) : (∃ k, k < 8 ∧ x = nI k) ∨ (x < 0 ∨ ¬ x < 8) := argc x 8 (by decide)
theorem argo (x : Int32) (n : Nat) (hn : n < 2 ^ 31) : (∃ i, i ≤ n ∧ x = nI i) ∨ (x < 0 ∨ (¬ x < 0 ∧ ¬ x ≤ nI n)) := by
  by_cases h0 : x < 0
  · exact Or.inr (Or.inl h0)
  · by_cases h1 : x ≤ nI n
    · obtain ⟨i, hi, rfl⟩ := nI_of h0
      exact Or.inl ⟨i, (nI_leI hi hn).mp h1, rfl⟩
    · exact Or.inr (Or.inr ⟨h0, h1⟩)
theorem ge0 {i : Nat} (h : i < 2 ^ 31) : (0 : Int32) ≤ nI i := nI_le (a := 0) (Nat.zero_le _) h
theorem nge0 {x : Int32} (h : x < 0) : ¬ (0 : Int32) ≤ x := Int32.not_le.mpr h
theorem ge0' {x : Int32} (h : ¬ x < 0) : (0 : Int32) ≤ x := Int32.not_lt.mp h
theorem X7_out {M : Mem} {i n : Nat} (h : i ≤ n) (hn : n < 2 ^ 31) : f_X7_outside M (nI i) (nI n) = some (0, M) := by
  unfold f_X7_outside
  rw [if_pos (ge0 (by omega)), if_pos (nI_le h hn)]
theorem X7_outL {M : Mem} {x y : Int32} (h : x < 0) : f_X7_outside M x y = some (-4, M) := by
  unfold f_X7_outside
  rw [if_neg (nge0 h)]
theorem X7_outH {M : Mem} {x y : Int32} (h : ¬ x < 0) (h2 : ¬ x ≤ y) : f_X7_outside M x y = some (-6, M) := by
  unfold f_X7_outside
  rw [if_pos (ge0' h), if_neg h2]
theorem turns_same {S : St} (hw : WFS S) (x : Int32) : SAME S (fun M => f_X7_turns M x) (fun M => f_X8_turns M x) := by
  rcases argL x with ⟨l, hl, rfl⟩ | hx
  · refine ⟨if sOn (gS S) l = true then 0 else 1, putS S (setOn (gS S) l (!sOn (gS S) l)), fun M h => ?_, fun M h => ?_, hw.now (hw.1.on1 l _)⟩
    · unfold f_X7_turns
      dsimp only
      rw [X7_noLayer hl, Option.bind_some]
      dsimp only
      rw [if_pos rfl]
      obtain ⟨e1, e2⟩ := X4_toggle h.1 hl
      rw [e1, Option.bind_some, X4_isOn e2 hl, Option.bind_some]
      have hs : sOn (setOn (gS S) l (!sOn (gS S) l)) l = !sOn (gS S) l := by show fup _ _ _ _ = _; unfold fup; simp
      rw [hs]
      refine ⟨_, ?_, h.now e2 (fun i hi => wr_ne (by omega)), fun i hi => wr_ne (by omega)⟩
      by_cases hb : sOn (gS S) l = true
      · simp [hb]
      · simp [hb]
    · unfold f_X8_turns
      dsimp only
      rw [X8_isLayer hl, Option.bind_some]
      dsimp only
      rw [if_pos (by decide), m_a0, rd_nI (by omega) (by decide), Option.bind_some, wra_nI (by omega) (by decide), Option.bind_some, rd_nI (by omega) (by decide), Option.bind_some, wr_ap, if_pos ⟨rfl, rfl⟩]
      have h0 := (h.1.1 l hl).1
      refine ⟨wr M 164 (3 * l) (1 - M 164 (3 * l)), ?_, h.now (SMr.on h.1 hl (b := !sOn (gS S) l) ?_ (fun j hj => by rw [wr_ap, if_neg (by omega)])) (fun i hi => wr_ne hi), fun i hi => wr_ne (by omega)⟩
      · rw [h0]
        by_cases hb : sOn (gS S) l = true
        · simp [hb]
        · simp [hb]
      · rw [wr_ap, if_pos ⟨rfl, rfl⟩, h0]
        by_cases hb : sOn (gS S) l = true
        · simp [hb]
        · simp [hb]
  · refine ⟨-1, bump S 1, fun M h => ?_, fun M h => ?_, hw⟩
    · unfold f_X7_turns
      dsimp only
      rw [X7_noLayer' hx, Option.bind_some]
      dsimp only
      rw [if_neg (by decide), bind_eta]
      exact X7_refuse neg1 (by decide) h
    · unfold f_X8_turns
      dsimp only
      rw [X8_isLayer' hx, Option.bind_some]
      dsimp only
      rw [if_neg (by decide), bind_eta]
      exact X8_no neg1 (by decide) h
theorem kind_same {S : St} (hw : WFS S) (x y z : Int32) : SAME S (fun M => f_X7_kind M x y z) (fun M => f_X8_kind M x y z) := by
  rcases argL x with ⟨l, hl, rfl⟩ | hx
  · rcases argc y 6 (by decide) with ⟨k, hk, rfl⟩ | hy
    · rcases argo z 9 (by decide) with ⟨f, hf, rfl⟩ | hz | ⟨hz1, hz2⟩
      · refine ⟨10 * nI (sKd (gS S) l) + nI (sFg (gS S) l), putS S (setKF (gS S) l k f), fun M h => ?_, fun M h => ?_, hw.now (hw.1.kf hk hf)⟩
        · unfold f_X7_kind
          dsimp only
          rw [X7_noLayer hl, Option.bind_some]
          dsimp only
          have ho : f_X7_outside M (nI f) 9 = some (0, M) := X7_out (n := 9) hf (by decide)
          rw [if_pos rfl, if_neg (nI_pos (by omega)), if_pos (show nI k < 6 from nI_lt (b := 6) hk (by decide)), ho, Option.bind_some]
          dsimp only
          rw [if_pos rfl, rd_nI hl (by decide), Option.bind_some, rd_nI hl (by decide), Option.bind_some]
          obtain ⟨M', e1, e2, e3⟩ := X4_putKind h.1 hw.1 hl hk hf
          rw [e1, Option.bind_some, (h.1.2.1 l hl).1, (h.1.2.1 l hl).2]
          exact ⟨M', rfl, h.now e2 (fun i hi => e3 i (by omega) (by omega) (by omega)), fun i hi => e3 i (by omega) (by omega) (by omega)⟩
        · unfold f_X8_kind
          dsimp only
          rw [X8_isLayer hl, Option.bind_some]
          dsimp only
          have hi : f_X8_isIn M (nI k) 0 5 = some (1, M) := X8_isIn (n := 6) hk (by decide)
          rw [if_pos (by decide), hi, Option.bind_some]
          dsimp only
          rw [if_pos (by decide), if_pos (ge0 (by omega)), if_pos (show nI f ≤ 9 from nI_le (b := 9) hf (by decide)), m_a1, rd_nI (by omega) (by decide), Option.bind_some, m_a2, rd_nI (by omega) (by decide), Option.bind_some, wra_nI (by omega) (by decide), Option.bind_some, wra_nI (by omega) (by decide), Option.bind_some, (h.1.1 l hl).2.1, (h.1.1 l hl).2.2]
          refine ⟨_, rfl, h.now (SMr.kf h.1 hl ?_ ?_ (fun j a b => by rw [wr_ap, if_neg (by omega), wr_ap, if_neg (by omega)])) (fun i hi => by rw [wr_ne hi, wr_ne hi]), fun i hi => by rw [wr_ne (by omega), wr_ne (by omega)]⟩
          · rw [wr_ap, if_neg (by omega), wr_ap, if_pos ⟨rfl, rfl⟩]
          · rw [wr_ap, if_pos ⟨rfl, rfl⟩]
      · refine ⟨-4, bump S 4, fun M h => ?_, fun M h => ?_, hw⟩
        · unfold f_X7_kind
          dsimp only
          rw [X7_noLayer hl, Option.bind_some]
          dsimp only
          rw [if_pos rfl, if_neg (nI_pos (by omega)), if_pos (show nI k < 6 from nI_lt (b := 6) hk (by decide)), X7_outL hz, Option.bind_some]
          dsimp only
          rw [if_neg (by decide), bind_eta]
          exact X7_refuse neg4 (by decide) h
        · unfold f_X8_kind
          dsimp only
          rw [X8_isLayer hl, Option.bind_some]
          dsimp only
          have hi : f_X8_isIn M (nI k) 0 5 = some (1, M) := X8_isIn (n := 6) hk (by decide)
          rw [if_pos (by decide), hi, Option.bind_some]
          dsimp only
          rw [if_pos (by decide), if_neg (nge0 hz), bind_eta]
          exact X8_no neg4 (by decide) h
      · refine ⟨-6, bump S 6, fun M h => ?_, fun M h => ?_, hw⟩
        · unfold f_X7_kind
          dsimp only
          rw [X7_noLayer hl, Option.bind_some]
          dsimp only
          rw [if_pos rfl, if_neg (nI_pos (by omega)), if_pos (show nI k < 6 from nI_lt (b := 6) hk (by decide)), X7_outH (y := 9) hz1 hz2, Option.bind_some]
          dsimp only
          rw [if_neg (by decide), bind_eta]
          exact X7_refuse neg6 (by decide) h
        · unfold f_X8_kind
          dsimp only
          rw [X8_isLayer hl, Option.bind_some]
          dsimp only
          have hi : f_X8_isIn M (nI k) 0 5 = some (1, M) := X8_isIn (n := 6) hk (by decide)
          rw [if_pos (by decide), hi, Option.bind_some]
          dsimp only
          rw [if_pos (by decide), if_pos (ge0' hz1), if_neg (show ¬ z ≤ 9 from hz2), bind_eta]
          exact X8_no neg6 (by decide) h
    · refine ⟨-2, bump S 2, fun M h => ?_, fun M h => ?_, hw⟩
      · unfold f_X7_kind
        dsimp only
        rw [X7_noLayer hl, Option.bind_some]
        dsimp only
        rw [if_pos rfl]
        by_cases hy0 : y < 0
        · rw [if_pos hy0, bind_eta]
          exact X7_refuse neg2 (by decide) h
        · rw [if_neg hy0, if_neg (show ¬ y < 6 from hy.resolve_left hy0), bind_eta]
          exact X7_refuse neg2 (by decide) h
      · unfold f_X8_kind
        dsimp only
        rw [X8_isLayer hl, Option.bind_some]
        dsimp only
        have hi : f_X8_isIn M y 0 5 = some (0, M) := X8_isIn' (n := 6) hy (by decide) (by decide)
        rw [if_pos (by decide), hi, Option.bind_some]
        dsimp only
        rw [if_neg (by decide), bind_eta]
        exact X8_no neg2 (by decide) h
  · refine ⟨-1, bump S 1, fun M h => ?_, fun M h => ?_, hw⟩
    · unfold f_X7_kind
      dsimp only
      rw [X7_noLayer' hx, Option.bind_some]
      dsimp only
      rw [if_neg (by decide), bind_eta]
      exact X7_refuse neg1 (by decide) h
    · unfold f_X8_kind
      dsimp only
      rw [X8_isLayer' hx, Option.bind_some]
      dsimp only
      rw [if_neg (by decide), bind_eta]
      exact X8_no neg1 (by decide) h
theorem manner_same {S : St} (hw : WFS S) (x y : Int32) : SAME S (fun M => f_X7_manner M x y) (fun M => f_X8_manner M x y) := by
  rcases argK x with ⟨k, hk, rfl⟩ | hx
  · rcases argc y 5 (by decide) with ⟨m, hm, rfl⟩ | hy
    · refine ⟨nI (sMn (gS S) k), putS S (setMn (gS S) k m), fun M h => ?_, fun M h => ?_, hw.now (hw.1.mn hm)⟩
      · unfold f_X7_manner
        dsimp only
        rw [X7_noKey hk, Option.bind_some]
        dsimp only
        rw [if_pos rfl, if_neg (nI_pos (by omega)), if_pos (show nI m < 5 from nI_lt (b := 5) hm (by decide)), rd_nI hk (by decide), Option.bind_some, wra_nI hk (by decide), Option.bind_some]
        refine ⟨_, by rw [h.1.2.2.1 k hk], h.now (SCr.manner h.1) (fun i hi => wr_ne (by omega)), fun i hi => wr_ne (by omega)⟩
      · unfold f_X8_manner
        dsimp only
        rw [X8_isKey hk, Option.bind_some]
        dsimp only
        have hi : f_X8_isIn M (nI m) 0 4 = some (1, M) := X8_isIn (n := 5) hm (by decide)
        rw [if_pos (by decide), hi, Option.bind_some]
        dsimp only
        rw [if_pos (by decide), show (20 : Int32) = nI 20 from rfl, nI_add, rd_nI (by omega) (by decide), Option.bind_some, wra_nI (by omega) (by decide), Option.bind_some]
        refine ⟨_, by rw [h.1.2.1 k hk], h.now (SMr.mn h.1 hk (by rw [wr_ap, if_pos ⟨rfl, rfl⟩]) (fun j hj => by rw [wr_ap, if_neg (by omega)])) (fun i hi => wr_ne hi), fun i hi => wr_ne (by omega)⟩
    · refine ⟨-2, bump S 2, fun M h => ?_, fun M h => ?_, hw⟩
      · unfold f_X7_manner
        dsimp only
        rw [X7_noKey hk, Option.bind_some]
        dsimp only
        rw [if_pos rfl]
        by_cases hy0 : y < 0
        · rw [if_pos hy0, bind_eta]
          exact X7_refuse neg2 (by decide) h
        · rw [if_neg hy0, if_neg (show ¬ y < 5 from hy.resolve_left hy0), bind_eta]
          exact X7_refuse neg2 (by decide) h
      · unfold f_X8_manner
        dsimp only
        rw [X8_isKey hk, Option.bind_some]
        dsimp only
        have hi : f_X8_isIn M y 0 4 = some (0, M) := X8_isIn' (n := 5) hy (by decide) (by decide)
        rw [if_pos (by decide), hi, Option.bind_some]
        dsimp only
        rw [if_neg (by decide), bind_eta]
        exact X8_no neg2 (by decide) h
  · refine ⟨-1, bump S 1, fun M h => ?_, fun M h => ?_, hw⟩
    · unfold f_X7_manner
      dsimp only
      rw [X7_noKey' hx, Option.bind_some]
      dsimp only
      rw [if_neg (by decide), bind_eta]
      exact X7_refuse neg1 (by decide) h
    · unfold f_X8_manner
      dsimp only
      rw [X8_isKey' hx, Option.bind_some]
      dsimp only
      rw [if_neg (by decide), bind_eta]
      exact X8_no neg1 (by decide) h
/-- an entry that takes the place of what was there, on both sides -/
theorem X7_replace {M : Mem} {S : St} {l k : Nat} {f n o : Int32} {v : Option Ent} (h : ClsI M S) (hw : WFS S) (hl : l < 6) (hk : k < 8) (hv : ∀ M' : Mem, M' (1 + 5) (8 * l + k) = f → M' (1 + 6) (8 * l + k) = n → M' (1 + 7) (8 * l + k) = o → entC M' 1 (8 * l + k) v) :
    ∃ M', f_X7_replace M (nI l) (nI k) f n o = some (if sEn (gS S) (8 * l + k) = none then 0 else 1, M') ∧ ClsI M' (putS S (setEn (gS S) (8 * l + k) v)) ∧ F7 M M' := by
  unfold f_X7_replace
  rw [X7_slotOf, Option.bind_some]
  dsimp only
  rw [rd_nI (by omega) (by decide), Option.bind_some]
  obtain ⟨M', e1, e2, e3⟩ := X4_putE (n := n) h.1 hw.1 (show 8 * l + k < 48 by omega) hv
  have hf := X4_form h.1 hw.1 hl hk
  have hn : hasE (gS S) l k = false ↔ sEn (gS S) (8 * l + k) = none := by unfold hasE; cases sEn (gS S) (8 * l + k) <;> simp
  rw [hn] at hf
  unfold f_X7_replace_26
  by_cases hx : sEn (gS S) (8 * l + k) = none
  · rw [if_neg (fun q => q (hf.mpr hx)), e1, Option.bind_some, if_pos hx]
    exact ⟨M', rfl, h.now e2 (fun i hi => e3 i (by omega)), fun i hi => e3 i (by omega)⟩
  · rw [if_pos (fun q => hx (hf.mp q)), e1, Option.bind_some, if_neg hx]
    exact ⟨M', rfl, h.now e2 (fun i hi => e3 i (by omega)), fun i hi => e3 i (by omega)⟩
theorem X8_replace {M : Mem} {S : St} {l k : Nat} {t n o : Int32} {v : Option Ent} (h : ModI M S) (hw : WFS S) (hl : l < 6) (hk : k < 8) (hv : ∀ r : Nat → Int32, r (30 + 12 * (8 * l + k)) = t → r (31 + 12 * (8 * l + k)) = n → r (32 + 12 * (8 * l + k)) = o → r (33 + 12 * (8 * l + k)) = 0 → entM r (8 * l + k) v) :
    ∃ M', f_X8_tell M (nI l) (nI k) t n o = some (if sEn (gS S) (8 * l + k) = none then 0 else 1, M') ∧ ModI M' (putS S (setEn (gS S) (8 * l + k) v)) ∧ F8 M M' := by
  obtain ⟨M', e1, e2, e3⟩ := X8_tellE h.1 hw.1 hl hk hv
  exact ⟨M', e1, h.now e2 e3, fun i hi => e3 i (by omega)⟩
theorem ni99 {n : Nat} (h : n ≤ 99) : (0 : Int32) ≤ nI n ∧ nI n ≤ 99 := ⟨ge0 (by omega), nI_le (b := 99) h (by decide)⟩
theorem sets_same {S : St} (hw : WFS S) (x y z : Int32) : SAME S (fun M => f_X7_sets M x y z) (fun M => f_X8_sets M x y z) := by
  rcases argL x with ⟨l, hl, rfl⟩ | hx
  · rcases argK y with ⟨k, hk, rfl⟩ | hy
    · rcases argo z 99 (by decide) with ⟨n, hn, rfl⟩ | hz | ⟨hz1, hz2⟩
      · refine ⟨if sEn (gS S) (8 * l + k) = none then 0 else 1, putS S (setEn (gS S) (8 * l + k) (some (0, nI n, 0, []))), fun M h => ?_, fun M h => ?_, hw.now (hw.1.en ⟨by decide, by decide, by decide, (ni99 hn).1, (ni99 hn).2⟩)⟩
        · unfold f_X7_sets
          dsimp only
          rw [X7_noLayer hl, Option.bind_some]
          dsimp only
          have ho : f_X7_outside M (nI n) 99 = some (0, M) := X7_out (n := 99) hn (by decide)
          rw [if_neg (by decide), X7_noKey hk, Option.bind_some]
          dsimp only
          rw [if_pos rfl, ho, Option.bind_some]
          unfold f_X7_sets_24
          rw [if_pos rfl, bind_eta]
          exact X7_replace h hw hl hk (fun M' a b c => ⟨a, by rw [b]; rfl, by rw [c]; rfl, fun q => by cases q⟩)
        · unfold f_X8_sets
          dsimp only
          rw [X8_isLayer hl, Option.bind_some]
          dsimp only
          rw [if_neg (by decide), X8_isKey hk, Option.bind_some]
          dsimp only
          rw [if_pos (by decide), if_pos (ge0 (by omega)), if_pos (show nI n ≤ 99 from nI_le (b := 99) hn (by decide)), bind_eta]
          exact X8_replace h hw hl hk (fun r a b c d => ⟨a, by rw [b]; rfl, fun q => by omega, fun q => by cases q⟩)
      · refine ⟨-4, bump S 4, fun M h => ?_, fun M h => ?_, hw⟩
        · unfold f_X7_sets
          dsimp only
          rw [X7_noLayer hl, Option.bind_some]
          dsimp only
          rw [if_neg (by decide), X7_noKey hk, Option.bind_some]
          dsimp only
          rw [if_pos rfl, X7_outL hz, Option.bind_some]
          unfold f_X7_sets_24
          dsimp only
          rw [if_neg (by decide), bind_eta]
          exact X7_refuse neg4 (by decide) h
        · unfold f_X8_sets
          dsimp only
          rw [X8_isLayer hl, Option.bind_some]
          dsimp only
          rw [if_neg (by decide), X8_isKey hk, Option.bind_some]
          dsimp only
          rw [if_pos (by decide), if_neg (nge0 hz), bind_eta]
          exact X8_no neg4 (by decide) h
      · refine ⟨-6, bump S 6, fun M h => ?_, fun M h => ?_, hw⟩
        · unfold f_X7_sets
          dsimp only
          rw [X7_noLayer hl, Option.bind_some]
          dsimp only
          rw [if_neg (by decide), X7_noKey hk, Option.bind_some]
          dsimp only
          rw [if_pos rfl, X7_outH (y := 99) hz1 hz2, Option.bind_some]
          unfold f_X7_sets_24
          dsimp only
          rw [if_neg (by decide), bind_eta]
          exact X7_refuse neg6 (by decide) h
        · unfold f_X8_sets
          dsimp only
          rw [X8_isLayer hl, Option.bind_some]
          dsimp only
          rw [if_neg (by decide), X8_isKey hk, Option.bind_some]
          dsimp only
          rw [if_pos (by decide), if_pos (ge0' hz1), if_neg (show ¬ z ≤ 99 from hz2), bind_eta]
          exact X8_no neg6 (by decide) h
    · refine ⟨-1, bump S 1, fun M h => ?_, fun M h => ?_, hw⟩
      · unfold f_X7_sets
        dsimp only
        rw [X7_noLayer hl, Option.bind_some]
        dsimp only
        rw [if_neg (by decide), X7_noKey' hy, Option.bind_some]
        dsimp only
        rw [if_neg (by decide)]
        unfold f_X7_sets_14 f_X7_sets_24
        rw [if_neg (by decide), bind_eta]
        exact X7_refuse neg1 (by decide) h
      · unfold f_X8_sets
        dsimp only
        rw [X8_isLayer hl, Option.bind_some]
        dsimp only
        rw [if_neg (by decide), X8_isKey' hy, Option.bind_some]
        dsimp only
        rw [if_neg (by decide), bind_eta]
        exact X8_no neg1 (by decide) h
  · refine ⟨-1, bump S 1, fun M h => ?_, fun M h => ?_, hw⟩
    · unfold f_X7_sets
      dsimp only
      rw [X7_noLayer' hx, Option.bind_some]
      dsimp only
      rw [if_pos (by decide)]
      unfold f_X7_sets_14 f_X7_sets_24
      rw [if_neg (by decide), bind_eta]
      exact X7_refuse neg1 (by decide) h
    · unfold f_X8_sets
      dsimp only
      rw [X8_isLayer' hx, Option.bind_some]
      dsimp only
      rw [if_pos rfl, bind_eta]
      exact X8_no neg1 (by decide) h
