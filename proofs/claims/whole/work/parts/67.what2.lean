theorem X8_whatIs_57 {S : St} {l w : Nat} {M0 : Mem} (hw : WFS S) (hl : l < 6) (hw2 : w < 2) (h0 : ModI M0 S) : ∀ (m i : Nat) (M : Mem) (fuel : Nat), i + m = nW w → m < fuel → MT M0 M → (∀ a, a ≠ 3 * l + 1 + w → M 164 a = M0 164 a) →
    ∃ M', f_X8_whatIs_57 fuel M (nI w) (nI (3 * l + 1 + w)) (M0 164 (3 * l + 1 + w)) (mskI (wiS (gS S) (gR S) l w) i) (nI i) = some (mskI (wiS (gS S) (gR S) l w) (nW w), M') ∧ MT M0 M' ∧ M' 164 = M0 164 := by
  have hn10 : nW w ≤ 10 := by unfold nW; split <;> omega
  intro m
  induction m with
  | zero =>
    intro i M fuel him hf hmt hM
    obtain ⟨fu, rfl⟩ : ∃ fu, fuel = fu + 1 := ⟨fuel - 1, by omega⟩
    simp at him
    have fin : ∃ M', Option.bind (wra 640 M 164 (nI (3 * l + 1 + w)) (M0 164 (3 * l + 1 + w))) (fun M2 => some (mskI (wiS (gS S) (gR S) l w) i, M2)) = some (mskI (wiS (gS S) (gR S) l w) (nW w), M') ∧ MT M0 M' ∧ M' 164 = M0 164 := by
      rw [wra_nI (by omega) (by decide), Option.bind_some, him]
      refine ⟨_, rfl, hmt.tr (MT.one (Or.inl rfl) (fun a ha => wr_ne ha)), ?_⟩
      funext a
      rw [wr_ap]
      by_cases ha : a = 3 * l + 1 + w
      · simp [ha]
      · simp [ha]; exact hM a ha
    rw [f_X8_whatIs_57]
    unfold f_X8_whatIs_70
    have hwl : w = 0 ∨ w = 1 := by omega
    rcases hwl with rfl | rfl
    · rw [if_neg (by decide), if_pos (show (6 : Int32) ≤ nI i from nI_le (a := 6) (by unfold nW at him; simp at him; omega) (by omega))]
      exact fin
    · rw [if_pos (by decide), if_pos (show (10 : Int32) ≤ nI i from nI_le (a := 10) (by unfold nW at him; simp at him; omega) (by omega))]
      exact fin
  | succ m ih =>
    intro i M fuel him hf hmt hM
    obtain ⟨fu, rfl⟩ : ∃ fu, fuel = fu + 1 := ⟨fuel - 1, by omega⟩
    have hwk := kiS_wf (l := l) (w := w) (i := i) hw.1 (by omega)
    have step : ∃ M', Option.bind (wra 640 M 164 (nI (3 * l + 1 + w)) (nI i)) (fun M3 => Option.bind (f_X8_wrongInRow M3) fun z4 => if ¬ z4.1 = (-9) then f_X8_whatIs_57 fu z4.2 (nI w) (nI (3 * l + 1 + w)) (M0 164 (3 * l + 1 + w)) (mskI (wiS (gS S) (gR S) l w) i ||| 0) (nI i + 1) else Option.bind (some (mskI (wiS (gS S) (gR S) l w) i ||| (1 <<< (nI i &&& 31)))) fun v6 => f_X8_whatIs_57 fu z4.2 (nI w) (nI (3 * l + 1 + w)) (M0 164 (3 * l + 1 + w)) v6 (nI i + 1)) = some (mskI (wiS (gS S) (gR S) l w) (nW w), M') ∧ MT M0 M' ∧ M' 164 = M0 164 := by
      rw [wra_nI (by omega) (by decide), Option.bind_some]
      generalize hA : wr M 164 (3 * l + 1 + w) (nI i) = A
      have hAm : MT M0 A := hmt.tr (by rw [← hA]; exact MT.one (Or.inl rfl) (fun a ha => wr_ne ha))
      have hA4 : ∀ a, a ≠ 3 * l + 1 + w → A 164 a = M0 164 a := fun a ha => by rw [← hA, wr_ap, if_neg (by omega)]; exact hM a ha
      have hAi : A 164 (3 * l + 1 + w) = nI i := by rw [← hA, wr_ap, if_pos ⟨rfl, rfl⟩]
      have hs : SMr (A 164) (kiS (gS S) l w i) := by
        unfold kiS
        have hwl : w = 0 ∨ w = 1 := by omega
        rcases hwl with rfl | rfl
        · rw [if_pos rfl]
          exact SMr.kf h0.1 hl hAi (by rw [hA4 _ (by omega)]; exact (h0.1.1 l hl).2.2) (fun j a b => hA4 j (by omega))
        · rw [if_neg (by decide)]
          exact SMr.kf h0.1 hl (by rw [hA4 _ (by omega)]; exact (h0.1.1 l hl).2.1) (by rw [show 3 * l + 2 = 3 * l + 1 + 1 by omega]; exact hAi) (fun j a b => hA4 j (by omega))
      have hrow : LsI (A 163 8) (A 170) (gR S) := by rw [hAm.2.2.1, hAm.1 170 (by omega)]; exact h0.2.2.1
      obtain ⟨M2, b1, b2⟩ := X8_wrongInRow hwk hw.2.2.1 hw.2.2.2.1 hs hrow
      rw [b1, Option.bind_some]
      dsimp only
      rw [nI_1, Int32.or_zero]
      obtain ⟨M', f1, f2, f3⟩ := ih (i + 1) M2 fu (by omega) (by omega) (hAm.tr b2.mk.mt) (fun a ha => by rw [b2.1 164 (by omega)]; exact hA4 a ha)
      simp only [mskI] at f1
      refine ⟨M', ?_, f2, f3⟩
      by_cases hv : fstS (kiS (gS S) l w i) (gR S) 0 = -9
      · rw [if_neg (fun q => q hv), Option.bind_some]
        rw [if_pos (show wiS (gS S) (gR S) l w i = true by unfold wiS; simp [hv])] at f1
        exact f1
      · rw [if_pos hv]
        rw [if_neg (show ¬ wiS (gS S) (gR S) l w i = true by unfold wiS; simp [hv])] at f1
        exact f1
    rw [f_X8_whatIs_57]
    unfold f_X8_whatIs_70
    have hwl : w = 0 ∨ w = 1 := by omega
    rcases hwl with rfl | rfl
    · rw [if_neg (by decide), if_neg (show ¬ (6 : Int32) ≤ nI i from nI_ge (b := 6) (by unfold nW at him; simp at him; omega) (by decide))]
      exact step
    · rw [if_pos (by decide), if_neg (show ¬ (10 : Int32) ≤ nI i from nI_ge (b := 10) (by unfold nW at him; simp at him; omega) (by decide))]
      exact step
theorem whatIs_same {S : St} (hw : WFS S) (x y : Int32) : SAME S (fun M => f_X7_whatIs M x y) (fun M => f_X8_whatIs M x y) := by
  rcases argL x with ⟨l, hl, rfl⟩ | hx
  · rcases argc y 2 (by decide) with ⟨w, hw2, rfl⟩ | hbad
    · refine same_try hw (mskI (wiS (gS S) (gR S) l w) (nW w)) (fun M h => ?_) (fun M h => ?_)
      · unfold f_X7_whatIs
        rw [X7_noLayer hl, Option.bind_some]
        dsimp only
        rw [if_pos rfl, if_neg (nI_pos (by omega)), if_pos (show nI w ≤ 1 from nI_le (b := 1) (by omega) (by decide))]
        unfold f_X7_whatIs_42
        obtain ⟨M2, e1, e2, e3⟩ := beco7 h hw
        rw [e1, Option.bind_some, Option.bind_some]
        obtain ⟨M', f1, f2⟩ := X7_whatIs_58 (w := w) hw hl hw2 (nW w) 0 M2 1000 (gS S) (by omega) (by unfold nW; split <;> omega) (h.cf e3) e2 hw.1 (fun _ _ => rfl)
        refine ⟨M', ?_, e3.tr f2⟩
        have hwl : w = 0 ∨ w = 1 := by omega
        rcases hwl with rfl | rfl
        · rw [if_neg (by decide)]; exact f1
        · rw [if_pos (by decide)]; exact f1
      · unfold f_X8_whatIs
        rw [X8_isLayer hl, Option.bind_some]
        dsimp only
        rw [if_pos (by decide), show f_X8_isIn M (nI w) 0 1 = some (1, M) from X8_isIn (n := 2) hw2 (by decide), Option.bind_some]
        dsimp only
        rw [if_pos (by decide)]
        unfold f_X8_whatIs_41
        obtain ⟨M', f1, f2, f3⟩ := X8_whatIs_57 (w := w) hw hl hw2 h (nW w) 0 M 1000 (by omega) (by unfold nW; split <;> omega) MT.rf (fun _ _ => rfl)
        refine ⟨M', ?_, f2, by rw [f3]; exact h.1⟩
        have hwl : w = 0 ∨ w = 1 := by omega
        rcases hwl with rfl | rfl
        · rw [if_neg (by decide), m_a1, rd_nI (by omega) (by decide), Option.bind_some]; exact f1
        · rw [if_pos (by decide), m_a2, rd_nI (by omega) (by decide), Option.bind_some]; exact f1
    · refine same_no hw (-2) 2 neg2 (by decide) (fun M h => ?_) (fun M h => ?_)
      · unfold f_X7_whatIs
        rw [X7_noLayer hl, Option.bind_some]
        dsimp only
        refine ⟨M, ?_, CF.rf⟩
        rw [if_pos rfl, bind_eta]
        by_cases h0 : y < 0
        · rw [if_pos h0]
        · have : ¬ y ≤ 1 := fun q => by
            obtain ⟨j, hj, rfl⟩ := nI_of h0
            have := (nI_leI hj (show 1 < 2 ^ 31 by decide)).mp q
            exact (hbad.resolve_left h0) (nI_lt (by omega) (by decide))
          rw [if_neg h0, if_neg this]
      · unfold f_X8_whatIs
        rw [X8_isLayer hl, Option.bind_some]
        dsimp only
        rw [if_pos (by decide), show f_X8_isIn M y 0 1 = some (0, M) from X8_isIn' (n := 2) hbad (by decide) (by decide), Option.bind_some]
        dsimp only
        rw [if_neg (by decide), bind_eta]
        exact ⟨M, rfl, MK.rf⟩
  · refine same_no hw (-1) 1 neg1 (by decide) (fun M h => ?_) (fun M h => ?_)
    · unfold f_X7_whatIs
      rw [X7_noLayer' hx, Option.bind_some]
      dsimp only
      rw [if_neg (by decide), bind_eta]
      exact ⟨M, rfl, CF.rf⟩
    · unfold f_X8_whatIs
      rw [X8_isLayer' hx, Option.bind_some]
      dsimp only
      rw [if_neg (by decide), bind_eta]
      exact ⟨M, rfl, MK.rf⟩
