theorem ask7 {M : Mem} {S : St} {k : Nat} (h : ClsI M S) (hw : WFS S) (hk : k < 8) : ∃ M', f_X2_ask M 1 (nI k) = some M' ∧ CF M M' ∧ OUT M' (gS S) k := by
  obtain ⟨M', e1, e2, e3, -⟩ := X2_ask (s := 1) (Or.inl rfl) hw.1 hk h.1
  exact ⟨M', e1, e2.cf, e3⟩
theorem ask8 {M : Mem} {S : St} {k : Nat} (h : ModI M S) (hw : WFS S) (hk : k < 8) : ∃ r M', f_X8_resolves M (nI k) = some (r, M') ∧ MK M M' ∧ MOT M' (gS S) k r := by
  obtain ⟨r, M', e1, e2, e3⟩ := X8_resolves hw.1 hk h.1
  exact ⟨r, M', e1, e2.mk, e3⟩
theorem rd0 {n : Nat} (hn : 0 < n) (h2 : n < 2 ^ 31) (r : Nat → Int32) : rd n r 0 = some (r 0) := rd_nI (i := 0) hn h2
/-- how many offers -/
theorem off_pc (σ : Sc) (k : Nat) : pcN (bitsN (offS σ k)) = (offS σ k).length := by
  have h1 := offS_filt σ k
  have h2 : ((ordS σ).reverse.filter (fun x => decide (x ∈ offS σ k))).length = (offS σ k).length := by rw [h1]
  rw [← List.countP_eq_length_filter] at h2
  have hp : ((ordS σ).reverse).Perm (List.range 6) := (List.reverse_perm _).trans (ordD_perm _ 6)
  rw [hp.countP_eq] at h2
  unfold pcN
  have h8 : List.range 8 = List.range 6 ++ [6, 7] := rfl
  have hno : ∀ j, 6 ≤ j → ¬ j ∈ offS σ k := fun j hj hm => by have := (offS_mem σ k j hm).1; omega
  rw [h8, List.countP_append]
  have e1 : (List.range 6).countP (fun j => (bitsN (offS σ k)).testBit j) = (List.range 6).countP (fun x => decide (x ∈ offS σ k)) := by
    congr 1
    funext j
    exact bitsN_tb _ j
  have e2 : [6, 7].countP (fun j => (bitsN (offS σ k)).testBit j) = 0 := by
    rw [List.countP_eq_zero]
    intro j hj
    rw [bitsN_tb]
    simp only [List.mem_cons, List.not_mem_nil, or_false] at hj
    rcases hj with rfl | rfl
    · simp [hno 6 (by decide)]
    · simp [hno 7 (by decide)]
  rw [e1, e2, h2]; rfl
theorem off_lt8 (σ : Sc) (k : Nat) : ∀ l ∈ offS σ k, l < 8 := fun l hl => by have := (offS_mem σ k l hl).1; omega
def stS : Rs → Int32
  | .inl _ => 2
  | .inr (.inl _, _, _) => 0
  | .inr (.inr _, _, _) => 1
def vlS : Rs → Int32
  | .inl [] => 0
  | .inl (f :: _) => f.1
  | .inr (.inl n, _, _) => n
  | .inr (.inr is, _, _) => nI is.length
theorem RSo_form {M : Mem} {o : Nat} {r : Rs} (h : RSo M o r) : M o 0 = stS r := by
  rcases r with fs | ⟨v | v, s, d⟩
  · exact h.1
  · exact h.1.1
  · exact h.1.1
theorem value_same {S : St} (hw : WFS S) (x y : Int32) : SAME S (fun M => f_X7_value M x y) (fun M => f_X8_value M x y) := by
  rcases argK x with ⟨k, hk, rfl⟩ | hx
  · have hne := askS_good hw.1 hk
    rcases argc y 4 (by decide) with ⟨i, hi, rfl⟩ | hbad
    · have p7 : ∀ M, f_X7_value M (nI k) (nI i) = Option.bind (f_X2_ask M 1 (nI k)) fun z6 => if nI i = 0 then some (z6 34 0, z6) else if nI i = 1 then (if ¬ z6 34 0 = 2 then some (z6 34 1, z6) else Option.bind (rd 9 (z6 38) 0) fun v10 => some (v10, z6)) else if nI i = 2 then some (z6 34 8, z6) else some (z6 34 9, z6) := by
        intro M
        unfold f_X7_value
        rw [X7_noKey hk, Option.bind_some]
        dsimp only
        rw [if_pos rfl, if_neg (nI_pos (by omega)), if_pos (show nI i ≤ 3 from nI_le (b := 3) (by omega) (by decide))]
      have p8 : ∀ M, f_X8_value M (nI k) (nI i) = if ¬ nI i = 2 then (if ¬ nI i = 3 then Option.bind (f_X8_resolves M (nI k)) fun z7 => if ¬ z7.1 = 0 then (if ¬ nI i = 0 then Option.bind (rd 12 (z7.2 171) 0) fun v10 => if ¬ v10 = 1 then (Option.bind (rd 12 (z7.2 172) 0) fun v12 => some (v12, z7.2)) else (Option.bind (rd 12 (z7.2 173) 0) fun v13 => some (v13, z7.2)) else (Option.bind (rd 12 (z7.2 171) 0) fun v14 => some (v14, z7.2))) else (if ¬ nI i = 0 then Option.bind (rd 80 (z7.2 180) 0) fun v16 => some (v16, z7.2) else some (2, z7.2)) else f_X8_offers M (nI k)) else Option.bind (f_X8_offers M (nI k)) fun z18 => f_X8_ones z18.2 z18.1 := by
        intro M
        unfold f_X8_value
        rw [X8_isKey hk, Option.bind_some]
        dsimp only
        rw [if_pos (by decide), show f_X8_isIn M (nI i) 0 3 = some (1, M) from X8_isIn (n := 4) hi (by decide), Option.bind_some]
        dsimp only
        rw [if_pos (by decide)]
        simp only [bind_eta]
      have hi4 : i = 0 ∨ i = 1 ∨ i = 2 ∨ i = 3 := by omega
      rcases hi4 with rfl | rfl | rfl | rfl
      · refine same_look hw (stS (askS (gS S) k).1) (fun M h => ?_) (fun M h => ?_)
        · try dsimp only
          obtain ⟨M', e1, e2, e3, e4, e5⟩ := ask7 h hw hk
          rw [p7, e1, Option.bind_some, if_pos (by decide), RSo_form e3]
          exact ⟨M', rfl, e2⟩
        · try dsimp only
          obtain ⟨r, M', e1, e2, e3, -⟩ := ask8 h hw hk
          rw [p8, if_pos (by decide), if_pos (by decide), e1, Option.bind_some]
          dsimp only
          refine ⟨M', ?_, e2⟩
          rcases hr : (askS (gS S) k).1 with fs | ⟨v | v, s, d⟩
          · rw [hr] at e3
            rw [e3.1, if_neg (by decide), if_neg (by decide)]; rfl
          · rw [hr] at e3
            rw [e3.1, if_pos (by decide), if_neg (by decide), rd0 (by decide) (by decide), Option.bind_some, e3.2.1.1]; rfl
          · rw [hr] at e3
            rw [e3.1, if_pos (by decide), if_neg (by decide), rd0 (by decide) (by decide), Option.bind_some, e3.2.1.1]; rfl
      · refine same_look hw (vlS (askS (gS S) k).1) (fun M h => ?_) (fun M h => ?_)
        · try dsimp only
          obtain ⟨M', e1, e2, e3, e4, e5⟩ := ask7 h hw hk
          rw [p7, e1, Option.bind_some, if_neg (by decide), if_pos (by decide)]
          refine ⟨M', ?_, e2⟩
          rcases hr : (askS (gS S) k).1 with fs | ⟨v | v, s, d⟩
          · rw [hr] at e3 hne
            rw [e3.1, if_neg (by decide), rd0 (by decide) (by decide), Option.bind_some]
            rcases fs with _ | ⟨f, fs⟩
            · exact absurd rfl hne
            · rw [show M' 38 0 = f.1 from (e3.2.2 0 f rfl).1]; rfl
          · rw [hr] at e3
            rw [e3.1.1, if_pos (by decide), e3.1.2]; rfl
          · rw [hr] at e3
            rw [e3.1.1, if_pos (by decide), e3.1.2.1]; rfl
        · try dsimp only
          obtain ⟨r, M', e1, e2, e3, -⟩ := ask8 h hw hk
          rw [p8, if_pos (by decide), if_pos (by decide), e1, Option.bind_some]
          dsimp only
          refine ⟨M', ?_, e2⟩
          rcases hr : (askS (gS S) k).1 with fs | ⟨v | v, s, d⟩
          · rw [hr] at e3 hne
            rw [e3.1, if_neg (by decide), if_pos (by decide), rd0 (by decide) (by decide), Option.bind_some]
            rcases fs with _ | ⟨f, fs⟩
            · exact absurd rfl hne
            · rw [(e3.2.1.2 0 f rfl).1]; rfl
          · rw [hr] at e3
            rw [e3.1, if_pos (by decide), if_pos (by decide), rd0 (by decide) (by decide), Option.bind_some, e3.2.1.1, if_pos (by decide), rd0 (by decide) (by decide), Option.bind_some, e3.2.1.2]; rfl
          · rw [hr] at e3
            rw [e3.1, if_pos (by decide), if_pos (by decide), rd0 (by decide) (by decide), Option.bind_some, e3.2.1.1, if_neg (by decide), rd0 (by decide) (by decide), Option.bind_some, e3.2.1.2.1]; rfl
      · refine same_look hw (nI (offS (gS S) k).length) (fun M h => ?_) (fun M h => ?_)
        · try dsimp only
          obtain ⟨M', e1, e2, e3, e4, e5⟩ := ask7 h hw hk
          rw [p7, e1, Option.bind_some, if_neg (by decide), if_neg (by decide), if_pos (by decide), e4.1]
          exact ⟨M', rfl, e2⟩
        · try dsimp only
          rw [p8, if_neg (by decide), X8_offers hw.1 h.1 hk, Option.bind_some]
          dsimp only
          rw [X8_ones (bitsN_lt _ (off_lt8 _ _)), off_pc]
          exact ⟨M, rfl, MK.rf⟩
      · refine same_look hw (nI (bitsN (offS (gS S) k))) (fun M h => ?_) (fun M h => ?_)
        · try dsimp only
          obtain ⟨M', e1, e2, e3, e4, e5⟩ := ask7 h hw hk
          rw [p7, e1, Option.bind_some, if_neg (by decide), if_neg (by decide), if_neg (by decide), e4.2.2, bitsN_nI _ (off_lt8 _ _)]
          exact ⟨M', rfl, e2⟩
        · try dsimp only
          rw [p8, if_pos (by decide), if_neg (by decide), X8_offers hw.1 h.1 hk]
          exact ⟨M, rfl, MK.rf⟩
    · refine same_no hw (-2) 2 neg2 (by decide) (fun M h => ?_) (fun M h => ?_)
      · unfold f_X7_value
        try dsimp only
        rw [X7_noKey hk, Option.bind_some]
        dsimp only
        rw [if_pos rfl]
        refine ⟨M, ?_, CF.rf⟩
        by_cases hy0 : y < 0
        · rw [if_pos hy0, bind_eta]
        · have : ¬ y ≤ 3 := fun q => by
            obtain ⟨j, hj, rfl⟩ := nI_of hy0
            have := (nI_leI hj (show 3 < 2 ^ 31 by decide)).mp q
            exact (hbad.resolve_left hy0) (nI_lt (by omega) (by decide))
          rw [if_neg hy0, if_neg this, bind_eta]
      · unfold f_X8_value
        try dsimp only
        rw [X8_isKey hk, Option.bind_some]
        dsimp only
        rw [if_pos (by decide), show f_X8_isIn M y 0 3 = some (0, M) from X8_isIn' (n := 4) hbad (by decide) (by decide), Option.bind_some]
        dsimp only
        rw [if_neg (by decide), bind_eta]
        exact ⟨M, rfl, MK.rf⟩
  · refine same_no hw (-1) 1 neg1 (by decide) (fun M h => ?_) (fun M h => ?_)
    · unfold f_X7_value
      try dsimp only
      rw [X7_noKey' hx, Option.bind_some]
      dsimp only
      rw [if_neg (by decide), bind_eta]
      exact ⟨M, rfl, CF.rf⟩
    · unfold f_X8_value
      try dsimp only
      rw [X8_isKey' hx, Option.bind_some]
      dsimp only
      rw [if_neg (by decide), bind_eta]
      exact ⟨M, rfl, MK.rf⟩
/-- a place in a list, or none -/
theorem X8_inL {M : Mem} {i n : Nat} (h : i < n) (hn : n < 2 ^ 31) : f_X8_isIn M (nI i) 0 (nI n - 1) = some (1, M) := by
  rw [nI_pred1 (by omega)]; exact X8_isIn h hn
theorem X8_inL' {M : Mem} {x : Int32} {n : Nat} (h : x < 0 ∨ ¬ x < nI n) (hn : n < 2 ^ 31) : f_X8_isIn M x 0 (nI n - 1) = some (0, M) := by
  by_cases h0 : n = 0
  · subst h0
    unfold f_X8_isIn
    by_cases hx : x < 0
    · rw [if_pos hx]; rfl
    · have hm : nI 0 - 1 < x := Int32.lt_of_lt_of_le (show nI 0 - 1 < 0 by decide) (ge0' hx)
      rw [if_neg hx, if_pos hm]; rfl
  · rw [nI_pred1 (by omega)]; exact X8_isIn' h (by omega) hn
theorem item_same {S : St} (hw : WFS S) (x i w : Int32) : SAME S (fun M => f_X7_item M x i w) (fun M => f_X8_item M x i w) := by
  rcases argK x with ⟨k, hk, rfl⟩ | hx
  · have p7 : ∀ M, f_X7_item M (nI k) i w = Option.bind (f_X2_ask M 1 (nI k)) fun z3 => if ¬ z3 34 0 = 1 then f_X7_refuse z3 (-1) else if i < 0 then f_X7_refuse z3 (-1) else if i < z3 34 1 then (if w = 0 then Option.bind (rd 10 (z3 35) i) fun v10 => some (v10, z3) else if w = 1 then Option.bind (rd 10 (z3 36) i) fun v12 => some (v12, z3) else if w = 2 then Option.bind (rd 10 (z3 37) i) fun v14 => some (v14, z3) else f_X7_refuse z3 (-2)) else f_X7_refuse z3 (-1) := by
      intro M
      unfold f_X7_item
      rw [X7_noKey hk, Option.bind_some]
      dsimp only
      rw [if_pos rfl]
      simp only [bind_eta]
    have p8 : ∀ M, f_X8_item M (nI k) i w = Option.bind (f_X8_resolves M (nI k)) fun z4 => if z4.1 = 0 then f_X8_no z4.2 (-1) else Option.bind (rd 12 (z4.2 171) 0) fun v7 => if ¬ v7 = 1 then f_X8_no z4.2 (-1) else Option.bind (rd 12 (z4.2 173) 0) fun v10 => Option.bind (f_X8_isIn z4.2 i 0 (v10 - 1)) fun z11 => if ¬ z11.1 = 0 then (if ¬ w = 0 then (if ¬ w = 1 then (if ¬ w = 2 then f_X8_no z11.2 (-2) else Option.bind (rd 120 (z11.2 178) i) fun v17 => some (v17, z11.2)) else Option.bind (rd 120 (z11.2 177) i) fun v18 => some (v18, z11.2)) else Option.bind (rd 120 (z11.2 176) i) fun v19 => some (v19, z11.2)) else f_X8_no z11.2 (-1) := by
      intro M
      unfold f_X8_item
      rw [X8_isKey hk, Option.bind_some]
      dsimp only
      rw [if_neg (by decide)]
      simp only [bind_eta]
    have nolist : stS (askS (gS S) k).1 ≠ 1 → SAME S (fun M => f_X7_item M (nI k) i w) (fun M => f_X8_item M (nI k) i w) := by
      intro hst
      refine same_no hw (-1) 1 neg1 (by decide) (fun M h => ?_) (fun M h => ?_)
      · try dsimp only
        obtain ⟨M', e1, e2, e3, e4, e5⟩ := ask7 h hw hk
        rw [p7, e1, Option.bind_some, RSo_form e3, if_pos hst]
        exact ⟨M', rfl, e2⟩
      · try dsimp only
        obtain ⟨r, M', e1, e2, e3, -⟩ := ask8 h hw hk
        rw [p8, e1, Option.bind_some]
        dsimp only
        refine ⟨M', ?_, e2⟩
        rcases hr : (askS (gS S) k).1 with fs | ⟨v | v, s, d⟩
        · rw [hr] at e3
          rw [e3.1, if_pos rfl]
        · rw [hr] at e3
          rw [e3.1, if_neg (by decide), rd0 (by decide) (by decide), Option.bind_some, e3.2.1.1, if_pos (by decide)]
        · rw [hr] at hst; exact absurd rfl hst
    rcases hr : (askS (gS S) k).1 with fs | ⟨v | is, s, d⟩
    · exact nolist (by rw [hr]; exact show (2 : Int32) ≠ 1 by decide)
    · exact nolist (by rw [hr]; exact show (0 : Int32) ≠ 1 by decide)
    · have c7 : ∀ M, ClsI M S → ∃ M', CF M M' ∧ f_X7_item M (nI k) i w = (if i < 0 then f_X7_refuse M' (-1) else if i < nI is.length then (if w = 0 then Option.bind (rd 10 (M' 35) i) fun v10 => some (v10, M') else if w = 1 then Option.bind (rd 10 (M' 36) i) fun v12 => some (v12, M') else if w = 2 then Option.bind (rd 10 (M' 37) i) fun v14 => some (v14, M') else f_X7_refuse M' (-2)) else f_X7_refuse M' (-1)) ∧ IR M' 34 is := by
        intro M h
        obtain ⟨M', e1, e2, e3, e4, e5⟩ := ask7 h hw hk
        rw [hr] at e3
        refine ⟨M', e2, ?_, e3.1.2.2.2⟩
        rw [p7, e1, Option.bind_some, e3.1.1, if_neg (by decide), e3.1.2.1]
      have c8 : ∀ M, ModI M S → ∃ M', MK M M' ∧ is.length ≤ 10 ∧ (f_X8_item M (nI k) i w = Option.bind (f_X8_isIn M' i 0 (nI is.length - 1)) fun z11 => if ¬ z11.1 = 0 then (if ¬ w = 0 then (if ¬ w = 1 then (if ¬ w = 2 then f_X8_no z11.2 (-2) else Option.bind (rd 120 (z11.2 178) i) fun v17 => some (v17, z11.2)) else Option.bind (rd 120 (z11.2 177) i) fun v18 => some (v18, z11.2)) else Option.bind (rd 120 (z11.2 176) i) fun v19 => some (v19, z11.2)) else f_X8_no z11.2 (-1)) ∧ MIs M' 0 is := by
        intro M h
        obtain ⟨r, M', e1, e2, e3, -⟩ := ask8 h hw hk
        rw [hr] at e3
        refine ⟨M', e2, e3.2.1.2.2.1, ?_, e3.2.1.2.2.2⟩
        rw [p8, e1, Option.bind_some]
        dsimp only
        rw [e3.1, if_neg (by decide), rd0 (by decide) (by decide), Option.bind_some, e3.2.1.1, if_neg (by decide), rd0 (by decide) (by decide), Option.bind_some, e3.2.1.2.1]
      by_cases hlen : is.length ≤ 10
      · rcases argc i is.length (by omega) with ⟨j, hj, rfl⟩ | hbad
        · obtain ⟨z, hz⟩ : ∃ z, is[j]? = some z := ⟨_, List.getElem?_eq_getElem hj⟩
          have d7 : ∀ M, ClsI M S → ∃ M', CF M M' ∧ f_X7_item M (nI k) (nI j) w = (if w = 0 then some (z.1, M') else if w = 1 then some (z.2.1, M') else if w = 2 then some (z.2.2, M') else f_X7_refuse M' (-2)) := by
            intro M h
            obtain ⟨M', e1, e2, e3⟩ := c7 M h
            obtain ⟨g1, g2, g3⟩ := e3 j z hz
            refine ⟨M', e1, ?_⟩
            rw [e2, if_neg (nI_pos (by omega)), if_pos (nI_lt hj (by omega)), rd_nI (by omega) (by decide), rd_nI (by omega) (by decide), rd_nI (by omega) (by decide), Option.bind_some, Option.bind_some, Option.bind_some, show M' 35 j = z.1 from g1, show M' 36 j = z.2.1 from g2, show M' 37 j = z.2.2 from g3]
          have d8 : ∀ M, ModI M S → ∃ M', MK M M' ∧ f_X8_item M (nI k) (nI j) w = (if w = 0 then some (z.1, M') else if w = 1 then some (z.2.1, M') else if w = 2 then some (z.2.2, M') else f_X8_no M' (-2)) := by
            intro M h
            obtain ⟨M', e1, -, e2, e3⟩ := c8 M h
            obtain ⟨g1, g2, g3⟩ := e3 j z hz
            simp only [Nat.mul_zero, Nat.zero_add] at g1 g2 g3
            refine ⟨M', e1, ?_⟩
            rw [e2, X8_inL hj (by omega), Option.bind_some]
            dsimp only
            rw [if_pos (by decide), rd_nI (by omega) (by decide), rd_nI (by omega) (by decide), rd_nI (by omega) (by decide), Option.bind_some, Option.bind_some, Option.bind_some, g1, g2, g3]
            by_cases w0 : w = 0
            · rw [if_neg (fun q => q w0), if_pos w0]
            · rw [if_pos w0, if_neg w0]
              by_cases w1 : w = 1
              · rw [if_neg (fun q => q w1), if_pos w1]
              · rw [if_pos w1, if_neg w1]
                by_cases w2 : w = 2
                · rw [if_neg (fun q => q w2), if_pos w2]
                · rw [if_pos w2, if_neg w2]
          by_cases w0 : w = 0
          · refine same_look hw z.1 (fun M h => ?_) (fun M h => ?_)
            · obtain ⟨M', e1, e2⟩ := d7 M h
              try dsimp only
              rw [e2, if_pos w0]; exact ⟨M', rfl, e1⟩
            · obtain ⟨M', e1, e2⟩ := d8 M h
              try dsimp only
              rw [e2, if_pos w0]; exact ⟨M', rfl, e1⟩
          · by_cases w1 : w = 1
            · refine same_look hw z.2.1 (fun M h => ?_) (fun M h => ?_)
              · obtain ⟨M', e1, e2⟩ := d7 M h
                try dsimp only
                rw [e2, if_neg w0, if_pos w1]; exact ⟨M', rfl, e1⟩
              · obtain ⟨M', e1, e2⟩ := d8 M h
                try dsimp only
                rw [e2, if_neg w0, if_pos w1]; exact ⟨M', rfl, e1⟩
            · by_cases w2 : w = 2
              · refine same_look hw z.2.2 (fun M h => ?_) (fun M h => ?_)
                · obtain ⟨M', e1, e2⟩ := d7 M h
                  try dsimp only
                  rw [e2, if_neg w0, if_neg w1, if_pos w2]; exact ⟨M', rfl, e1⟩
                · obtain ⟨M', e1, e2⟩ := d8 M h
                  try dsimp only
                  rw [e2, if_neg w0, if_neg w1, if_pos w2]; exact ⟨M', rfl, e1⟩
              · refine same_no hw (-2) 2 neg2 (by decide) (fun M h => ?_) (fun M h => ?_)
                · obtain ⟨M', e1, e2⟩ := d7 M h
                  try dsimp only
                  rw [e2, if_neg w0, if_neg w1, if_neg w2]; exact ⟨M', rfl, e1⟩
                · obtain ⟨M', e1, e2⟩ := d8 M h
                  try dsimp only
                  rw [e2, if_neg w0, if_neg w1, if_neg w2]; exact ⟨M', rfl, e1⟩
        · refine same_no hw (-1) 1 neg1 (by decide) (fun M h => ?_) (fun M h => ?_)
          · obtain ⟨M', e1, e2, e3⟩ := c7 M h
            try dsimp only
            rw [e2]
            refine ⟨M', ?_, e1⟩
            by_cases h0 : i < 0
            · rw [if_pos h0]
            · rw [if_neg h0, if_neg (hbad.resolve_left h0)]
          · obtain ⟨M', e1, -, e2, e3⟩ := c8 M h
            try dsimp only
            rw [e2, X8_inL' hbad (by omega), Option.bind_some]
            dsimp only
            rw [if_neg (by decide)]
            exact ⟨M', rfl, e1⟩
      · refine same_no hw (-1) 1 neg1 (by decide) (fun M h => ?_) (fun M h => ?_)
        · obtain ⟨M', e1, e2, e3, e4, e5⟩ := ask7 h hw hk
          rw [hr] at e3
          exact absurd e3.1.2.2.1 hlen
        · obtain ⟨M', e1, e0, e2, e3⟩ := c8 M h
          exact absurd e0 hlen
  · refine same_no hw (-1) 1 neg1 (by decide) (fun M h => ?_) (fun M h => ?_)
    · unfold f_X7_item
      try dsimp only
      rw [X7_noKey' hx, Option.bind_some]
      dsimp only
      rw [if_neg (by decide), bind_eta]
      exact ⟨M, rfl, CF.rf⟩
    · unfold f_X8_item
      try dsimp only
      rw [X8_isKey' hx, Option.bind_some]
      dsimp only
      rw [if_pos rfl, bind_eta]
      exact ⟨M, rfl, MK.rf⟩
