def fndS (its : List (Int32 × Int32)) (x : Int32) : Bool := its.any (fun y => decide (y.1 = x))
theorem X4_hasItem {M : Mem} {s e : Nat} {num x : Int32} {o : Nat} {its : List (Int32 × Int32)} (he : e < 48) (hE : entC M s e (some (1, num, o, its))) (hl : its.length ≤ 4) : f_X4_hasItem M s (nI e) x = some (if fndS its x = true then 1 else 0, M) := by
  obtain ⟨n1, n2, n3, n4⟩ := hE
  rw [if_pos rfl] at n2
  have key : ∀ (rest : List (Int32 × Int32)) (i fuel : Nat), rest.length < fuel → its.drop i = rest → i + rest.length = its.length → f_X4_hasItem_2 fuel M s (nI e) x (nI i) = some (if fndS rest x = true then 1 else 0, M) := by
    intro rest
    induction rest with
    | nil =>
      intro i fuel hf hd hi
      obtain ⟨fu, rfl⟩ : ∃ fu, fuel = fu + 1 := ⟨fuel - 1, by simp at hf; omega⟩
      simp at hi
      rw [f_X4_hasItem_2, rd_nI he (by decide), Option.bind_some, n2, hi, if_pos (Int32.le_refl _)]
      rfl
    | cons y rest ih =>
      intro i fuel hf hd hi
      obtain ⟨fu, rfl⟩ : ∃ fu, fuel = fu + 1 := ⟨fuel - 1, by simp at hf; omega⟩
      simp only [List.length_cons] at hf hi
      have hget : its[i]? = some y := by
        have : (its.drop i)[0]? = some y := by rw [hd]; rfl
        rw [List.getElem?_drop] at this
        simpa using this
      rw [f_X4_hasItem_2, rd_nI he (by decide), Option.bind_some, n2, if_neg (nI_ge (by omega) (by omega)), show (4 : Int32) = nI 4 from rfl, nI_mul, nI_add, rd_nI (by omega) (by decide), Option.bind_some, Nat.mul_comm, (n4 rfl i y hget).1]
      have hfs : fndS (y :: rest) x = (decide (y.1 = x) || fndS rest x) := rfl
      by_cases hy : y.1 = x
      · rw [if_neg (fun q => q hy), hfs, if_pos (by simp [hy])]; rfl
      · rw [if_pos hy, nI_1, ih (i + 1) fu (by omega) (by rw [← List.drop_drop, hd]; rfl) (by omega), hfs]
        simp [hy]
  unfold f_X4_hasItem
  exact key its 0 1000 (by omega) rfl (by omega)
theorem X8_find {M : Mem} {l k o : Nat} {num x : Int32} {its : List (Int32 × Int32)} (hl6 : l < 6) (hk : k < 8) (hE : entM (M 164) (8 * l + k) (some (1, num, o, its))) (hl : its.length ≤ 4) : ∃ i : Int32, f_X8_find M (nI l) (nI k) x = some (i, M) ∧ (i = -9 ↔ fndS its x = false) := by
  obtain ⟨n1, n2, n3, n4⟩ := hE
  obtain ⟨n5, n6⟩ := n4 rfl
  have a3 : nI (30 + 12 * (8 * l + k)) + 3 = nI (33 + 12 * (8 * l + k)) := by rw [show (3 : Int32) = nI 3 from rfl, nI_add]; congr 1; omega
  have key : ∀ (rest : List (Int32 × Int32)) (i fuel : Nat), rest.length < fuel → its.drop i = rest → i + rest.length = its.length → ∃ r : Int32, f_X8_find_10 fuel M x (nI (30 + 12 * (8 * l + k))) (nI i) = some (r, M) ∧ (r = -9 ↔ fndS rest x = false) := by
    intro rest
    induction rest with
    | nil =>
      intro i fuel hf hd hi
      obtain ⟨fu, rfl⟩ : ∃ fu, fuel = fu + 1 := ⟨fuel - 1, by simp at hf; omega⟩
      simp at hi
      rw [f_X8_find_10, a3, rd_nI (by omega) (by decide), Option.bind_some, n5, hi, if_pos (Int32.le_refl _)]
      exact ⟨-9, rfl, fun _ => rfl, fun _ => rfl⟩
    | cons y rest ih =>
      intro i fuel hf hd hi
      obtain ⟨fu, rfl⟩ : ∃ fu, fuel = fu + 1 := ⟨fuel - 1, by simp at hf; omega⟩
      simp only [List.length_cons] at hf hi
      have hget : its[i]? = some y := by
        have : (its.drop i)[0]? = some y := by rw [hd]; rfl
        rw [List.getElem?_drop] at this
        simpa using this
      have a4 : nI (30 + 12 * (8 * l + k)) + 4 + 2 * nI i = nI (34 + 12 * (8 * l + k) + 2 * i) := by
        rw [show (4 : Int32) = nI 4 from rfl, nI_add, two_at]; congr 1; omega
      rw [f_X8_find_10, a3, rd_nI (by omega) (by decide), Option.bind_some, n5, if_neg (nI_ge (by omega) (by omega)), a4, rd_nI (by omega) (by decide), Option.bind_some, (n6 i y hget).1]
      have hfs : fndS (y :: rest) x = (decide (y.1 = x) || fndS rest x) := rfl
      by_cases hy : y.1 = x
      · rw [if_neg (fun q => q hy), hfs]
        have t : ∀ i, i < 5 → nI i ≠ -9 := by decide +kernel
        exact ⟨nI i, rfl, fun q => absurd q (t i (by omega)), fun q => by simp [hy] at q⟩
      · rw [if_pos hy, nI_1]
        obtain ⟨r, e1, e2⟩ := ih (i + 1) fu (by omega) (by rw [← List.drop_drop, hd]; rfl) (by omega)
        exact ⟨r, e1, by rw [e2, hfs]; simp [hy]⟩
  unfold f_X8_find
  rw [X8_entryAt, Option.bind_some]
  exact key its 0 1000 (by omega) rfl (by omega)
theorem full_t : ∀ n, n ≤ 4 → (nI n < 4 ↔ n < 4) ∧ (nI n = 4 ↔ n = 4) := by decide +kernel
theorem adds_same {S : St} (hw : WFS S) (x y i n : Int32) : SAME S (fun M => f_X7_adds M x y i n) (fun M => f_X8_adds M x y i n) := by
  rcases argL x with ⟨l, hl, rfl⟩ | hx
  · rcases argK y with ⟨k, hk, rfl⟩ | hy
    · have he48 : 8 * l + k < 48 := by omega
      have pre7 : ∀ M, f_X7_adds M (nI l) (nI k) i n = Option.bind (rd 48 (M 6) (nI (8 * l + k))) fun v7 => if v7 = -1 then f_X7_adds_71 M i n (nI (8 * l + k)) v7 else if ¬ v7 = 1 then f_X7_refuse M (-3) else Option.bind (f_X4_hasItem M 1 (nI (8 * l + k)) i) fun z11 => if z11.1 = 0 then f_X7_adds_71 z11.2 i n (nI (8 * l + k)) v7 else f_X7_refuse z11.2 (-3) := by
        intro M
        unfold f_X7_adds
        rw [X7_noLayer hl, Option.bind_some]
        dsimp only
        rw [if_neg (by decide), X7_noKey hk, Option.bind_some]
        dsimp only
        rw [if_pos rfl, X7_slotOf, Option.bind_some]
        simp only [bind_eta]
      have pre8 : ∀ M, f_X8_adds M (nI l) (nI k) i n = Option.bind (f_X8_has M (nI l) (nI k)) fun z7 => if z7.1 = 0 then f_X8_adds_68 z7.2 (nI l) (nI k) i n (nI (30 + 12 * (8 * l + k))) else Option.bind (rd 640 (z7.2 164) (nI (30 + 12 * (8 * l + k)) + 0)) fun v9 => if ¬ v9 = 1 then f_X8_no z7.2 (-3) else Option.bind (f_X8_find z7.2 (nI l) (nI k) i) fun z12 => if z12.1 = -9 then f_X8_adds_68 z12.2 (nI l) (nI k) i n (nI (30 + 12 * (8 * l + k))) else f_X8_no z12.2 (-3) := by
        intro M
        unfold f_X8_adds
        rw [X8_isLayer hl, Option.bind_some]
        dsimp only
        rw [if_neg (by decide), X8_isKey hk, Option.bind_some]
        dsimp only
        rw [if_pos (by decide), X8_entryAt, Option.bind_some]
        simp only [bind_eta]
      -- the last checks, and the entry that stands after them
      have tail : ∀ (v : Option Ent) (lf : Int32) (its : List (Int32 × Int32)) (o : Nat) (num : Int32), (v = none ∧ lf = -1 ∧ its = [] ∧ o = 0 ∧ num = 0 ∨ v = some (1, num, o, its) ∧ lf = 1) → sEn (gS S) (8 * l + k) = v → its.length ≤ 4 →
          SAME S (fun M => f_X7_adds_71 M i n (nI (8 * l + k)) lf) (fun M => f_X8_adds_68 M (nI l) (nI k) i n (nI (30 + 12 * (8 * l + k)))) := by
        intro v lf its o num hv hent hlen
        by_cases i0 : i < 0
        · refine ⟨-4, bump S 4, fun M h => ?_, fun M h => ?_, hw⟩
          · unfold f_X7_adds_71
            dsimp only
            rw [if_pos i0, bind_eta]
            exact X7_refuse neg4 (by decide) h
          · unfold f_X8_adds_68
            dsimp only
            rw [if_pos i0, bind_eta]
            exact X8_no neg4 (by decide) h
        · by_cases n0 : 0 ≤ n
          · have form71 : ∀ M, ClsI M S → f_X7_adds_71 M i n (nI (8 * l + k)) lf = f_X7_adds_112 M i n (nI (8 * l + k)) lf (if its.length < 4 then 0 else 1) := by
              intro M h
              unfold f_X7_adds_71 f_X7_adds_111
              rw [if_neg i0, if_pos n0]
              rcases hv with ⟨-, rfl, rfl, -, -⟩ | ⟨rfl, rfl⟩
              · rw [if_pos (by decide), if_pos (by decide)]
              · have hE := h.1.2.2.2.2 _ he48
                rw [hent] at hE
                rw [if_neg (by decide), rd_nI he48 (by decide), Option.bind_some, show M 7 (8 * l + k) = nI its.length from hE.2.1]
                simp only [(full_t _ hlen).1]
                by_cases h4 : its.length < 4
                · rw [if_pos h4, if_pos h4]
                · rw [if_neg h4, if_neg h4]
            have form68 : ∀ M, ModI M S → f_X8_adds_68 M (nI l) (nI k) i n (nI (30 + 12 * (8 * l + k))) = if 9 < i then f_X8_no M (-6) else if 99 < n then f_X8_no M (-6) else if its.length < 4 then f_X8_adds_126 M (nI l) (nI k) i n (nI (30 + 12 * (8 * l + k))) else f_X8_no M (-6) := by
              intro M h
              have a3 : nI (30 + 12 * (8 * l + k)) + 3 = nI (33 + 12 * (8 * l + k)) := by rw [show (3 : Int32) = nI 3 from rfl, nI_add]; congr 1; omega
              unfold f_X8_adds_68
              rw [if_neg i0, if_pos n0, X8_has hw.1 h.1 hl hk, Option.bind_some]
              dsimp only
              simp only [bind_eta]
              by_cases b1 : 9 < i
              · rw [if_pos b1, if_pos b1]
              rw [if_neg b1, if_neg b1]
              by_cases b2 : 99 < n
              · rw [if_pos b2, if_pos b2]
              rw [if_neg b2, if_neg b2]
              rcases hv with ⟨rfl, -, rfl, -, -⟩ | ⟨rfl, -⟩
              · have hh : hasE (gS S) l k = false := by unfold hasE; rw [hent]; rfl
                rw [hh, if_pos (by decide), if_pos (show ([] : List (Int32 × Int32)).length < 4 by decide)]
              · have hh : hasE (gS S) l k = true := by unfold hasE; rw [hent]; rfl
                have hE := h.1.2.2 _ he48
                rw [hent] at hE
                rw [hh, if_pos rfl, if_neg (by decide), a3, rd_nI (by omega) (by decide), Option.bind_some, (hE.2.2.2 rfl).1]
                simp only [(full_t _ hlen).2]
                by_cases h4 : its.length < 4
                · rw [if_pos h4, if_pos (show ¬ its.length = 4 by omega)]
                · rw [if_neg h4, if_neg (fun q => q (show its.length = 4 by omega))]
            have big : (9 < i ∨ 99 < n ∨ ¬ its.length < 4) → SAME S (fun M => f_X7_adds_71 M i n (nI (8 * l + k)) lf) (fun M => f_X8_adds_68 M (nI l) (nI k) i n (nI (30 + 12 * (8 * l + k)))) := by
              intro hb
              refine ⟨-6, bump S 6, fun M h => ?_, fun M h => ?_, hw⟩
              · dsimp only
                rw [form71 M h]
                unfold f_X7_adds_112
                simp only [bind_eta]
                by_cases b1 : 9 < i
                · rw [if_pos b1]; exact X7_refuse neg6 (by decide) h
                · rw [if_neg b1]
                  by_cases b2 : 99 < n
                  · rw [if_pos b2]; exact X7_refuse neg6 (by decide) h
                  · rw [if_neg b2, if_neg ((hb.resolve_left b1).resolve_left b2), if_neg (by decide)]; exact X7_refuse neg6 (by decide) h
              · dsimp only
                rw [form68 M h]
                by_cases b1 : 9 < i
                · rw [if_pos b1]; exact X8_no neg6 (by decide) h
                · rw [if_neg b1]
                  by_cases b2 : 99 < n
                  · rw [if_pos b2]; exact X8_no neg6 (by decide) h
                  · rw [if_neg b2, if_neg ((hb.resolve_left b1).resolve_left b2)]; exact X8_no neg6 (by decide) h
            by_cases b1 : 9 < i
            · exact big (Or.inl b1)
            · by_cases b2 : 99 < n
              · exact big (Or.inr (Or.inl b2))
              · by_cases b3 : its.length < 4
                · have g7 : ∀ M, ClsI M S → f_X7_adds_71 M i n (nI (8 * l + k)) lf = if ¬ lf = -1 then f_X4_addItem M 1 (nI (8 * l + k)) i n else Option.bind (f_X4_put M 1 (nI (8 * l + k)) 1 0 (-9)) fun z7 => f_X4_addItem z7 1 (nI (8 * l + k)) i n := by
                    intro M h
                    rw [form71 M h, if_pos b3]
                    unfold f_X7_adds_112 f_X7_adds_158
                    rw [if_neg b1, if_neg b2, if_pos rfl]
                    simp only [bind_eta]
                  have g8 : ∀ M, ModI M S → f_X8_adds_68 M (nI l) (nI k) i n (nI (30 + 12 * (8 * l + k))) = f_X8_adds_126 M (nI l) (nI k) i n (nI (30 + 12 * (8 * l + k))) := by
                    intro M h
                    rw [form68 M h, if_neg b1, if_neg b2, if_pos b3]
                  have a3 : nI (30 + 12 * (8 * l + k)) + 3 = nI (33 + 12 * (8 * l + k)) := by rw [show (3 : Int32) = nI 3 from rfl, nI_add]; congr 1; omega
                  rcases hv with ⟨rfl, rfl, rfl, rfl, rfl⟩ | ⟨rfl, rfl⟩
                  · have hw1 : WFs (setEn (gS S) (8 * l + k) (some (1, 0, 0, []))) := hw.1.en ⟨by decide, by decide, by decide, by decide, by decide⟩
                    have hs1 : sEn (setEn (gS S) (8 * l + k) (some (1, 0, 0, []))) (8 * l + k) = some (1, 0, 0, []) := by show fup _ _ _ _ = _; unfold fup; simp
                    refine ⟨nI 1, putS S (setEn (setEn (gS S) (8 * l + k) (some (1, 0, 0, []))) (8 * l + k) (some (1, 0, 0, [] ++ [(i, n)]))), fun M h => ?_, fun M h => ?_, hw.now (hw1.en ⟨by decide, by decide, by simp, by decide, by decide⟩)⟩
                    · dsimp only
                      obtain ⟨M1, e1, e2, e3⟩ := X4_putE (f := 1) (n := 0) (o := -9) (v := some (1, 0, 0, [])) h.1 hw.1 he48 (fun M' a b c => ⟨a, by rw [b]; rfl, by rw [c]; rfl, fun _ j z hz => by simp at hz⟩)
                      obtain ⟨M2, f1, f2, f3⟩ := X4_addItem (a := i) (b := n) e2 hw1 he48 hs1 (by decide)
                      rw [g7 M h, if_neg (by decide), e1, Option.bind_some]
                      exact ⟨M2, f1, h.now f2 (fun j hj => by rw [f3 j (by omega), e3 j (by omega)]), fun j hj => by rw [f3 j (by omega), e3 j (by omega)]⟩
                    · dsimp only
                      rw [g8 M h]
                      have hh : hasE (gS S) l k = false := by unfold hasE; rw [hent]; rfl
                      unfold f_X8_adds_126
                      rw [X8_has hw.1 h.1 hl hk, hh, if_neg (by decide), Option.bind_some]
                      dsimp only
                      rw [if_neg (by decide)]
                      obtain ⟨M1, e1, e2, e3⟩ := X8_tellE (t := 1) (n := 0) (o := 0) (v := some (1, 0, 0, [])) h.1 hw.1 hl hk (fun r a b c d => ⟨a, by rw [b]; rfl, fun q => by omega, fun _ => ⟨d, fun j z hz => by simp at hz⟩⟩)
                      rw [e1, Option.bind_some]
                      unfold f_X8_adds_145
                      obtain ⟨M2, f1, f2, f3, f4⟩ := X8_puts (a := i) (b := n) e2 hw1 hl hk hs1 (by decide)
                      rw [f1, Option.bind_some, a3, rd_nI (by omega) (by decide), Option.bind_some, f3]
                      exact ⟨M2, rfl, h.now f2 (fun j hj => by rw [f4 j hj, e3 j hj]), fun j hj => by rw [f4 j (by omega), e3 j (by omega)]⟩
                  · obtain ⟨w1, w2, w3, w4, w5⟩ := hw.1.2.2 _ _ _ _ _ hent
                    refine ⟨nI (its.length + 1), putS S (setEn (gS S) (8 * l + k) (some (1, num, o, its ++ [(i, n)]))), fun M h => ?_, fun M h => ?_, hw.now (hw.1.en ⟨w1, w2, by simp; omega, w4, w5⟩)⟩
                    · dsimp only
                      obtain ⟨M2, f1, f2, f3⟩ := X4_addItem (a := i) (b := n) h.1 hw.1 he48 hent b3
                      rw [g7 M h, if_pos (by decide)]
                      exact ⟨M2, f1, h.now f2 (fun j hj => f3 j (by omega)), fun j hj => f3 j (by omega)⟩
                    · dsimp only
                      rw [g8 M h]
                      have hh : hasE (gS S) l k = true := by unfold hasE; rw [hent]; rfl
                      unfold f_X8_adds_126
                      rw [X8_has hw.1 h.1 hl hk, hh, if_pos rfl, Option.bind_some]
                      dsimp only
                      rw [if_pos (by decide)]
                      unfold f_X8_adds_145
                      obtain ⟨M2, f1, f2, f3, f4⟩ := X8_puts (a := i) (b := n) h.1 hw.1 hl hk hent b3
                      rw [f1, Option.bind_some, a3, rd_nI (by omega) (by decide), Option.bind_some, f3]
                      exact ⟨M2, rfl, h.now f2 f4, fun j hj => f4 j (by omega)⟩
                · exact big (Or.inr (Or.inr b3))
          · refine ⟨-4, bump S 4, fun M h => ?_, fun M h => ?_, hw⟩
            · unfold f_X7_adds_71
              dsimp only
              rw [if_neg i0, if_neg n0, bind_eta]
              exact X7_refuse neg4 (by decide) h
            · unfold f_X8_adds_68
              dsimp only
              rw [if_neg i0, if_neg n0, bind_eta]
              exact X8_no neg4 (by decide) h
      rcases hent : sEn (gS S) (8 * l + k) with _ | ⟨f, num, o, its⟩
      · obtain ⟨a, S', r7, r8, w⟩ := tail none (-1) [] 0 0 (Or.inl ⟨rfl, rfl, rfl, rfl, rfl⟩) hent (by decide)
        refine ⟨a, S', fun M h => ?_, fun M h => ?_, w⟩
        · have hE := h.1.2.2.2.2 _ he48
          rw [hent] at hE
          dsimp only
          rw [pre7, rd_nI he48 (by decide), Option.bind_some, show M 6 (8 * l + k) = -1 from hE, if_pos rfl]
          exact r7 M h
        · have hh : hasE (gS S) l k = false := by unfold hasE; rw [hent]; rfl
          dsimp only
          rw [pre8, X8_has hw.1 h.1 hl hk, hh, if_neg (by decide), Option.bind_some]
          dsimp only
          rw [if_pos rfl]
          exact r8 M h
      · obtain ⟨w1, w2, w3, w4, w5⟩ := hw.1.2.2 _ _ _ _ _ hent
        have hh : hasE (gS S) l k = true := by unfold hasE; rw [hent]; rfl
        have s7 : ∀ M, ClsI M S → f_X7_adds M (nI l) (nI k) i n = if ¬ f = 1 then f_X7_refuse M (-3) else Option.bind (f_X4_hasItem M 1 (nI (8 * l + k)) i) fun z11 => if z11.1 = 0 then f_X7_adds_71 z11.2 i n (nI (8 * l + k)) 1 else f_X7_refuse z11.2 (-3) := by
          intro M h
          have hE := h.1.2.2.2.2 _ he48
          rw [hent] at hE
          rw [pre7, rd_nI he48 (by decide), Option.bind_some, show M 6 (8 * l + k) = nI f from hE.1, if_neg (m1_ne f w1)]
          simp only [(form_t f w1).2.2.1]
          by_cases f1 : f = 1
          · subst f1; rfl
          · rw [if_pos f1, if_pos f1]
        have s8 : ∀ M, ModI M S → f_X8_adds M (nI l) (nI k) i n = if ¬ f = 1 then f_X8_no M (-3) else Option.bind (f_X8_find M (nI l) (nI k) i) fun z12 => if z12.1 = -9 then f_X8_adds_68 z12.2 (nI l) (nI k) i n (nI (30 + 12 * (8 * l + k))) else f_X8_no z12.2 (-3) := by
          intro M h
          have hE := h.1.2.2 _ he48
          rw [hent] at hE
          rw [pre8, X8_has hw.1 h.1 hl hk, hh, if_pos rfl, Option.bind_some]
          dsimp only
          rw [if_neg (by decide), Int32.add_zero, rd_nI (by omega) (by decide), Option.bind_some, hE.1]
          simp only [(form_t f w1).2.2.1]
        by_cases f1 : f = 1
        · subst f1
          by_cases hf : fndS its i = true
          · refine ⟨-3, bump S 3, fun M h => ?_, fun M h => ?_, hw⟩
            · have hE := h.1.2.2.2.2 _ he48
              rw [hent] at hE
              dsimp only
              rw [s7 M h, if_neg (by decide), X4_hasItem he48 hE w3, Option.bind_some, if_pos hf]
              dsimp only
              rw [if_neg (by decide)]
              exact X7_refuse neg3 (by decide) h
            · have hE := h.1.2.2 _ he48
              rw [hent] at hE
              dsimp only
              obtain ⟨r, e1, e2⟩ := X8_find (x := i) hl hk hE w3
              rw [s8 M h, if_neg (by decide), e1, Option.bind_some]
              dsimp only
              rw [if_neg (fun q => by rw [e2.mp q] at hf; cases hf)]
              exact X8_no neg3 (by decide) h
          · obtain ⟨a, S', r7, r8, w⟩ := tail _ 1 its o num (Or.inr ⟨rfl, rfl⟩) hent w3
            refine ⟨a, S', fun M h => ?_, fun M h => ?_, w⟩
            · have hE := h.1.2.2.2.2 _ he48
              rw [hent] at hE
              dsimp only
              rw [s7 M h, if_neg (by decide), X4_hasItem he48 hE w3, Option.bind_some, if_neg hf]
              dsimp only
              rw [if_pos rfl]
              exact r7 M h
            · have hE := h.1.2.2 _ he48
              rw [hent] at hE
              dsimp only
              obtain ⟨r, e1, e2⟩ := X8_find (x := i) hl hk hE w3
              rw [s8 M h, if_neg (by decide), e1, Option.bind_some]
              dsimp only
              rw [if_pos (e2.mpr (by simpa using hf))]
              exact r8 M h
        · refine ⟨-3, bump S 3, fun M h => ?_, fun M h => ?_, hw⟩
          · dsimp only
            rw [s7 M h, if_pos f1]
            exact X7_refuse neg3 (by decide) h
          · dsimp only
            rw [s8 M h, if_pos f1]
            exact X8_no neg3 (by decide) h
    · refine ⟨-1, bump S 1, fun M h => ?_, fun M h => ?_, hw⟩
      · unfold f_X7_adds
        dsimp only
        rw [X7_noLayer hl, Option.bind_some]
        dsimp only
        rw [if_neg (by decide), X7_noKey' hy, Option.bind_some]
        dsimp only
        rw [if_neg (by decide), bind_eta]
        exact X7_refuse neg1 (by decide) h
      · unfold f_X8_adds
        dsimp only
        rw [X8_isLayer hl, Option.bind_some]
        dsimp only
        rw [if_neg (by decide), X8_isKey' hy, Option.bind_some]
        dsimp only
        rw [if_neg (by decide), bind_eta]
        exact X8_no neg1 (by decide) h
  · refine ⟨-1, bump S 1, fun M h => ?_, fun M h => ?_, hw⟩
    · unfold f_X7_adds
      dsimp only
      rw [X7_noLayer' hx, Option.bind_some]
      dsimp only
      rw [if_pos (by decide), bind_eta]
      exact X7_refuse neg1 (by decide) h
    · unfold f_X8_adds
      dsimp only
      rw [X8_isLayer' hx, Option.bind_some]
      dsimp only
      rw [if_pos rfl, bind_eta]
      exact X8_no neg1 (by decide) h
