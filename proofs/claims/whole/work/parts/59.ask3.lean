def LRs (p : List Nat) : Rs → Prop
  | .inl fs => fs.length + p.length ≤ 9
  | .inr _ => True
theorem mkS_len {rs : Nat → List Nat → CU → Rs × CU} {σ : Sc} {l k : Nat} {p : List Nat} {cu : CU} (hw : WFs σ) (hp : p.length ≤ 8) (hrs : ∀ o cu, o < 8 → LRs (p ++ [k]) (rs o (p ++ [k]) cu).1) :
    match (mkS rs σ l k p cu).1 with
    | .inl fs => fs.length + p.length ≤ 9
    | .inr _ => True := by
  unfold mkS
  rcases hent : sEn σ (8 * l + k) with _ | ⟨f, n, ot, its⟩
  · simp; omega
  · have hr := hrs ot cu (hw.2.2 _ _ _ _ _ hent).2.1
    dsimp only
    by_cases f2 : f = 2
    · rw [if_pos f2]
      rcases hx : rs ot (p ++ [k]) cu with ⟨fs | ⟨v | v, sr, d⟩, cu'⟩
      · rw [hx] at hr
        have : fs.length + (p ++ [k]).length ≤ 9 := hr
        simp at this ⊢; omega
      · trivial
      · trivial
    · rw [if_neg f2]
      by_cases f3 : f = 3
      · rw [if_pos f3]
        rcases hx : rs ot (p ++ [k]) cu with ⟨fs | ⟨v | v, sr, d⟩, cu'⟩
        · rw [hx] at hr
          have : fs.length + (p ++ [k]).length ≤ 9 := hr
          simp at this ⊢; omega
        · dsimp only
          by_cases hle : v + n ≤ 999
          · rw [if_pos hle]; trivial
          · rw [if_neg hle]; simp; omega
        · simp; omega
      · rw [if_neg f3]
        by_cases f1 : f = 1
        · rw [if_pos f1]; trivial
        · rw [if_neg f1]; trivial
theorem tkS_len {m l k : Nat} {acc : Option Acc} {v : Vl} {d : Int32} {fs : Flt} (h : tkS m l k acc v d = .inl fs) : fs.length = 1 := by
  unfold tkS at h
  (repeat' split at h) <;> (cases h <;> rfl)
theorem fldS_len {rs : Nat → List Nat → CU → Rs × CU} {σ : Sc} {k m : Nat} {p : List Nat} (hw : WFs σ) (hp : p.length ≤ 8) (hrs : ∀ o cu, o < 8 → LRs (p ++ [k]) (rs o (p ++ [k]) cu).1) :
    ∀ (ls : List Nat) (acc : Option Acc) (cu : CU), LRs p (fldS rs σ k p m ls acc cu).1 := by
  intro ls
  induction ls with
  | nil =>
    intro acc cu
    rcases acc with _ | a
    · show 0 + p.length ≤ 9; omega
    · trivial
  | cons l ls ih =>
    intro acc cu
    have hm := mkS_len (l := l) (cu := cu) hw hp hrs
    simp only [fldS]
    rcases hx : mkS rs σ l k p cu with ⟨fs | ⟨v, d⟩, cu'⟩
    · rw [hx] at hm; exact hm
    · dsimp only
      rcases hy : tkS m l k acc v d with fs | a
      · have := tkS_len hy
        show fs.length + p.length ≤ 9
        omega
      · exact ih (some a) cu'
theorem resS_len {σ : Sc} (hw : WFs σ) : ∀ (n : Nat) (p : List Nat), n + p.length = 12 → (∀ x ∈ p, x < 8) → p.Nodup → ∀ (k : Nat) (cu : CU), k < 8 → LRs p (resS σ n k p cu).1 := by
  intro n
  induction n with
  | zero =>
    intro p hn hp8 hnd k cu hk
    have : p.length ≤ 8 := nodup_le8 hp8 hnd
    omega
  | succ n ih =>
    intro p hn hp8 hnd k cu hk
    have hp : p.length ≤ 8 := nodup_le8 hp8 hnd
    have h1 : ∀ (c : Int32), LRs p (.inl [(c, k)]) := fun c => by show 1 + p.length ≤ 9; omega
    simp only [resS]
    split
    · exact h1 6
    · split
      · exact h1 2
      · rename_i hin
        split
        · exact h1 1
        · exact fldS_len hw hp (fun o cu2 ho => ih (p ++ [k]) (by simp; omega) (fun x hx => by
            rcases List.mem_append.mp hx with h | h
            · exact hp8 x h
            · rw [List.mem_singleton.mp h]; exact hk) (nodup_snoc hnd hin) o cu2 ho) _ none _
theorem askS_len {σ : Sc} (hw : WFs σ) {k : Nat} (hk : k < 8) {fs : Flt} (h : (askS σ k).1 = .inl fs) : fs.length ≤ 9 := by
  have := resS_len hw 12 [] rfl (fun x hx => by simp at hx) List.nodup_nil k (0, 0) hk
  have h2 : (resS σ 12 k [] (0, 0)).1 = .inl fs := h
  rw [h2] at this
  simpa [LRs] using this
theorem fault_same {S : St} (hw : WFS S) (x i w : Int32) : SAME S (fun M => f_X7_fault M x i w) (fun M => f_X8_fault M x i w) := by
  rcases argK x with ⟨k, hk, rfl⟩ | hx
  · have p7 : ∀ M, f_X7_fault M (nI k) i w = Option.bind (f_X2_ask M 1 (nI k)) fun z3 => if ¬ z3 34 0 = 2 then f_X7_refuse z3 (-1) else if i < 0 then f_X7_refuse z3 (-1) else if i < z3 34 5 then (if w = 0 then Option.bind (rd 9 (z3 38) i) fun v10 => some (v10, z3) else if w = 1 then Option.bind (rd 9 (z3 39) i) fun v12 => some (v12, z3) else f_X7_refuse z3 (-2)) else f_X7_refuse z3 (-1) := by
      intro M
      unfold f_X7_fault
      rw [X7_noKey hk, Option.bind_some]
      dsimp only
      rw [if_pos rfl]
      simp only [bind_eta]
    have p8 : ∀ M, f_X8_fault M (nI k) i w = Option.bind (f_X8_resolves M (nI k)) fun z4 => if ¬ z4.1 = 0 then f_X8_no z4.2 (-1) else Option.bind (f_X8_isIn z4.2 i 0 (z4.2 163 24 - 1)) fun z7 => if ¬ z7.1 = 0 then (if ¬ w = 0 then (if ¬ w = 1 then f_X8_no z7.2 (-2) else Option.bind (rd 80 (z7.2 181) i) fun v12 => some (v12, z7.2)) else Option.bind (rd 80 (z7.2 180) i) fun v13 => some (v13, z7.2)) else f_X8_no z7.2 (-1) := by
      intro M
      unfold f_X8_fault
      rw [X8_isKey hk, Option.bind_some]
      dsimp only
      rw [if_neg (by decide)]
      simp only [bind_eta]
    have nof : stS (askS (gS S) k).1 ≠ 2 → SAME S (fun M => f_X7_fault M (nI k) i w) (fun M => f_X8_fault M (nI k) i w) := by
      intro hst
      refine same_no hw (-1) 1 neg1 (by decide) (fun M h => ?_) (fun M h => ?_)
      · try dsimp only
        obtain ⟨M', e1, e2, e3, e4, e5⟩ := ask7 h hw hk
        rw [p7, e1, Option.bind_some, RSo_form e3, if_pos hst]
        exact ⟨M', rfl, e2⟩
      · try dsimp only
        obtain ⟨r, M', e1, e2, e3, -⟩ := ask8 h hw hk
        rw [p8, e1, Option.bind_some]
        dsimp only
        refine ⟨M', ?_, e2⟩
        rcases hr : (askS (gS S) k).1 with fs | ⟨v, s, d⟩
        · rw [hr] at hst; exact absurd rfl hst
        · rw [hr] at e3
          rw [e3.1, if_pos (by decide)]
    rcases hr : (askS (gS S) k).1 with fs | ⟨v | v, s, d⟩
    · have hlen := askS_len hw.1 hk hr
      have c7 : ∀ M, ClsI M S → ∃ M', CF M M' ∧ f_X7_fault M (nI k) i w = (if i < 0 then f_X7_refuse M' (-1) else if i < nI fs.length then (if w = 0 then Option.bind (rd 9 (M' 38) i) fun v10 => some (v10, M') else if w = 1 then Option.bind (rd 9 (M' 39) i) fun v12 => some (v12, M') else f_X7_refuse M' (-2)) else f_X7_refuse M' (-1)) ∧ FLo M' 34 fs := by
        intro M h
        obtain ⟨M', e1, e2, e3, e4, e5⟩ := ask7 h hw hk
        rw [hr] at e3
        refine ⟨M', e2, ?_, e3⟩
        rw [p7, e1, Option.bind_some, e3.1, if_neg (by decide), e3.2.1]
      have c8 : ∀ M, ModI M S → ∃ M', MK M M' ∧ (f_X8_fault M (nI k) i w = Option.bind (f_X8_isIn M' i 0 (nI fs.length - 1)) fun z7 => if ¬ z7.1 = 0 then (if ¬ w = 0 then (if ¬ w = 1 then f_X8_no z7.2 (-2) else Option.bind (rd 80 (z7.2 181) i) fun v12 => some (v12, z7.2)) else Option.bind (rd 80 (z7.2 180) i) fun v13 => some (v13, z7.2)) else f_X8_no z7.2 (-1)) ∧ FLm M' fs := by
        intro M h
        obtain ⟨r, M', e1, e2, e3, -⟩ := ask8 h hw hk
        rw [hr] at e3
        refine ⟨M', e2, ?_, e3.2.1⟩
        rw [p8, e1, Option.bind_some]
        dsimp only
        rw [e3.1, if_neg (by decide), e3.2.1.1]
      rcases argc i fs.length (by omega) with ⟨j, hj, rfl⟩ | hbad
      · obtain ⟨z, hz⟩ : ∃ z, fs[j]? = some z := ⟨_, List.getElem?_eq_getElem hj⟩
        have d7 : ∀ M, ClsI M S → ∃ M', CF M M' ∧ f_X7_fault M (nI k) (nI j) w = (if w = 0 then some (z.1, M') else if w = 1 then some (nI z.2, M') else f_X7_refuse M' (-2)) := by
          intro M h
          obtain ⟨M', e1, e2, e3⟩ := c7 M h
          obtain ⟨g1, g2⟩ := e3.2.2 j z hz
          refine ⟨M', e1, ?_⟩
          rw [e2, if_neg (nI_pos (by omega)), if_pos (nI_lt hj (by omega)), rd_nI (by omega) (by decide), rd_nI (by omega) (by decide), Option.bind_some, Option.bind_some, show M' 38 j = z.1 from g1, show M' 39 j = nI z.2 from g2]
        have d8 : ∀ M, ModI M S → ∃ M', MK M M' ∧ f_X8_fault M (nI k) (nI j) w = (if w = 0 then some (z.1, M') else if w = 1 then some (nI z.2, M') else f_X8_no M' (-2)) := by
          intro M h
          obtain ⟨M', e1, e2, e3⟩ := c8 M h
          obtain ⟨g1, g2⟩ := e3.2 j z hz
          refine ⟨M', e1, ?_⟩
          rw [e2, X8_inL hj (by omega), Option.bind_some]
          dsimp only
          rw [if_pos (by decide), rd_nI (by omega) (by decide), rd_nI (by omega) (by decide), Option.bind_some, Option.bind_some, g1, g2]
          by_cases w0 : w = 0
          · rw [if_neg (fun q => q w0), if_pos w0]
          · rw [if_pos w0, if_neg w0]
            by_cases w1 : w = 1
            · rw [if_neg (fun q => q w1), if_pos w1]
            · rw [if_pos w1, if_neg w1]
        by_cases w0 : w = 0
        · refine same_look hw z.1 (fun M h => ?_) (fun M h => ?_)
          · obtain ⟨M', e1, e2⟩ := d7 M h
            try dsimp only
            rw [e2, if_pos w0]; exact ⟨M', rfl, e1⟩
          · obtain ⟨M', e1, e2⟩ := d8 M h
            try dsimp only
            rw [e2, if_pos w0]; exact ⟨M', rfl, e1⟩
        · by_cases w1 : w = 1
          · refine same_look hw (nI z.2) (fun M h => ?_) (fun M h => ?_)
            · obtain ⟨M', e1, e2⟩ := d7 M h
              try dsimp only
              rw [e2, if_neg w0, if_pos w1]; exact ⟨M', rfl, e1⟩
            · obtain ⟨M', e1, e2⟩ := d8 M h
              try dsimp only
              rw [e2, if_neg w0, if_pos w1]; exact ⟨M', rfl, e1⟩
          · refine same_no hw (-2) 2 neg2 (by decide) (fun M h => ?_) (fun M h => ?_)
            · obtain ⟨M', e1, e2⟩ := d7 M h
              try dsimp only
              rw [e2, if_neg w0, if_neg w1]; exact ⟨M', rfl, e1⟩
            · obtain ⟨M', e1, e2⟩ := d8 M h
              try dsimp only
              rw [e2, if_neg w0, if_neg w1]; exact ⟨M', rfl, e1⟩
      · refine same_no hw (-1) 1 neg1 (by decide) (fun M h => ?_) (fun M h => ?_)
        · obtain ⟨M', e1, e2, e3⟩ := c7 M h
          try dsimp only
          rw [e2]
          refine ⟨M', ?_, e1⟩
          by_cases h0 : i < 0
          · rw [if_pos h0]
          · rw [if_neg h0, if_neg (hbad.resolve_left h0)]
        · obtain ⟨M', e1, e2, e3⟩ := c8 M h
          try dsimp only
          rw [e2, X8_inL' hbad (by omega), Option.bind_some]
          dsimp only
          rw [if_neg (by decide)]
          exact ⟨M', rfl, e1⟩
    · exact nof (by rw [hr]; exact show (0 : Int32) ≠ 2 by decide)
    · exact nof (by rw [hr]; exact show (1 : Int32) ≠ 2 by decide)
  · refine same_no hw (-1) 1 neg1 (by decide) (fun M h => ?_) (fun M h => ?_)
    · unfold f_X7_fault
      try dsimp only
      rw [X7_noKey' hx, Option.bind_some]
      dsimp only
      rw [if_neg (by decide), bind_eta]
      exact ⟨M, rfl, CF.rf⟩
    · unfold f_X8_fault
      try dsimp only
      rw [X8_isKey' hx, Option.bind_some]
      dsimp only
      rw [if_pos rfl, bind_eta]
      exact ⟨M, rfl, MK.rf⟩
theorem sources_same {S : St} (hw : WFS S) (x w : Int32) : SAME S (fun M => f_X7_sources M x w) (fun M => f_X8_sources M x w) := by
  rcases argK x with ⟨k, hk, rfl⟩ | hx
  · have p7 : ∀ M, f_X7_sources M (nI k) w = Option.bind (f_X2_ask M 1 (nI k)) fun z3 => if ¬ z3 34 0 = 2 then (if w = 0 then some (z3 34 11, z3) else if w = 1 then some (z3 34 12, z3) else f_X7_refuse z3 (-2)) else f_X7_refuse z3 (-3) := by
      intro M
      unfold f_X7_sources
      rw [X7_noKey hk, Option.bind_some]
      dsimp only
      rw [if_pos rfl]
      simp only [bind_eta]
    have p8 : ∀ M, f_X8_sources M (nI k) w = Option.bind (f_X8_resolves M (nI k)) fun z3 => if ¬ z3.1 = 0 then (if ¬ w = 0 then (if ¬ w = 1 then f_X8_no z3.2 (-2) else Option.bind (rd 12 (z3.2 175) 0) fun v8 => some (v8, z3.2)) else Option.bind (rd 12 (z3.2 174) 0) fun v9 => some (v9, z3.2)) else f_X8_no z3.2 (-3) := by
      intro M
      unfold f_X8_sources
      rw [X8_isKey hk, Option.bind_some]
      dsimp only
      rw [if_pos (by decide)]
      simp only [bind_eta]
    rcases hr : (askS (gS S) k).1 with fs | ⟨v, s, d⟩
    · refine same_no hw (-3) 3 neg3 (by decide) (fun M h => ?_) (fun M h => ?_)
      · try dsimp only
        obtain ⟨M', e1, e2, e3, e4, e5⟩ := ask7 h hw hk
        rw [hr] at e3
        rw [p7, e1, Option.bind_some, e3.1, if_neg (by decide)]
        exact ⟨M', rfl, e2⟩
      · try dsimp only
        obtain ⟨r, M', e1, e2, e3, -⟩ := ask8 h hw hk
        rw [hr] at e3
        rw [p8, e1, Option.bind_some]
        dsimp only
        rw [e3.1, if_neg (by decide)]
        exact ⟨M', rfl, e2⟩
    · have c7 : ∀ M, ClsI M S → ∃ M', CF M M' ∧ f_X7_sources M (nI k) w = if w = 0 then some (s, M') else if w = 1 then some (d, M') else f_X7_refuse M' (-2) := by
        intro M h
        obtain ⟨M', e1, e2, e3, e4, e5⟩ := ask7 h hw hk
        rw [hr] at e3
        refine ⟨M', e2, ?_⟩
        have hf : M' 34 0 ≠ 2 := by
          rcases v with n | is
          · rw [e3.1.1]; decide
          · rw [e3.1.1]; decide
        rw [p7, e1, Option.bind_some, if_pos hf, e3.2.1, e3.2.2]
      have c8 : ∀ M, ModI M S → ∃ M', MK M M' ∧ f_X8_sources M (nI k) w = if w = 0 then some (s, M') else if w = 1 then some (d, M') else f_X8_no M' (-2) := by
        intro M h
        obtain ⟨r, M', e1, e2, e3, -⟩ := ask8 h hw hk
        rw [hr] at e3
        refine ⟨M', e2, ?_⟩
        rw [p8, e1, Option.bind_some]
        dsimp only
        rw [e3.1, if_pos (by decide), rd0 (by decide) (by decide), rd0 (by decide) (by decide), Option.bind_some, Option.bind_some, e3.2.2.1, e3.2.2.2]
        by_cases w0 : w = 0
        · rw [if_neg (fun q => q w0), if_pos w0]
        · rw [if_pos w0, if_neg w0]
          by_cases w1 : w = 1
          · rw [if_neg (fun q => q w1), if_pos w1]
          · rw [if_pos w1, if_neg w1]
      by_cases w0 : w = 0
      · refine same_look hw s (fun M h => ?_) (fun M h => ?_)
        · obtain ⟨M', e1, e2⟩ := c7 M h
          try dsimp only
          rw [e2, if_pos w0]; exact ⟨M', rfl, e1⟩
        · obtain ⟨M', e1, e2⟩ := c8 M h
          try dsimp only
          rw [e2, if_pos w0]; exact ⟨M', rfl, e1⟩
      · by_cases w1 : w = 1
        · refine same_look hw d (fun M h => ?_) (fun M h => ?_)
          · obtain ⟨M', e1, e2⟩ := c7 M h
            try dsimp only
            rw [e2, if_neg w0, if_pos w1]; exact ⟨M', rfl, e1⟩
          · obtain ⟨M', e1, e2⟩ := c8 M h
            try dsimp only
            rw [e2, if_neg w0, if_pos w1]; exact ⟨M', rfl, e1⟩
        · refine same_no hw (-2) 2 neg2 (by decide) (fun M h => ?_) (fun M h => ?_)
          · obtain ⟨M', e1, e2⟩ := c7 M h
            try dsimp only
            rw [e2, if_neg w0, if_neg w1]; exact ⟨M', rfl, e1⟩
          · obtain ⟨M', e1, e2⟩ := c8 M h
            try dsimp only
            rw [e2, if_neg w0, if_neg w1]; exact ⟨M', rfl, e1⟩
  · refine same_no hw (-1) 1 neg1 (by decide) (fun M h => ?_) (fun M h => ?_)
    · unfold f_X7_sources
      try dsimp only
      rw [X7_noKey' hx, Option.bind_some]
      dsimp only
      rw [if_neg (by decide), bind_eta]
      exact ⟨M, rfl, CF.rf⟩
    · unfold f_X8_sources
      try dsimp only
      rw [X8_isKey' hx, Option.bind_some]
      dsimp only
      rw [if_neg (by decide), bind_eta]
      exact ⟨M, rfl, MK.rf⟩
