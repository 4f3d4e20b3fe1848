def lastIs (fs : Flt) (k : Nat) : Bool := match fs.getLast? with
  | some f => decide (f.1 = 2) && decide (nI f.2 = nI k)
  | none => false
def isSoS (r : Rs) (k w : Nat) : Bool := if w = 0 then (match r with
  | .inl fs => lastIs fs k
  | .inr _ => false) else if w = 1 then (match r with
  | .inl _ => false
  | .inr _ => true) else (match r with
  | .inr (.inl _, _, _) => true
  | _ => false)
theorem last_at {fs : Flt} (h : fs ≠ []) : ∃ f, fs[fs.length - 1]? = some f ∧ fs.getLast? = some f := by
  rcases hg : fs.getLast? with _ | f
  · exact absurd (List.getLast?_eq_none_iff.mp hg) h
  · rw [List.getLast?_eq_getElem?] at hg
    exact ⟨f, hg, rfl⟩
theorem w3_t : ∀ w, w < 3 → (nI w = 0 ↔ w = 0) ∧ (nI w = 1 ↔ w = 1) := by decide +kernel
theorem X7_isAmong {M : Mem} {σ : Sc} {k w : Nat} (hw : WFs σ) (hk : k < 8) (hw3 : w < 3) (h : RSo M 34 (askS σ k).1) : f_X7_isAmong M 34 (nI k) (nI w) = some (if isSoS (askS σ k).1 k w = true then 1 else 0, M) := by
  have hgood := askS_good hw hk
  unfold f_X7_isAmong isSoS
  simp only [(w3_t w hw3).1, (w3_t w hw3).2]
  by_cases w0 : w = 0
  · rw [if_pos w0]
    unfold f_X1_isInCycle
    rcases hr : (askS σ k).1 with fs | ⟨v, s, d⟩
    · rw [hr] at h hgood
      have hlen := askS_len hw hk hr
      have h0 : 0 < fs.length := by rcases fs with _ | ⟨a, as⟩; exact absurd rfl hgood; simp
      obtain ⟨f, hf1, hf2⟩ := last_at hgood
      obtain ⟨g1, g2⟩ := h.2.2 _ f hf1
      rw [h.1, if_neg (by decide), h.2.1, nI_pred1 h0, if_neg (nI_pos (by omega)), rd_nI (by omega) (by decide), Option.bind_some, rd_nI (by omega) (by decide), Option.bind_some, g1, g2]
      simp only [w0, if_true, lastIs, hf2]
      by_cases c1 : f.1 = 2
      · rw [if_neg (fun q => q c1)]
        by_cases c2 : nI f.2 = nI k
        · rw [if_neg (fun q => q c2)]; simp [c1, c2, bret_1]
        · rw [if_pos c2]; simp [c1, c2, bret_0]
      · rw [if_pos c1]; simp [c1, bret_0]
    · rw [hr] at h
      have hf : M 34 0 ≠ 2 := by
        rcases v with n | is
        · rw [h.1.1]; decide
        · rw [h.1.1]; decide
      rw [if_pos hf]
      simp [w0, bret_0]
  · rw [if_neg w0]
    have hst := RSo_form h
    by_cases w1 : w = 1
    · rw [if_pos w1, hst]
      rcases hr : (askS σ k).1 with fs | ⟨v | v, s, d⟩
      · rw [if_pos (show stS (.inl fs) = 2 from rfl)]; simp [w1, bret_0]
      · rw [if_neg (show ¬ stS (.inr (.inl v, s, d)) = 2 from show ¬ (0 : Int32) = 2 by decide)]; simp [w1, bret_1]
      · rw [if_neg (show ¬ stS (.inr (.inr v, s, d)) = 2 from show ¬ (1 : Int32) = 2 by decide)]; simp [w1, bret_1]
    · rw [if_neg w1, hst]
      rcases hr : (askS σ k).1 with fs | ⟨v | v, s, d⟩
      · rw [if_pos (show ¬ stS (.inl fs) = 0 from show ¬ (2 : Int32) = 0 by decide)]; simp [w0, w1, bret_0]
      · rw [if_neg (show ¬ ¬ stS (.inr (.inl v, s, d)) = 0 from fun q => q rfl)]; simp [w0, w1, bret_1]
      · rw [if_pos (show ¬ stS (.inr (.inr v, s, d)) = 0 from show ¬ (1 : Int32) = 0 by decide)]; simp [w0, w1, bret_0]
theorem X8_isSo {M : Mem} {σ : Sc} {k w : Nat} (hw : WFs σ) (hk : k < 8) (hw3 : w < 3) (h : SMr (M 164) σ) : ∃ M', f_X8_isSo M (nI k) (nI w) = some (if isSoS (askS σ k).1 k w = true then 1 else 0, M') ∧ FRm 0 M M' := by
  obtain ⟨r, M', e1, e2, e3, e4, e5⟩ := X8_resolves hw hk h
  have hgood := askS_good hw hk
  unfold f_X8_isSo isSoS
  rw [e1, Option.bind_some]
  dsimp only
  simp only [(w3_t w hw3).1, (w3_t w hw3).2]
  refine ⟨M', ?_, e2⟩
  by_cases w0 : w = 0
  · rw [if_neg (fun q => q w0)]
    rcases hr : (askS σ k).1 with fs | ⟨v, s, d⟩
    · rw [hr] at e3 hgood
      have h0 : 0 < fs.length := by rcases fs with _ | ⟨a, as⟩; exact absurd rfl hgood; simp
      obtain ⟨f, hf1, hf2⟩ := last_at hgood
      obtain ⟨g1, g2⟩ := e3.2.1.2 _ f hf1
      have hlen := e3.2.2
      rw [e3.1, if_neg (by decide), e3.2.1.1, nI_pred1 h0, rd_nI (by omega) (by decide), Option.bind_some, rd_nI (by omega) (by decide), Option.bind_some, g1, g2]
      simp only [w0, if_true, lastIs, hf2]
      by_cases c1 : f.1 = 2
      · rw [if_neg (fun q => q c1)]
        by_cases c2 : nI f.2 = nI k
        · rw [if_neg (fun q => q c2)]; simp [c1, c2, bret_1]
        · rw [if_pos c2]; simp [c1, c2, bret_0]
      · rw [if_pos c1]; simp [c1, bret_0]
    · rw [hr] at e3
      rw [e3.1, if_pos (by decide)]
      simp [w0, bret_0]
  · rw [if_pos w0]
    rcases hr : (askS σ k).1 with fs | ⟨v | v, s, d⟩
    · rw [hr] at e3
      rw [e3.1, if_pos rfl]
      by_cases w1 : w = 1
      · simp [w1, bret_0]
      · simp [w0, w1, bret_0]
    · rw [hr] at e3
      rw [e3.1, if_neg (by decide)]
      by_cases w1 : w = 1
      · rw [if_pos w1]; simp [w1, bret_1]
      · rw [if_neg w1, rd0 (by decide) (by decide), Option.bind_some, e3.2.1.1, if_neg (by decide)]; simp [w0, w1, bret_1]
    · rw [hr] at e3
      rw [e3.1, if_neg (by decide)]
      by_cases w1 : w = 1
      · rw [if_pos w1]; simp [w1, bret_1]
      · rw [if_neg w1, rd0 (by decide) (by decide), Option.bind_some, e3.2.1.1, if_pos (by decide)]; simp [w0, w1, bret_0]
abbrev soS (σ : Sc) (w : Nat) : Nat → Bool := fun k => isSoS (askS σ k).1 k w
theorem X7_all_20 {S : St} {w : Nat} (hw : WFS S) (hw3 : w < 3) : ∀ (m i : Nat) (M : Mem) (fuel : Nat), i + m = 8 → m < fuel → ClsI M S → ∃ M', f_X7_all_20 fuel M (nI w) (mskI (soS (gS S) w) i) (nI i) = some (mskI (soS (gS S) w) 8, M') ∧ CF M M' := by
  intro m
  induction m with
  | zero =>
    intro i M fuel him hf h
    obtain ⟨fu, rfl⟩ : ∃ fu, fuel = fu + 1 := ⟨fuel - 1, by omega⟩
    rw [f_X7_all_20, if_pos (show (8 : Int32) ≤ nI i from nI_le (a := 8) (by omega) (by omega))]
    simp at him; subst him; exact ⟨M, rfl, CF.rf⟩
  | succ m ih =>
    intro i M fuel him hf h
    obtain ⟨fu, rfl⟩ : ∃ fu, fuel = fu + 1 := ⟨fuel - 1, by omega⟩
    obtain ⟨M1, e1, e2, e3, -⟩ := ask7 (k := i) h hw (by omega)
    obtain ⟨M', f1, f2⟩ := ih (i + 1) M1 fu (by omega) (by omega) (h.cf e2)
    rw [f_X7_all_20, if_neg (show ¬ (8 : Int32) ≤ nI i from nI_ge (b := 8) (by omega) (by decide)), e1, Option.bind_some, X7_isAmong hw.1 (by omega) hw3 e3, Option.bind_some]
    dsimp only
    rw [nI_1]
    simp only [mskI] at f1
    refine ⟨M', ?_, e2.tr f2⟩
    by_cases hb : soS (gS S) w i = true
    · rw [if_pos hb, if_neg (by decide), Option.bind_some]
      rw [if_pos hb] at f1
      exact f1
    · rw [if_neg hb, if_pos rfl]
      rw [if_neg hb] at f1
      exact f1
theorem X8_allSo {M : Mem} {σ : Sc} {w : Nat} (hw : WFs σ) (hw3 : w < 3) (h : SMr (M 164) σ) : ∃ M', f_X8_allSo M (nI w) = some (mskI (soS σ w) 8, M') ∧ FRm 0 M M' := by
  have key : ∀ (m i : Nat) (M : Mem) (fuel : Nat), i + m = 8 → m < fuel → SMr (M 164) σ → ∃ M', f_X8_allSo_4 fuel M (nI w) (mskI (soS σ w) i) (nI i) = some (mskI (soS σ w) 8, M') ∧ FRm 0 M M' := by
    intro m
    induction m with
    | zero =>
      intro i M fuel him hf h
      obtain ⟨fu, rfl⟩ : ∃ fu, fuel = fu + 1 := ⟨fuel - 1, by omega⟩
      rw [f_X8_allSo_4, if_pos (show (8 : Int32) ≤ nI i from nI_le (a := 8) (by omega) (by omega))]
      simp at him; subst him; exact ⟨M, rfl, FRm.rf⟩
    | succ m ih =>
      intro i M fuel him hf h
      obtain ⟨fu, rfl⟩ : ∃ fu, fuel = fu + 1 := ⟨fuel - 1, by omega⟩
      obtain ⟨M1, e1, e2⟩ := X8_isSo (k := i) hw (by omega) hw3 h
      obtain ⟨M', f1, f2⟩ := ih (i + 1) M1 fu (by omega) (by omega) (by rw [e2.1 164 (by omega)]; exact h)
      rw [f_X8_allSo_4, if_neg (show ¬ (8 : Int32) ≤ nI i from nI_ge (b := 8) (by omega) (by decide)), e1, Option.bind_some]
      dsimp only
      rw [nI_1]
      simp only [mskI] at f1
      refine ⟨M', ?_, e2.tr f2⟩
      by_cases hb : soS σ w i = true
      · rw [if_pos hb, if_neg (by decide), Option.bind_some]
        rw [if_pos hb] at f1
        exact f1
      · rw [if_neg hb, if_pos rfl, Int32.or_zero]
        rw [if_neg hb] at f1
        exact f1
  unfold f_X8_allSo
  exact key 8 0 M 1000 rfl (by decide) h
theorem all_same {S : St} (hw : WFS S) (x : Int32) : SAME S (fun M => f_X7_all M x) (fun M => f_X8_all M x) := by
  rcases argc x 3 (by decide) with ⟨w, hw3, rfl⟩ | hx
  · refine same_look hw (mskI (soS (gS S) w) 8) (fun M h => ?_) (fun M h => ?_)
    · unfold f_X7_all
      rw [if_neg (nI_pos (by omega)), if_pos (show nI w ≤ 2 from nI_le (b := 2) (by omega) (by decide))]
      exact X7_all_20 hw hw3 8 0 M 1000 rfl (by decide) h
    · unfold f_X8_all
      rw [show f_X8_isIn M (nI w) 0 2 = some (1, M) from X8_isIn (n := 3) hw3 (by decide), Option.bind_some]
      dsimp only
      rw [if_neg (by decide), bind_eta]
      obtain ⟨M', e1, e2⟩ := X8_allSo hw.1 hw3 h.1
      exact ⟨M', e1, e2.mk⟩
  · refine same_no hw (-2) 2 neg2 (by decide) (fun M h => ?_) (fun M h => ?_)
    · unfold f_X7_all
      refine ⟨M, ?_, CF.rf⟩
      rw [bind_eta]
      by_cases h0 : x < 0
      · rw [if_pos h0]
      · have : ¬ x ≤ 2 := fun q => by
          obtain ⟨j, hj, rfl⟩ := nI_of h0
          have := (nI_leI hj (show 2 < 2 ^ 31 by decide)).mp q
          exact (hx.resolve_left h0) (nI_lt (by omega) (by decide))
        rw [if_neg h0, if_neg this]
    · unfold f_X8_all
      rw [show f_X8_isIn M x 0 2 = some (0, M) from X8_isIn' (n := 3) hx (by decide) (by decide), Option.bind_some]
      dsimp only
      rw [if_pos rfl, bind_eta]
      exact ⟨M, rfl, MK.rf⟩
/-- whether a row's number isn't so -/
def othS (v n : Int32) : Bool := if v = 100 then decide (n ≠ -9) else decide (v ≠ n)
theorem X3_isOtherThan {M : Mem} {k : Nat} {v n : Int32} (hk : k < 8) (h : M 103 k = v) : f_X3_isOtherThan M (nI k) n = some (if othS v n = true then 1 else 0, M) := by
  unfold f_X3_isOtherThan othS
  rw [rd_nI hk (by decide), Option.bind_some, Option.bind_some, h]
  by_cases h1 : v = 100
  · rw [if_neg (fun q => q h1), if_pos h1]
    by_cases h2 : n = -9
    · rw [if_pos h2]; simp [h2, bret_0]
    · rw [if_neg h2]; simp [h2, bret_1]
  · rw [if_pos h1, if_neg h1]
    by_cases h2 : v = n
    · rw [if_pos h2]; simp [h2, bret_0]
    · rw [if_neg h2]; simp [h2, bret_1]
/-- the first key of the row that isn't so -/
def fstS (σ : Sc) : List Int32 → Nat → Int32
  | [], _ => -9
  | v :: vs, i => if othS v (nmS σ i) = true then nI i else fstS σ vs (i + 1)
theorem X7_firstNotSo {s : Nat} {σ : Sc} {row : List Int32} (hs : okS s) (hw : WFs σ) (hr8 : row.length ≤ 8) : ∀ (rest : List Int32) (i : Nat) (M : Mem) (fuel : Nat), rest.length < fuel → row.drop i = rest → i + rest.length = row.length → SCr M s σ → LsI (M 102 1) (M 103) row → ∃ M', f_X7_firstNotSo_2 fuel M s (nI i) = some (fstS σ rest i, M') ∧ FRr M M' := by
  intro rest
  induction rest with
  | nil =>
    intro i M fuel hf hd hi h hl
    obtain ⟨fu, rfl⟩ : ∃ fu, fuel = fu + 1 := ⟨fuel - 1, by simp at hf; omega⟩
    simp at hi
    rw [f_X7_firstNotSo_2, hl.1, hi, if_pos (Int32.le_refl _)]
    exact ⟨M, rfl, FRr.rf⟩
  | cons v rest ih =>
    intro i M fuel hf hd hi h hl
    obtain ⟨fu, rfl⟩ : ∃ fu, fuel = fu + 1 := ⟨fuel - 1, by simp at hf; omega⟩
    simp only [List.length_cons] at hf hi
    have hget : row[i]? = some v := by
      have : (row.drop i)[0]? = some v := by rw [hd]; rfl
      rw [List.getElem?_drop] at this
      simpa using this
    obtain ⟨M1, e1, e2, e3, -⟩ := X2_ask (k := i) hs hw (by omega) h
    have hl1 : LsI (M1 102 1) (M1 103) row := by rw [e2 102 (by omega), e2 103 (by omega)]; exact hl
    rw [f_X7_firstNotSo_2, hl.1, if_neg (nI_ge (by omega) (by omega)), e1, Option.bind_some, X1_numberOrNothing e3.1, Option.bind_some]
    dsimp only
    rw [X3_isOtherThan (by omega) (hl1.2 i v hget), Option.bind_some]
    dsimp only
    simp only [fstS]
    by_cases hb : othS v (nmS σ i) = true
    · rw [if_pos hb, if_neg (by decide), if_pos hb]
      exact ⟨M1, rfl, e2⟩
    · rw [if_neg hb, if_pos rfl, if_neg hb, nI_1]
      obtain ⟨M', f1, f2⟩ := ih (i + 1) M1 fu (by omega) (by rw [← List.drop_drop, hd]; rfl) (by omega) (h.fr (fun j a b => e2 j (by have := okS_lt hs; omega))) hl1
      exact ⟨M', f1, e2.tr f2⟩
