/-! the reference: values in slots -/
def MIs (M : Mem) (d : Nat) (is : List Itm) : Prop := ∀ j x, is[j]? = some x → M 176 (10 * d + j) = x.1 ∧ M 177 (10 * d + j) = x.2.1 ∧ M 178 (10 * d + j) = x.2.2
def MV (M : Mem) (d : Nat) : Vl → Prop
  | .inl n => M 171 d = 0 ∧ M 172 d = n
  | .inr is => M 171 d = 1 ∧ M 173 d = nI is.length ∧ is.length ≤ 10 ∧ MIs M d is
def FLm (M : Mem) (fs : Flt) : Prop := M 163 24 = nI fs.length ∧ ∀ i f, fs[i]? = some f → M 180 i = f.1 ∧ M 181 i = nI f.2
/-- what a call of a slot at d or behind may change -/
def FRm (d : Nat) (M M' : Mem) : Prop := (∀ i, (i < 163 ∨ (163 < i ∧ i < 171) ∨ 181 < i) → M' i = M i) ∧ (∀ j, j ≠ 24 → j ≠ 25 → j ≠ 26 → M' 163 j = M 163 j) ∧ (∀ i j, 171 ≤ i → i ≤ 175 → j < d → M' i j = M i j) ∧ (∀ i j, 176 ≤ i → i ≤ 178 → j < 10 * d → M' i j = M i j)
theorem FRm.rf {d : Nat} {M : Mem} : FRm d M M := ⟨fun _ _ => rfl, fun _ _ _ _ => rfl, fun _ _ _ _ _ => rfl, fun _ _ _ _ _ => rfl⟩
theorem FRm.tr {d : Nat} {A B C : Mem} (h : FRm d A B) (g : FRm d B C) : FRm d A C := ⟨fun i a => (g.1 i a).trans (h.1 i a), fun j a b c => (g.2.1 j a b c).trans (h.2.1 j a b c), fun i j a b c => (g.2.2.1 i j a b c).trans (h.2.2.1 i j a b c), fun i j a b c => (g.2.2.2 i j a b c).trans (h.2.2.2 i j a b c)⟩
theorem FRm.dn {d d' : Nat} {A B : Mem} (h : FRm d A B) (hd : d' ≤ d) : FRm d' A B := ⟨h.1, h.2.1, fun i j a b c => h.2.2.1 i j a b (by omega), fun i j a b c => h.2.2.2 i j a b (by omega)⟩
/-- only the rows of values, only at d -/
def FRd (d : Nat) (M M' : Mem) : Prop := (∀ i, (i < 171 ∨ 178 < i) → M' i = M i) ∧ (∀ i j, 171 ≤ i → i ≤ 175 → j ≠ d → M' i j = M i j) ∧ (∀ i j, 176 ≤ i → i ≤ 178 → (j < 10 * d ∨ 10 * d + 10 ≤ j) → M' i j = M i j)
theorem FRd.rf {d : Nat} {M : Mem} : FRd d M M := ⟨fun _ _ => rfl, fun _ _ _ _ _ => rfl, fun _ _ _ _ _ => rfl⟩
theorem FRd.tr {d : Nat} {A B C : Mem} (h : FRd d A B) (g : FRd d B C) : FRd d A C := ⟨fun i a => (g.1 i a).trans (h.1 i a), fun i j a b c => (g.2.1 i j a b c).trans (h.2.1 i j a b c), fun i j a b c => (g.2.2 i j a b c).trans (h.2.2 i j a b c)⟩
theorem FRd.m {d : Nat} {A B : Mem} (h : FRd d A B) : FRm d A B := ⟨fun i a => h.1 i (by omega), fun j _ _ _ => by rw [h.1 163 (by omega)], fun i j a b c => h.2.1 i j a b (by omega), fun i j a b c => h.2.2 i j a b (Or.inl c)⟩
theorem FRd.w1 {d i : Nat} {M : Mem} {x : Int32} (h1 : 171 ≤ i) (h2 : i ≤ 175) : FRd d M (wr M i d x) := ⟨fun j hj => wr_ne (by omega), fun a j _ _ hj => by rw [wr_ap, if_neg (by omega)], fun a j h3 h4 _ => by rw [wr_ne (by omega)]⟩
theorem FRd.w2 {d i j : Nat} {M : Mem} {x : Int32} (h1 : 176 ≤ i) (h2 : i ≤ 178) (h3 : j < 10) : FRd d M (wr M i (10 * d + j) x) := ⟨fun a ha => wr_ne (by omega), fun a b h4 h5 _ => by rw [wr_ne (by omega)], fun a b _ _ hb => by rw [wr_ap, if_neg (by omega)]⟩
theorem X8_fails_l {code : Int32} {k : Nat} : ∀ (i : Nat) (M : Mem) (fuel : Nat), i < fuel → i ≤ 20 → ∃ M', f_X8_fails_5 fuel M code (nI k) (nI i) = some (0, M') ∧ M' 180 0 = code ∧ M' 181 0 = nI k ∧ (∀ j, j < i → M' 180 (j + 1) = M 180 j ∧ M' 181 (j + 1) = M 181 j) ∧ M' 163 24 = M 163 24 + 1 ∧ (∀ a, a ≠ 163 → a ≠ 180 → a ≠ 181 → M' a = M a) ∧ ∀ j, j ≠ 24 → M' 163 j = M 163 j := by
  suffices hs : ∀ (i : Nat) (M : Mem) (fuel : Nat), i < fuel → i ≤ 20 → ∃ M', f_X8_fails_5 fuel M code (nI k) (nI i) = some (0, M') ∧ M' 180 0 = code ∧ M' 181 0 = nI k ∧ (∀ j, j < i → M' 180 (j + 1) = M 180 j ∧ M' 181 (j + 1) = M 181 j) ∧ (∀ j, i < j → M' 180 j = M 180 j ∧ M' 181 j = M 181 j) ∧ M' 163 24 = M 163 24 + 1 ∧ (∀ a, a ≠ 163 → a ≠ 180 → a ≠ 181 → M' a = M a) ∧ ∀ j, j ≠ 24 → M' 163 j = M 163 j by
    intro i M fuel h1 h2
    obtain ⟨M', a, b, c, d, _, e⟩ := hs i M fuel h1 h2
    exact ⟨M', a, b, c, d, e⟩
  intro i
  induction i with
  | zero =>
    intro M fuel hf _
    obtain ⟨fu, rfl⟩ : ∃ fu, fuel = fu + 1 := ⟨fuel - 1, by omega⟩
    rw [f_X8_fails_5, if_pos (by decide)]
    unfold f_X8_fails_43
    have hw : ∀ (A : Mem) (a : Nat) (x : Int32), wra 80 A a 0 x = some (wr A a 0 x) := fun A a x => wra_nI (i := 0) (by decide) (by decide)
    rw [hw, Option.bind_some, hw, Option.bind_some, wrf_eq, Option.bind_some, bret_0]
    refine ⟨_, rfl, ?_, ?_, fun j hj => by omega, fun j hj => ⟨?_, ?_⟩, ?_, fun a h1 h2 h3 => ?_, fun j hj => ?_⟩
    · simp [wr_ap]
    · simp [wr_ap]
    · have : ¬ j = 0 := by omega
      simp [wr_ap, this]
    · have : ¬ j = 0 := by omega
      simp [wr_ap, this]
    · simp [wr_ap]
    · rw [wr_ne h1, wr_ne h3, wr_ne h2]
    · simp [wr_ap, hj]
  | succ i ih =>
    intro M fuel hf hi
    obtain ⟨fu, rfl⟩ : ∃ fu, fuel = fu + 1 := ⟨fuel - 1, by omega⟩
    rw [f_X8_fails_5, if_neg (show ¬ nI (i + 1) ≤ 0 from nI_ge (b := i + 1) (a := 0) (by omega) (by omega)), nI_pred1 (by omega), Nat.add_sub_cancel, rd_nI (by omega) (by decide), Option.bind_some, wra_nI (by omega) (by decide), Option.bind_some, rd_nI (by omega) (by decide), Option.bind_some, wra_nI (by omega) (by decide), Option.bind_some, nI_m1 (by omega), Nat.add_sub_cancel]
    obtain ⟨M', e1, e2, e3, e4, e5, e6, e7, e8⟩ := ih (wr (wr M 180 (i + 1) (M 180 i)) 181 (i + 1) (wr M 180 (i + 1) (M 180 i) 181 i)) fu (by omega) (by omega)
    refine ⟨M', e1, e2, e3, fun j hj => ?_, fun j hj => ?_, ?_, fun a h1 h2 h3 => ?_, fun j hj => ?_⟩
    · by_cases hji : j < i
      · obtain ⟨g1, g2⟩ := e4 j hji
        have n1 : ¬ j = i + 1 := by omega
        rw [g1, g2]
        simp [wr_ap, n1]
      · have hji2 : j = i := by omega
        subst hji2
        obtain ⟨g1, g2⟩ := e5 (j + 1) (by omega)
        rw [g1, g2]
        simp [wr_ap]
    · obtain ⟨g1, g2⟩ := e5 j (by omega)
      have n1 : ¬ j = i + 1 := by omega
      rw [g1, g2]
      simp [wr_ap, n1]
    · rw [e6]; simp [wr_ap]
    · rw [e7 a h1 h2 h3, wr_ne h3, wr_ne h2]
    · rw [e8 j hj]; simp [wr_ap]
theorem X8_fails {M : Mem} {code : Int32} {k : Nat} {fs : Flt} (h : FLm M fs) (hl : fs.length ≤ 20) : ∃ M', f_X8_fails M code (nI k) = some (0, M') ∧ FLm M' ((code, k) :: fs) ∧ (∀ a, a ≠ 163 → a ≠ 180 → a ≠ 181 → M' a = M a) ∧ ∀ j, j ≠ 24 → M' 163 j = M 163 j := by
  unfold f_X8_fails
  rw [h.1]
  obtain ⟨M', e1, e2, e3, e4, e5, e6, e7⟩ := X8_fails_l (code := code) (k := k) fs.length M 1000 (by omega) hl
  refine ⟨M', e1, ⟨by rw [e5, h.1, nI_1]; rfl, fun i f hf => ?_⟩, e6, e7⟩
  cases i with
  | zero =>
    simp at hf
    subst hf
    exact ⟨e2, e3⟩
  | succ i =>
    rw [List.getElem?_cons_succ] at hf
    obtain ⟨g1, g2⟩ := e4 i (List.getElem?_eq_some_iff.mp hf).1
    obtain ⟨q1, q2⟩ := h.2 i f hf
    exact ⟨g1.trans q1, g2.trans q2⟩
theorem ten_at (d j : Nat) : (10 : Int32) * nI d + nI j = nI (10 * d + j) := by rw [show (10 : Int32) = nI 10 from rfl, nI_mul, nI_add]
theorem X8_is_l {d l : Nat} (hd : d + 1 < 12) : ∀ (m i : Nat) (M : Mem) (fuel : Nat), i + m = 10 → m < fuel → ∃ M', f_X8_is_44 fuel M (nI d) (nI l) (nI i) = some M' ∧ FRd d M M' ∧ M' 174 d = bitI l ∧ M' 175 d = M 175 (d + 1) ∧ M' 171 = M 171 ∧ M' 172 = M 172 ∧ M' 173 = M 173 ∧ ∀ a, 176 ≤ a → a ≤ 178 → (∀ j, j < i → M' a (10 * d + j) = M a (10 * d + j)) ∧ ∀ j, i ≤ j → j < 10 → M' a (10 * d + j) = M a (10 * (d + 1) + j) := by
  intro m
  induction m with
  | zero =>
    intro i M fuel him hf
    obtain ⟨fu, rfl⟩ : ∃ fu, fuel = fu + 1 := ⟨fuel - 1, by omega⟩
    rw [f_X8_is_44, if_pos (show (10 : Int32) ≤ nI i from nI_le (a := 10) (by omega) (by omega))]
    unfold f_X8_is_128
    rw [wra_nI (by omega) (by decide), Option.bind_some, nI_1, rd_nI (by omega) (by decide), Option.bind_some, wra_nI (by omega) (by decide), Option.bind_some]
    refine ⟨_, rfl, (FRd.w1 (by decide) (by decide)).tr (FRd.w1 (by decide) (by decide)), ?_, ?_, ?_, ?_, ?_, fun a h1 h2 => ⟨fun j hj => ?_, fun j h3 h4 => by omega⟩⟩
    · simp [wr_ap]
    · simp [wr_ap]
    · rw [wr_ne (by decide), wr_ne (by decide)]
    · rw [wr_ne (by decide), wr_ne (by decide)]
    · rw [wr_ne (by decide), wr_ne (by decide)]
    · rw [wr_ne (by omega), wr_ne (by omega)]
  | succ m ih =>
    intro i M fuel him hf
    obtain ⟨fu, rfl⟩ : ∃ fu, fuel = fu + 1 := ⟨fuel - 1, by omega⟩
    rw [f_X8_is_44, if_neg (show ¬ (10 : Int32) ≤ nI i from nI_ge (b := 10) (by omega) (by decide)), nI_1, ten_at, ten_at, nI_1, rd_nI (by omega) (by decide), Option.bind_some, wra_nI (by omega) (by decide), Option.bind_some, rd_nI (by omega) (by decide), Option.bind_some, wra_nI (by omega) (by decide), Option.bind_some, rd_nI (by omega) (by decide), Option.bind_some, wra_nI (by omega) (by decide), Option.bind_some]
    generalize hA : wr (wr (wr M 176 (10 * d + i) _) 177 (10 * d + i) _) 178 (10 * d + i) _ = A
    have hAf : FRd d M A := by rw [← hA]; exact ((FRd.w2 (by decide) (by decide) (by omega)).tr (FRd.w2 (by decide) (by decide) (by omega))).tr (FRd.w2 (by decide) (by decide) (by omega))
    have hAi : ∀ a, 176 ≤ a → a ≤ 178 → A a (10 * d + i) = M a (10 * (d + 1) + i) := by
      intro a h1 h2
      have : a = 176 ∨ a = 177 ∨ a = 178 := by omega
      rcases this with rfl | rfl | rfl <;> rw [← hA] <;> simp [wr_ap]
    have hAo : ∀ a j, 176 ≤ a → a ≤ 178 → j ≠ i → A a (10 * d + j) = M a (10 * d + j) := by
      intro a j h1 h2 h3
      have : a = 176 ∨ a = 177 ∨ a = 178 := by omega
      have h4 : ¬ 10 * d + j = 10 * d + i := by omega
      rcases this with rfl | rfl | rfl <;> rw [← hA] <;> simp [wr_ap, h3]
    have hAr : ∀ a, a ≠ 176 → a ≠ 177 → a ≠ 178 → A a = M a := fun a h1 h2 h3 => by rw [← hA, wr_ne h3, wr_ne h2, wr_ne h1]
    obtain ⟨M', e1, e2, e3, e4, e5, e6, e7, e8⟩ := ih (i + 1) A fu (by omega) (by omega)
    refine ⟨M', e1, hAf.tr e2, e3, ?_, ?_, ?_, ?_, fun a h1 h2 => ⟨fun j hj => ?_, fun j h3 h4 => ?_⟩⟩
    · rw [e4, hAr 175 (by decide) (by decide) (by decide)]
    · rw [e5, hAr 171 (by decide) (by decide) (by decide)]
    · rw [e6, hAr 172 (by decide) (by decide) (by decide)]
    · rw [e7, hAr 173 (by decide) (by decide) (by decide)]
    · rw [(e8 a h1 h2).1 j (by omega), hAo a j h1 h2 (by omega)]
    · by_cases hj : j = i
      · subst hj
        rw [(e8 a h1 h2).1 j (by omega), hAi a h1 h2]
      · rw [(e8 a h1 h2).2 j (by omega) h4, hAf.2.2 a _ h1 h2 (Or.inr (by omega))]
theorem X8_is {M : Mem} {d l : Nat} {v : Vl} (hd : d + 1 < 12) (hv : MV M (d + 1) v) : ∃ M', f_X8_is M (nI d) (nI l) = some M' ∧ FRd d M M' ∧ MV M' d v ∧ M' 174 d = bitI l ∧ M' 175 d = M 175 (d + 1) := by
  unfold f_X8_is
  rw [nI_1, rd_nI (by omega) (by decide), Option.bind_some, wra_nI (by omega) (by decide), Option.bind_some, rd_nI (by omega) (by decide), Option.bind_some, wra_nI (by omega) (by decide), Option.bind_some, rd_nI (by omega) (by decide), Option.bind_some, wra_nI (by omega) (by decide), Option.bind_some]
  generalize hA : wr (wr (wr M 171 d _) 172 d _) 173 d _ = A
  have hAf : FRd d M A := by rw [← hA]; exact ((FRd.w1 (by decide) (by decide)).tr (FRd.w1 (by decide) (by decide))).tr (FRd.w1 (by decide) (by decide))
  have a1 : A 171 d = M 171 (d + 1) := by rw [← hA]; simp [wr_ap]
  have a2 : A 172 d = M 172 (d + 1) := by rw [← hA]; simp [wr_ap]
  have a3 : A 173 d = M 173 (d + 1) := by rw [← hA]; simp [wr_ap]
  have ar : ∀ a, a ≠ 171 → a ≠ 172 → a ≠ 173 → A a = M a := fun a h1 h2 h3 => by rw [← hA, wr_ne h3, wr_ne h2, wr_ne h1]
  obtain ⟨M', e1, e2, e3, e4, e5, e6, e7, e8⟩ := X8_is_l (l := l) hd 10 0 A 1000 rfl (by decide)
  refine ⟨M', e1, hAf.tr e2, ?_, e3, ?_⟩
  · match v, hv with
    | .inl n, ⟨h0, h1⟩ => exact ⟨by rw [e5, a1, h0], by rw [e6, a2, h1]⟩
    | .inr is, ⟨h0, h1, h2, h3⟩ =>
      refine ⟨by rw [e5, a1, h0], by rw [e7, a3, h1], h2, fun j x hx => ?_⟩
      have hj := (List.getElem?_eq_some_iff.mp hx).1
      rw [(e8 176 (by decide) (by decide)).2 j (by omega) (by omega), (e8 177 (by decide) (by decide)).2 j (by omega) (by omega), (e8 178 (by decide) (by decide)).2 j (by omega) (by omega), ar 176 (by decide) (by decide) (by decide), ar 177 (by decide) (by decide) (by decide), ar 178 (by decide) (by decide) (by decide)]
      exact h3 j x hx
  · rw [e4, ar 175 (by decide) (by decide) (by decide)]
