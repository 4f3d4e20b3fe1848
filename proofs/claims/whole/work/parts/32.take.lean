/-! the class: values in an Outcome, and taking them -/
def IR (M : Mem) (o : Nat) (is : List Itm) : Prop := ∀ j x, is[j]? = some x → M (o + 1) j = x.1 ∧ M (o + 2) j = x.2.1 ∧ M (o + 3) j = x.2.2
def IRm (M : Mem) (o : Nat) (is : List Itm) : Prop := ∀ j x, is[j]? = some x → M (o + 1) j = x.1 ∧ M (o + 2) j = x.2.1
/-- a value that was made: its sources are not yet told -/
def OVm (M : Mem) (o : Nat) : Vl → Prop
  | .inl n => M o 0 = 0 ∧ M o 1 = n
  | .inr is => M o 0 = 1 ∧ M o 1 = nI is.length ∧ is.length ≤ 10 ∧ IRm M o is
def OV (M : Mem) (o : Nat) : Vl → Prop
  | .inl n => M o 0 = 0 ∧ M o 1 = n
  | .inr is => M o 0 = 1 ∧ M o 1 = nI is.length ∧ is.length ≤ 10 ∧ IR M o is
def AllSrc (l : Nat) : Vl → Prop
  | .inl _ => True
  | .inr is => ∀ x ∈ is, x.2.2 = nI l
/-- rows that taking may change -/
def FRo (o : Nat) (M M' : Mem) : Prop := (∀ i, i ≠ o → i ≠ o + 1 → i ≠ o + 2 → i ≠ o + 3 → M' i = M i) ∧ M' o 8 = M o 8 ∧ M' o 9 = M o 9 ∧ M' o 5 = M o 5
theorem FRo.rf {o : Nat} {M : Mem} : FRo o M M := ⟨fun _ _ _ _ _ => rfl, rfl, rfl, rfl⟩
theorem FRo.tr {o : Nat} {A B C : Mem} (h : FRo o A B) (g : FRo o B C) : FRo o A C := ⟨fun i a b c d => (g.1 i a b c d).trans (h.1 i a b c d), g.2.1.trans h.2.1, g.2.2.1.trans h.2.2.1, g.2.2.2.trans h.2.2.2⟩
theorem put1_app {pre rest : List Itm} {x : Itm} (h : ∀ y ∈ pre, y.1 ≠ x.1) : put1 (pre ++ rest) x = pre ++ put1 rest x := by
  induction pre with
  | nil => rfl
  | cons y ys ih =>
    simp only [List.cons_append, put1]
    rw [if_neg (h y List.mem_cons_self), ih (fun z hz => h z (List.mem_cons_of_mem _ hz))]
theorem ten_t : ∀ n, n ≤ 10 → (nI n < 10 ↔ n < 10) := by decide +kernel
theorem X1_takeItem {M0 : Mem} {o : Nat} {is : List Itm} {x : Itm} (h1 : M0 o 1 = nI is.length) (hl : is.length ≤ 10) (hr : IR M0 o is) :
    ∃ M', f_X1_takeItem M0 o x.1 x.2.1 x.2.2 = some (if (mrg1 is x).isSome = true then 1 else 0, M') ∧ FRo o M0 M' ∧ M' o 0 = M0 o 0 ∧ M' o 11 = M0 o 11 ∧ M' o 12 = M0 o 12 ∧ ∀ js, mrg1 is x = some js → M' o 1 = nI js.length ∧ js.length ≤ 10 ∧ IR M' o js := by
  unfold f_X1_takeItem
  suffices hs : ∀ (rest pre : List Itm) (fuel : Nat), rest.length < fuel → is = pre ++ rest → (∀ y ∈ pre, y.1 ≠ x.1) →
      ∃ M', f_X1_takeItem_3 fuel M0 o x.1 x.2.1 x.2.2 (nI pre.length) = some (if (mrg1 is x).isSome = true then 1 else 0, M') ∧ FRo o M0 M' ∧ M' o 0 = M0 o 0 ∧ M' o 11 = M0 o 11 ∧ M' o 12 = M0 o 12 ∧ ∀ js, mrg1 is x = some js → M' o 1 = nI js.length ∧ js.length ≤ 10 ∧ IR M' o js by
    exact hs is [] 1000 (by omega) rfl (fun y hy => by simp at hy)
  have write : ∀ (M : Mem) (p : Nat), p < 10 → ∃ M', f_X1_takeItem_57 M o x.1 x.2.1 x.2.2 (nI p) = some (1, M') ∧ (∀ i, i ≠ o + 1 → i ≠ o + 2 → i ≠ o + 3 → M' i = M i) ∧ (∀ j, M' (o + 1) j = if j = p then x.1 else M (o + 1) j) ∧ (∀ j, M' (o + 2) j = if j = p then x.2.1 else M (o + 2) j) ∧ (∀ j, M' (o + 3) j = if j = p then x.2.2 else M (o + 3) j) := by
    intro M p hp
    refine ⟨wr (wr (wr M (o + 1) p x.1) (o + 2) p x.2.1) (o + 3) p x.2.2, ?_, fun i a b c => ?_, fun j => ?_, fun j => ?_, fun j => ?_⟩
    · unfold f_X1_takeItem_57
      rw [wra_nI hp (by decide), Option.bind_some, wra_nI hp (by decide), Option.bind_some, wra_nI hp (by decide), Option.bind_some]
      rfl
    · rw [wr_ne c, wr_ne b, wr_ne a]
    · rw [wr_ap, if_neg (by omega), wr_ap, if_neg (by omega), wr_ap]; simp
    · rw [wr_ap, if_neg (by omega), wr_ap]; simp [wr_ap]
    · rw [wr_ap]; simp [wr_ap]
  intro rest
  induction rest with
  | nil =>
    intro pre fuel hf he hp
    obtain ⟨fu, rfl⟩ : ∃ fu, fuel = fu + 1 := ⟨fuel - 1, by simp at hf; omega⟩
    rw [List.append_nil] at he
    subst he
    have hput : put1 is x = is ++ [x] := by have := put1_app (rest := []) hp; rw [List.append_nil] at this; exact this
    rw [f_X1_takeItem_3, h1, if_pos (Int32.le_refl _)]
    unfold f_X1_takeItem_29
    simp only [ten_t _ hl]
    by_cases h10 : is.length < 10
    · have hm : mrg1 is x = some (is ++ [x]) := by unfold mrg1; rw [hput, if_pos (by simp; omega)]
      rw [if_pos h10, h1, if_neg (by simp), wrf_eq, Option.bind_some]
      obtain ⟨M', e1, e2, e3, e4, e5⟩ := write (wr M0 o 1 (nI is.length + 1)) is.length h10
      refine ⟨M', by rw [e1, hm]; rfl, ⟨fun i a b c d => ?_, ?_, ?_, ?_⟩, ?_, ?_, ?_, fun js hjs => ?_⟩
      · rw [e2 i b c d, wr_ne a]
      · rw [e2 o (by omega) (by omega) (by omega), wr_ap, if_neg (by omega)]
      · rw [e2 o (by omega) (by omega) (by omega), wr_ap, if_neg (by omega)]
      · rw [e2 o (by omega) (by omega) (by omega), wr_ap, if_neg (by omega)]
      · rw [e2 o (by omega) (by omega) (by omega), wr_ap, if_neg (by omega)]
      · rw [e2 o (by omega) (by omega) (by omega), wr_ap, if_neg (by omega)]
      · rw [e2 o (by omega) (by omega) (by omega), wr_ap, if_neg (by omega)]
      · rw [hm] at hjs
        cases hjs
        refine ⟨?_, by simp; omega, fun j y hy => ?_⟩
        · rw [e2 o (by omega) (by omega) (by omega), wr_ap, if_pos ⟨rfl, rfl⟩, nI_1]; simp
        · rw [e3, e4, e5]
          by_cases hj : j = is.length
          · subst hj
            rw [List.getElem?_append_right (Nat.le_refl _), Nat.sub_self] at hy
            simp at hy
            subst hy
            simp
          · have hjl : j < (is ++ [x]).length := (List.getElem?_eq_some_iff.mp hy).1
            simp at hjl
            rw [List.getElem?_append_left (by omega)] at hy
            rw [if_neg hj, if_neg hj, if_neg hj, wr_ne (by omega), wr_ne (by omega), wr_ne (by omega)]
            exact hr j y hy
    · have hm : mrg1 is x = none := by unfold mrg1; rw [hput, if_neg (by simp; omega)]
      rw [if_neg h10]
      exact ⟨M0, by rw [hm]; rfl, FRo.rf, rfl, rfl, rfl, fun js hjs => by rw [hm] at hjs; cases hjs⟩
  | cons y ys ih =>
    intro pre fuel hf he hp
    obtain ⟨fu, rfl⟩ : ∃ fu, fuel = fu + 1 := ⟨fuel - 1, by simp at hf; omega⟩
    have hlen : is.length = pre.length + ys.length + 1 := by rw [he]; simp; omega
    have hget : is[pre.length]? = some y := by rw [he, List.getElem?_append_right (Nat.le_refl _), Nat.sub_self]; rfl
    rw [f_X1_takeItem_3, h1, if_neg (nI_ge (by omega) (by omega)), rd_nI (by omega) (by decide), Option.bind_some, (hr _ _ hget).1]
    by_cases hy : y.1 = x.1
    · have hput : put1 is x = pre ++ x :: ys := by rw [he, put1_app hp]; simp only [put1]; rw [if_pos hy]
      have hm : mrg1 is x = some (pre ++ x :: ys) := by unfold mrg1; rw [hput, if_pos (by simp; omega)]
      rw [if_pos hy]
      unfold f_X1_takeItem_29
      rw [if_pos ((ten_t _ (by omega)).mpr (by omega)), h1, if_pos (show ¬ nI pre.length = nI is.length from fun q => by have := (nI_eq (by omega) (by omega)).mp q; omega)]
      obtain ⟨M', e1, e2, e3, e4, e5⟩ := write M0 pre.length (by omega)
      refine ⟨M', by rw [e1, hm]; rfl, ⟨fun i a b c d => e2 i b c d, ?_, ?_, ?_⟩, ?_, ?_, ?_, fun js hjs => ?_⟩
      · rw [e2 o (by omega) (by omega) (by omega)]
      · rw [e2 o (by omega) (by omega) (by omega)]
      · rw [e2 o (by omega) (by omega) (by omega)]
      · rw [e2 o (by omega) (by omega) (by omega)]
      · rw [e2 o (by omega) (by omega) (by omega)]
      · rw [e2 o (by omega) (by omega) (by omega)]
      · rw [hm] at hjs
        cases hjs
        refine ⟨?_, by simp; omega, fun j z hz => ?_⟩
        · rw [e2 o (by omega) (by omega) (by omega), h1, hlen]; simp [Nat.add_assoc]
        · rw [e3, e4, e5]
          by_cases hj : j = pre.length
          · subst hj
            rw [List.getElem?_append_right (Nat.le_refl _), Nat.sub_self] at hz
            simp at hz
            subst hz
            simp
          · rw [if_neg hj, if_neg hj, if_neg hj]
            refine hr j z ?_
            rw [he]
            by_cases hjp : j < pre.length
            · rw [List.getElem?_append_left hjp] at hz ⊢; exact hz
            · rw [List.getElem?_append_right (by omega)] at hz ⊢
              obtain ⟨i, hi⟩ : ∃ i, j - pre.length = i + 1 := ⟨j - pre.length - 1, by omega⟩
              rw [hi, List.getElem?_cons_succ] at hz ⊢
              exact hz
    · rw [if_neg hy, nI_1]
      have := ih (pre ++ [y]) fu (by simp at hf; omega) (by rw [he]; simp) (fun z hz => by
        rcases List.mem_append.mp hz with h | h
        · exact hp z h
        · rw [List.mem_singleton.mp h]; exact hy)
      simpa using this
theorem X1_takeItems_l {o nx l : Nat} (hne : nx + 2 < o ∨ o + 3 < nx) (hl : l < 6) :
    ∀ (xs : List Itm) (done : Nat) (M : Mem) (acc : List Itm) (fuel : Nat) (all : List Itm), xs.length < fuel → all.drop done = xs → done + xs.length = all.length → all.length ≤ 10 → (∀ x ∈ xs, x.2.2 = nI l) → M nx 1 = nI all.length → IRm M nx all → M o 1 = nI acc.length → acc.length ≤ 10 → IR M o acc →
      ∃ M', f_X1_takeItems_23 fuel M o (nI l) nx (nI done) = some (if (mrgL acc xs).isSome = true then 0 else 4, M') ∧ FRo o M M' ∧ M' o 0 = M o 0 ∧ M' o 11 = M o 11 ∧ M' o 12 = M o 12 ∧ ∀ js, mrgL acc xs = some js → M' o 1 = nI js.length ∧ js.length ≤ 10 ∧ IR M' o js := by
  intro xs
  induction xs with
  | nil =>
    intro done M acc fuel all hf hd hdl hal hsrc hn hrm h1 hl2 hr
    obtain ⟨fu, rfl⟩ : ∃ fu, fuel = fu + 1 := ⟨fuel - 1, by simp at hf; omega⟩
    simp at hdl
    rw [f_X1_takeItems_23, hn, hdl, if_pos (Int32.le_refl _)]
    exact ⟨M, rfl, FRo.rf, rfl, rfl, rfl, fun js hjs => by cases hjs; exact ⟨h1, hl2, hr⟩⟩
  | cons x xs ih =>
    intro done M acc fuel all hf hd hdl hal hsrc hn hrm h1 hl2 hr
    obtain ⟨fu, rfl⟩ : ∃ fu, fuel = fu + 1 := ⟨fuel - 1, by simp at hf; omega⟩
    simp only [List.length_cons] at hdl hf
    have hget : all[done]? = some x := by
      have : (all.drop done)[0]? = some x := by rw [hd]; rfl
      rw [List.getElem?_drop] at this
      simpa using this
    obtain ⟨g1, g2⟩ := hrm done x hget
    have hx : x.2.2 = nI l := hsrc x List.mem_cons_self
    rw [f_X1_takeItems_23, hn, if_neg (nI_ge (by omega) (by omega)), rd_nI (by omega) (by decide), Option.bind_some, rd_nI (by omega) (by decide), Option.bind_some, g1, g2]
    obtain ⟨M1, e1, e2, e3, e4, e5, e6⟩ := X1_takeItem (x := x) h1 hl2 hr
    rw [hx] at e1
    rw [e1, Option.bind_some]
    rcases hm : mrg1 acc x with _ | a
    · have e : mrgL acc (x :: xs) = none := by simp only [mrgL, hm]
      rw [e, if_neg (by simp)]
      exact ⟨M1, rfl, e2, e3, e4, e5, fun js hjs => by cases hjs⟩
    · have e : mrgL acc (x :: xs) = mrgL a xs := by simp only [mrgL, hm]
      rw [e, if_pos (by simp)]
      obtain ⟨f1, f2, f3⟩ := e6 a hm
      have hnx1 : M1 nx = M nx := e2.1 nx (by omega) (by omega) (by omega) (by omega)
      have hnx2 : M1 (nx + 1) = M (nx + 1) := e2.1 _ (by omega) (by omega) (by omega) (by omega)
      have hnx3 : M1 (nx + 2) = M (nx + 2) := e2.1 _ (by omega) (by omega) (by omega) (by omega)
      rw [nI_1]
      obtain ⟨M2, b1, b2, b3, b4, b5, b6⟩ := ih (done + 1) M1 a fu all (by omega) (by rw [← List.drop_drop, hd]; rfl) (by omega) hal (fun z hz => hsrc z (List.mem_cons_of_mem _ hz)) (by rw [hnx1]; exact hn) (fun j y hy => by rw [hnx2, hnx3]; exact hrm j y hy) f1 f2 f3
      exact ⟨M2, b1, e2.tr b2, b3.trans e3, b4.trans e4, b5.trans e5, b6⟩
theorem X7_fill {o l : Nat} (hln : ln (o + 3) = 10) : ∀ (m i : Nat) (M : Mem) (fuel : Nat), i + m = 10 → m < fuel → ∃ M', f_J7_fill_53178_5 fuel M (o + 3) (nI l) (nI i) (Int32.ofNat (ln (o + 3))) = some M' ∧ (∀ j, j ≠ o + 3 → M' j = M j) ∧ (∀ j, i ≤ j → j < 10 → M' (o + 3) j = nI l) ∧ ∀ j, j < i → M' (o + 3) j = M (o + 3) j := by
  intro m
  induction m with
  | zero =>
    intro i M fuel him hf
    obtain ⟨fu, rfl⟩ : ∃ fu, fuel = fu + 1 := ⟨fuel - 1, by omega⟩
    rw [hln, f_J7_fill_53178_5, if_pos (show Int32.ofNat 10 ≤ nI i from nI_le (a := 10) (by omega) (by omega))]
    exact ⟨M, rfl, fun _ _ => rfl, fun j h1 h2 => by omega, fun _ _ => rfl⟩
  | succ m ih =>
    intro i M fuel him hf
    obtain ⟨fu, rfl⟩ : ∃ fu, fuel = fu + 1 := ⟨fuel - 1, by omega⟩
    have hln' := hln
    rw [f_J7_fill_53178_5, hln, if_neg (show ¬ Int32.ofNat 10 ≤ nI i from nI_ge (b := 10) (by omega) (by decide)), wra_nI (by omega) (by decide), Option.bind_some, nI_1]
    obtain ⟨M', e1, e2, e3, e4⟩ := ih (i + 1) (wr M (o + 3) i (nI l)) fu (by omega) (by omega)
    rw [hln'] at e1
    refine ⟨M', e1, fun j hj => (e2 j hj).trans (wr_ne hj), fun j h1 h2 => ?_, fun j hj => ?_⟩
    · by_cases hj : j = i
      · subst hj; rw [e4 j (by omega), wr_ap, if_pos ⟨rfl, rfl⟩]
      · exact e3 j (by omega) h2
    · rw [e4 j (by omega), wr_ap, if_neg (by omega)]
/-- where merging stands -/
def ACC (M : Mem) (o m : Nat) : Option Acc → Prop
  | none => M o 0 = 0 ∧ M o 1 = 0 ∧ M o 11 = 0 ∧ M o 12 = 0
  | some (v, s, d) => OV M o v ∧ M o 11 = s ∧ M o 12 = d ∧ (m = 3 → s ≠ 0) ∧ ((m = 2 ∨ m = 3) → ∃ n, v = .inl n) ∧ (m = 4 → ∃ is, v = .inr is)
theorem X1_takeAlone {M : Mem} {o nx l : Nat} {v : Vl} {dm : Int32} (hne : nx + 2 < o ∨ o + 3 < nx) (hl : l < 6) (hln : ln (o + 3) = 10) (hv : OVm M nx v) (hd : M nx 12 = dm) (hsrc : AllSrc l v) :
    ∃ M', f_X1_takeAlone M o (nI l) nx = some (0, M') ∧ FRo o M M' ∧ OV M' o v ∧ M' o 11 = bitI l ∧ M' o 12 = bitI l ||| dm := by
  unfold f_X1_takeAlone
  rw [wrf_eq, Option.bind_some, wrf_eq, Option.bind_some, wrf_eq, Option.bind_some, wrf_eq, Option.bind_some]
  generalize hA : wr (wr (wr (wr M o 0 (M nx 0)) o 1 (wr M o 0 (M nx 0) nx 1)) o 11 (1 <<< (nI l &&& 31))) o 12 ((1 <<< (nI l &&& 31)) ||| wr (wr (wr M o 0 (M nx 0)) o 1 (wr M o 0 (M nx 0) nx 1)) o 11 (1 <<< (nI l &&& 31)) nx 12) = A
  have ho : nx ≠ o := by omega
  have a0 : A o 0 = M nx 0 := by rw [← hA]; simp [wr_ap]
  have a1 : A o 1 = M nx 1 := by rw [← hA]; simp [wr_ap, ho]
  have a11 : A o 11 = bitI l := by rw [← hA]; simp [wr_ap]
  have a12 : A o 12 = bitI l ||| dm := by rw [← hA]; simp [wr_ap, ho, hd]
  have ar : ∀ i, i ≠ o → A i = M i := fun i hi => by rw [← hA]; simp only [wr_ne hi]
  have a8 : A o 8 = M o 8 := by rw [← hA]; simp [wr_ap]
  have a9 : A o 9 = M o 9 := by rw [← hA]; simp [wr_ap]
  have a5 : A o 5 = M o 5 := by rw [← hA]; simp [wr_ap]
  match v, hv, hsrc with
  | .inl n, ⟨h0, h1⟩, _ =>
    rw [a0, h0, if_pos (show ¬ (0 : Int32) = 1 by decide)]
    exact ⟨A, rfl, ⟨fun i hi _ _ _ => ar i hi, a8, a9, a5⟩, ⟨a0.trans h0, a1.trans h1⟩, a11, a12⟩
  | .inr is, ⟨h0, h1, h2, h3⟩, hs =>
    rw [a0, h0, if_neg (show ¬ ¬ (1 : Int32) = 1 by decide)]
    have hc : ∀ (A : Mem) (a b : Nat), acp 10 10 A a 0 b 0 10 = some (rset A b (va_cpy (A a) (A b) 0 0 10)) := fun A a b => acp_nI (sp := 0) (n := 10) (by decide) (by decide) (by decide) (by decide)
    rw [hc, Option.bind_some, hc, Option.bind_some]
    generalize hB : rset (rset A (o + 1) (va_cpy (A (nx + 1)) (A (o + 1)) 0 0 10)) (o + 2) (va_cpy (rset A (o + 1) (va_cpy (A (nx + 1)) (A (o + 1)) 0 0 10) (nx + 2)) (rset A (o + 1) (va_cpy (A (nx + 1)) (A (o + 1)) 0 0 10) (o + 2)) 0 0 10) = B
    have b1 : ∀ j, j < 10 → B (o + 1) j = M (nx + 1) j := fun j hj => by
      rw [← hB, rset_ne (by omega), rset_ap, if_pos rfl]
      simp only [va_cpy]
      rw [if_pos ⟨Nat.zero_le _, by omega⟩, ar _ (by omega)]
      simp
    have b2 : ∀ j, j < 10 → B (o + 2) j = M (nx + 2) j := fun j hj => by
      rw [← hB, rset_ap, if_pos rfl]
      simp only [va_cpy]
      rw [if_pos ⟨Nat.zero_le _, by omega⟩, rset_ne (by omega), ar _ (by omega)]
      simp
    have br : ∀ i, i ≠ o + 1 → i ≠ o + 2 → B i = A i := fun i h1 h2 => by rw [← hB, rset_ne h2, rset_ne h1]
    unfold f_J7_fill_53178
    obtain ⟨M', e1, e2, e3, -⟩ := X7_fill (l := l) hln 10 0 B 1000 rfl (by decide)
    have e1' : f_J7_fill_53178_5 1000 B (o + 3) (nI l) 0 (Int32.ofNat (ln (o + 3))) = some M' := e1
    rw [e1', Option.bind_some]
    refine ⟨M', rfl, ⟨fun i p q r t => ?_, ?_, ?_, ?_⟩, ⟨?_, ?_, h2, fun j x hx => ?_⟩, ?_, ?_⟩
    · rw [e2 i t, br i q r, ar i p]
    · rw [e2 o (by omega), br o (by omega) (by omega), a8]
    · rw [e2 o (by omega), br o (by omega) (by omega), a9]
    · rw [e2 o (by omega), br o (by omega) (by omega), a5]
    · rw [e2 o (by omega), br o (by omega) (by omega), a0, h0]
    · rw [e2 o (by omega), br o (by omega) (by omega), a1, h1]
    · have hj := (List.getElem?_eq_some_iff.mp hx).1
      obtain ⟨g1, g2⟩ := h3 j x hx
      refine ⟨?_, ?_, ?_⟩
      · rw [e2 _ (by omega), b1 j (by omega)]; exact g1
      · rw [e2 _ (by omega), b2 j (by omega)]; exact g2
      · rw [e3 j (by omega) (by omega), hs x (List.mem_of_getElem? hx)]
    · rw [e2 o (by omega), br o (by omega) (by omega), a11]
    · rw [e2 o (by omega), br o (by omega) (by omega), a12]
