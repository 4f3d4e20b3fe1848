/-- the list in a slot -/
def MLs (M : Mem) (d : Nat) (is : List Itm) : Prop := M 173 d = nI is.length ∧ is.length ≤ 10 ∧ MIs M d is
theorem max_t : ∀ a, a ≤ 10 → ∀ b, b < 10 → (if nI a < nI (b + 1) then nI (b + 1) else nI a) = nI (max a (b + 1)) := by decide +kernel
theorem X8_merge1 {k22 : Mem → Int32 → Int32 → Int32 → Int32 → Option (Int32 × Mem)} {M : Mem} {d k l i fr : Nat} {x : Itm} {is : List Itm} (hd : d + 1 < 12) (hfr : fr < 120) (hfo : 10 * d + 10 ≤ fr) (hx : M 176 fr = x.1 ∧ M 177 fr = x.2.1 ∧ M 178 fr = x.2.2) (hm : MLs M d is) :
    (mrg1 is x = none ∧ f_X8_merges_49 k22 1000 M (nI k) (nI d) (nI l) (nI i) (nI fr) (nI 0) = Option.bind (f_X8_fails M 4 (nI k)) fun z10 => bret z10.1 z10.2) ∨
    (∃ js M', mrg1 is x = some js ∧ f_X8_merges_49 k22 1000 M (nI k) (nI d) (nI l) (nI i) (nI fr) (nI 0) = k22 M' (nI k) (nI d) (nI l) (nI (i + 1)) ∧ FRd d M M' ∧ MLs M' d js ∧ M' 171 = M 171 ∧ M' 172 = M 172 ∧ M' 174 = M 174 ∧ M' 175 = M 175) := by
  obtain ⟨h1, h2, h3⟩ := hm
  -- the place is found
  have found : ∀ (p : Nat) (js : List Itm), p < 10 → mrg1 is x = some js → js.length = max is.length (p + 1) → js.length ≤ 10 → (∀ j y, js[j]? = some y → (j = p ∧ y = x) ∨ (j ≠ p ∧ is[j]? = some y)) →
      ∃ js M', mrg1 is x = some js ∧ f_X8_merges_88 k22 M (nI k) (nI d) (nI l) (nI i) (nI fr) (nI p) = k22 M' (nI k) (nI d) (nI l) (nI (i + 1)) ∧ FRd d M M' ∧ MLs M' d js ∧ M' 171 = M 171 ∧ M' 172 = M 172 ∧ M' 174 = M 174 ∧ M' 175 = M 175 := by
    intro p js hp hjs hjl hj10 hjj
    refine ⟨js, wr (wr (wr (wr M 176 (10 * d + p) x.1) 177 (10 * d + p) x.2.1) 178 (10 * d + p) x.2.2) 173 d (nI js.length), hjs, ?_, ?_, ⟨?_, hj10, fun j y hy => ?_⟩, ?_, ?_, ?_, ?_⟩
    · unfold f_X8_merges_88
      rw [if_pos (show ¬ nI p = 10 from fun q => by have := (nI_eq (b := 10) (by omega) (by decide)).mp q; omega), rd_nI hfr (by decide), Option.bind_some, hx.1, ten_at, wra_nI (by omega) (by decide), Option.bind_some, rd_nI hfr (by decide), Option.bind_some, wr_ne (show 177 ≠ 176 by decide), hx.2.1, wra_nI (by omega) (by decide), Option.bind_some, rd_nI hfr (by decide), Option.bind_some, wr_ne (show 178 ≠ 177 by decide), wr_ne (show 178 ≠ 176 by decide), hx.2.2, wra_nI (by omega) (by decide), Option.bind_some, rd_nI (by omega) (by decide), Option.bind_some, wr_ne (show 173 ≠ 178 by decide), wr_ne (show 173 ≠ 177 by decide), wr_ne (show 173 ≠ 176 by decide), h1, nI_1, max_t _ h2 p hp, ← hjl, wra_nI (by omega) (by decide), Option.bind_some, nI_1]
    · exact (((FRd.w2 (by decide) (by decide) hp).tr (FRd.w2 (by decide) (by decide) hp)).tr (FRd.w2 (by decide) (by decide) hp)).tr (FRd.w1 (by decide) (by decide))
    · simp [wr_ap]
    · rw [wr_ne (show 176 ≠ 173 by decide), wr_ne (show 177 ≠ 173 by decide), wr_ne (show 178 ≠ 173 by decide)]
      rcases hjj j y hy with ⟨rfl, rfl⟩ | ⟨hne, hy2⟩
      · simp [wr_ap]
      · obtain ⟨g1, g2, g3⟩ := h3 j y hy2
        simp [wr_ap, hne, g1, g2, g3]
    · rw [wr_ne (by decide), wr_ne (by decide), wr_ne (by decide), wr_ne (by decide)]
    · rw [wr_ne (by decide), wr_ne (by decide), wr_ne (by decide), wr_ne (by decide)]
    · rw [wr_ne (by decide), wr_ne (by decide), wr_ne (by decide), wr_ne (by decide)]
    · rw [wr_ne (by decide), wr_ne (by decide), wr_ne (by decide), wr_ne (by decide)]
  suffices hs : ∀ (rest pre : List Itm) (fuel : Nat), rest.length < fuel → is = pre ++ rest → (∀ y ∈ pre, y.1 ≠ x.1) →
      (mrg1 is x = none ∧ f_X8_merges_49 k22 fuel M (nI k) (nI d) (nI l) (nI i) (nI fr) (nI pre.length) = Option.bind (f_X8_fails M 4 (nI k)) fun z10 => bret z10.1 z10.2) ∨
      (∃ js M', mrg1 is x = some js ∧ f_X8_merges_49 k22 fuel M (nI k) (nI d) (nI l) (nI i) (nI fr) (nI pre.length) = k22 M' (nI k) (nI d) (nI l) (nI (i + 1)) ∧ FRd d M M' ∧ MLs M' d js ∧ M' 171 = M 171 ∧ M' 172 = M 172 ∧ M' 174 = M 174 ∧ M' 175 = M 175) by
    exact hs is [] 1000 (by omega) rfl (fun y hy => by simp at hy)
  intro rest
  induction rest with
  | nil =>
    intro pre fuel hf he hp
    obtain ⟨fu, rfl⟩ : ∃ fu, fuel = fu + 1 := ⟨fuel - 1, by simp at hf; omega⟩
    rw [List.append_nil] at he
    subst he
    have hput : put1 is x = is ++ [x] := by have := put1_app (rest := []) hp; rw [List.append_nil] at this; exact this
    rw [f_X8_merges_49, rd_nI (by omega) (by decide), Option.bind_some, h1, if_pos (Int32.le_refl _)]
    by_cases h10 : is.length < 10
    · have hm : mrg1 is x = some (is ++ [x]) := by unfold mrg1; rw [hput, if_pos (by simp; omega)]
      right
      refine found is.length (is ++ [x]) h10 hm (by simp; try omega) (by simp; try omega) (fun j y hy => ?_)
      by_cases hj : j < is.length
      · rw [List.getElem?_append_left hj] at hy
        exact Or.inr ⟨by omega, hy⟩
      · rw [List.getElem?_append_right (by omega)] at hy
        have h0 : j - is.length = 0 := by
          have := (List.getElem?_eq_some_iff.mp hy).1
          simp at this
          omega
        rw [h0] at hy
        simp at hy
        exact Or.inl ⟨by omega, hy.symm⟩
    · have hm : mrg1 is x = none := by unfold mrg1; rw [hput, if_neg (by simp; omega)]
      left
      refine ⟨hm, ?_⟩
      unfold f_X8_merges_88
      have : is.length = 10 := by omega
      rw [this, if_neg (by decide)]
  | cons y ys ih =>
    intro pre fuel hf he hp
    obtain ⟨fu, rfl⟩ : ∃ fu, fuel = fu + 1 := ⟨fuel - 1, by simp at hf; omega⟩
    have hlen : is.length = pre.length + ys.length + 1 := by rw [he]; simp; omega
    have hget : is[pre.length]? = some y := by rw [he, List.getElem?_append_right (Nat.le_refl _), Nat.sub_self]; rfl
    rw [f_X8_merges_49, rd_nI (by omega) (by decide), Option.bind_some, h1, if_neg (nI_ge (by omega) (by omega)), ten_at, rd_nI (by omega) (by decide), Option.bind_some, rd_nI hfr (by decide), Option.bind_some, (h3 _ _ hget).1, hx.1]
    by_cases hy : y.1 = x.1
    · have hput : put1 is x = pre ++ x :: ys := by rw [he, put1_app hp]; simp only [put1]; rw [if_pos hy]
      have hm : mrg1 is x = some (pre ++ x :: ys) := by unfold mrg1; rw [hput, if_pos (by simp; omega)]
      rw [if_pos hy]
      right
      refine found pre.length (pre ++ x :: ys) (by omega) hm (by simp; omega) (by simp; omega) (fun j z hz => ?_)
      by_cases hj : j = pre.length
      · subst hj
        rw [List.getElem?_append_right (Nat.le_refl _), Nat.sub_self] at hz
        simp at hz
        exact Or.inl ⟨rfl, hz.symm⟩
      · refine Or.inr ⟨hj, ?_⟩
        rw [he]
        by_cases hjp : j < pre.length
        · rw [List.getElem?_append_left hjp] at hz ⊢; exact hz
        · rw [List.getElem?_append_right (by omega)] at hz ⊢
          obtain ⟨i, hi⟩ : ∃ i, j - pre.length = i + 1 := ⟨j - pre.length - 1, by omega⟩
          rw [hi, List.getElem?_cons_succ] at hz ⊢
          exact hz
    · rw [if_neg hy, nI_1]
      have := ih (pre ++ [y]) fu (by simp at hf; omega) (by rw [he]; simp) (fun z hz => by
        rcases List.mem_append.mp hz with h | h
        · exact hp z h
        · rw [List.mem_singleton.mp h]; exact hy)
      simpa using this
/-- merging a list into a slot -/
theorem X8_merges_l {d k l : Nat} {fs : Flt} (hd : d + 1 < 12) : ∀ (xs : List Itm) (done : Nat) (M : Mem) (acc : List Itm) (fuel : Nat) (all : List Itm), xs.length < fuel → all.drop done = xs → done + xs.length = all.length → all.length ≤ 10 → M 173 (d + 1) = nI all.length → MIs M (d + 1) all → MLs M d acc → FLm M fs → fs.length ≤ 20 →
    ∃ M', FRm d M M' ∧ M' 163 25 = M 163 25 ∧ M' 163 26 = M 163 26 ∧ M' 179 = M 179 ∧
      match mrgL acc xs with
      | none => f_X8_merges_22 fuel M (nI k) (nI d) (nI l) (nI done) = some (0, M') ∧ FLm M' ((4, k) :: fs)
      | some js => f_X8_merges_22 fuel M (nI k) (nI d) (nI l) (nI done) = some (1, M') ∧ MLs M' d js ∧ M' 171 = M 171 ∧ M' 172 = M 172 ∧ M' 174 d = (M 174 d ||| bitI l) ∧ M' 175 d = (M 175 d ||| M 175 (d + 1)) ∧ M' 163 = M 163 := by
  intro xs
  induction xs with
  | nil =>
    intro done M acc fuel all hf hdr hdl hal hn hit hacc hfl hl
    obtain ⟨fu, rfl⟩ : ∃ fu, fuel = fu + 1 := ⟨fuel - 1, by simp at hf; omega⟩
    simp at hdl
    rw [f_X8_merges_22, nI_1, rd_nI (by omega) (by decide), Option.bind_some, hn, hdl, if_pos (Int32.le_refl _)]
    unfold f_X8_merges_184
    rw [rd_nI (by omega) (by decide), Option.bind_some, wra_nI (by omega) (by decide), Option.bind_some, rd_nI (by omega) (by decide), Option.bind_some, nI_1, rd_nI (by omega) (by decide), Option.bind_some, wra_nI (by omega) (by decide), Option.bind_some, bret_1]
    have hw : FRd d M (wr (wr M 174 d (M 174 d ||| bitI l)) 175 d (M 175 d ||| M 175 (d + 1))) := (FRd.w1 (by decide) (by decide)).tr (FRd.w1 (by decide) (by decide))
    rw [wr_ne (show 175 ≠ 174 by decide)]
    refine ⟨_, hw.m, by rw [hw.1 163 (by decide)], by rw [hw.1 163 (by decide)], hw.1 179 (by decide), rfl, ⟨?_, hacc.2.1, fun j x hx => ?_⟩, ?_, ?_, ?_, ?_, hw.1 163 (by decide)⟩
    · rw [wr_ne (by decide), wr_ne (by decide)]; exact hacc.1
    · rw [wr_ne (by decide), wr_ne (by decide), wr_ne (by decide), wr_ne (by decide), wr_ne (by decide), wr_ne (by decide)]; exact hacc.2.2 j x hx
    · rw [wr_ne (by decide), wr_ne (by decide)]
    · rw [wr_ne (by decide), wr_ne (by decide)]
    · simp [wr_ap]
    · simp [wr_ap]
  | cons x xs ih =>
    intro done M acc fuel all hf hdr hdl hal hn hit hacc hfl hl
    obtain ⟨fu, rfl⟩ : ∃ fu, fuel = fu + 1 := ⟨fuel - 1, by simp at hf; omega⟩
    simp only [List.length_cons] at hdl hf
    have hget : all[done]? = some x := by
      have : (all.drop done)[0]? = some x := by rw [hdr]; rfl
      rw [List.getElem?_drop] at this
      simpa using this
    rw [f_X8_merges_22, nI_1, rd_nI (by omega) (by decide), Option.bind_some, hn, if_neg (nI_ge (by omega) (by omega)), ten_at]
    rcases X8_merge1 (k22 := f_X8_merges_22 fu) (k := k) (l := l) (i := done) hd (show 10 * (d + 1) + done < 120 by omega) (by omega) (hit done x hget) hacc with ⟨e1, e2⟩ | ⟨js, M1, e1, e2, e3, e4, e5, e6, e7, e8⟩
    · have em : mrgL acc (x :: xs) = none := by simp only [mrgL, e1]
      have e2' : f_X8_merges_49 (f_X8_merges_22 fu) 1000 M (nI k) (nI d) (nI l) (nI done) (nI (10 * (d + 1) + done)) 0 = _ := e2
      rw [em, e2']
      obtain ⟨M', a1, a2, a3, a4⟩ := X8_fails (code := 4) (k := k) hfl hl
      refine ⟨M', ⟨fun i hi => a3 i (by omega) (by omega) (by omega), fun j h1 _ _ => a4 j h1, fun i j _ _ _ => by rw [a3 i (by omega) (by omega) (by omega)], fun i j _ _ _ => by rw [a3 i (by omega) (by omega) (by omega)]⟩, a4 25 (by decide), a4 26 (by decide), a3 179 (by decide) (by decide) (by decide), by rw [a1]; rfl, a2⟩
    · have em : mrgL acc (x :: xs) = mrgL js xs := by simp only [mrgL, e1]
      have e2' : f_X8_merges_49 (f_X8_merges_22 fu) 1000 M (nI k) (nI d) (nI l) (nI done) (nI (10 * (d + 1) + done)) 0 = _ := e2
      rw [em, e2']
      have m163 := e3.1 163 (by decide)
      obtain ⟨M', b1, b2, b3, b4, b5⟩ := ih (done + 1) M1 js fu all (by omega) (by rw [← List.drop_drop, hdr]; rfl) (by omega) hal (by rw [e3.2.1 173 _ (by decide) (by decide) (by omega)]; exact hn) (fun j y hy => by
        have hj := (List.getElem?_eq_some_iff.mp hy).1
        rw [e3.2.2 176 _ (by decide) (by decide) (Or.inr (by omega)), e3.2.2 177 _ (by decide) (by decide) (Or.inr (by omega)), e3.2.2 178 _ (by decide) (by decide) (Or.inr (by omega))]
        exact hit j y hy) e4 ⟨by rw [m163]; exact hfl.1, fun i f hf => by rw [e3.1 180 (by decide), e3.1 181 (by decide)]; exact hfl.2 i f hf⟩ hl
      refine ⟨M', e3.m.tr b1, by rw [b2, m163], by rw [b3, m163], b4.trans (e3.1 179 (by decide)), ?_⟩
      rcases hz : mrgL js xs with _ | zs
      · rw [hz] at b5
        exact b5
      · rw [hz] at b5
        obtain ⟨c1, c2, c3, c4, c5, c6, c7⟩ := b5
        exact ⟨c1, c2, c3.trans e5, c4.trans e6, by rw [c5, e7], by rw [c6, e8], c7.trans m163⟩
