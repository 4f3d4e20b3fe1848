theorem bind_eta {α β : Type} (x : Option (α × β)) : Option.bind x (fun z => some (z.1, z.2)) = x := by cases x <;> rfl
theorem X1_takeSource {M : Mem} {o nx l : Nat} (h : nx ≠ o) : f_X1_takeSource M o (nI l) nx = some (wr (wr M o 11 (M o 11 ||| bitI l)) o 12 (M o 12 ||| (bitI l ||| M nx 12))) := by
  unfold f_X1_takeSource
  rw [wrf_eq, Option.bind_some, wrf_eq, Option.bind_some, wr_ap, if_neg (by omega), wr_ap, if_neg (by omega)]
theorem FRo.w {o j : Nat} {M : Mem} {x : Int32} (h8 : j ≠ 8) (h9 : j ≠ 9) (h5 : j ≠ 5) : FRo o M (wr M o j x) := ⟨fun i a _ _ _ => wr_ne a, by rw [wr_ap, if_neg (by omega)], by rw [wr_ap, if_neg (by omega)], by rw [wr_ap, if_neg (by omega)]⟩
theorem man_t : ∀ m, m < 5 → (nI m = 2 ↔ m = 2) ∧ (nI m = 3 ↔ m = 3) ∧ (nI m = 4 ↔ m = 4) ∧ (nI m = 0 ↔ m = 0) ∧ (nI m = 1 ↔ m = 1) := by decide +kernel
def TKr (M M' : Mem) (o m k : Nat) (r : Int32) : Flt ⊕ Acc → Prop
  | .inl fs => fs = [(r, k)] ∧ r ≠ 0 ∧ FRo o M M'
  | .inr a => r = 0 ∧ FRo o M M' ∧ ACC M' o m (some a)
theorem X2_take {M : Mem} {d l k m : Nat} {acc : Option Acc} {v : Vl} {dm : Int32} (hd9 : d + 1 < 9) (hl : l < 6) (hm : m < 5) (ha : ACC M (34 + 7 * d) m acc) (hv : OVm M (34 + 7 * (d + 1)) v) (hdm : M (34 + 7 * (d + 1)) 12 = dm) (hsrc : AllSrc l v) :
    ∃ r M', f_X2_take M (nI m) (nI l) (nI d) = some (r, M') ∧ TKr M M' (34 + 7 * d) m k r (tkS m l k acc v (dm ||| bitI l)) := by
  have hln : ln (34 + 7 * d + 3) = 10 := by
    have : ∀ d, d < 9 → ln (34 + 7 * d + 3) = 10 := by decide +kernel
    exact this d (by omega)
  unfold f_X2_take
  rw [rdO_nI (by omega) (by decide), Option.bind_some, nI_1, rdO_nI (by omega) (by decide), Option.bind_some]
  obtain ⟨t2, t3, t4, -, -⟩ := man_t m hm
  simp only [t2, t3, t4]
  generalize ho : 34 + 7 * d = o at *
  generalize hnx : 34 + 7 * (d + 1) = nx at *
  have hne : nx + 2 < o ∨ o + 3 < nx := by omega
  have hor : bitI l ||| dm = dm ||| bitI l := Int32.or_comm _ _
  have hnz : bitI l ≠ 0 := t_ne0 l (by omega)
  unfold tkS
  by_cases m2 : m = 2
  · rw [if_pos m2, if_pos m2]
    unfold f_X1_takeToTotal
    match v, hv with
    | .inr is, hv =>
      rw [hv.1, if_neg (by decide)]
      exact ⟨3, M, rfl, rfl, by decide, FRo.rf⟩
    | .inl x, ⟨h0, h1⟩ =>
      rw [h0, if_pos rfl, X1_takeSource (by omega), Option.bind_some, bind_eta, bind_eta]
      unfold f_X1_increase
      generalize hA : wr (wr M o 11 (M o 11 ||| bitI l)) o 12 (M o 12 ||| (bitI l ||| M nx 12)) = A
      have a0' : A o 0 = M o 0 := by rw [← hA]; simp [wr_ap]
      have a1' : A o 1 = M o 1 := by rw [← hA]; simp [wr_ap]
      have a11' : A o 11 = M o 11 ||| bitI l := by rw [← hA]; simp [wr_ap]
      have a12' : A o 12 = M o 12 ||| (dm ||| bitI l) := by rw [← hA, ← hor, ← hdm]; simp [wr_ap]
      have an' : A nx 1 = x := by rw [← hA, wr_ne (show nx ≠ o by omega), wr_ne (show nx ≠ o by omega), h1]
      have hfr : FRo o M A := by rw [← hA]; exact (FRo.w (by decide) (by decide) (by decide)).tr (FRo.w (by decide) (by decide) (by decide))
      have key : ∀ (y s d0 : Int32), M o 0 = 0 → M o 1 = y → M o 11 = s → M o 12 = d0 →
          ∃ r M', (if A o 0 = 0 then Option.bind (wrf A o 1 (A o 1 + A nx 1)) fun M2 => if (M2 o 1) ≤ 999 then some (0, M2) else some (4, M2) else some (3, A)) = some (r, M') ∧ TKr M M' o m k r (if y + x ≤ 999 then .inr (.inl (y + x), s ||| bitI l, d0 ||| (dm ||| bitI l)) else .inl [(4, k)]) := by
        intro y s d0 e0 e1 e2 e3
        have hw1 : wr A o 1 (y + x) o 1 = y + x := by rw [wr_ap]; simp
        rw [a0', e0, if_pos rfl, wrf_eq, Option.bind_some, a1', e1, an', hw1]
        have hfr2 : FRo o M (wr A o 1 (y + x)) := hfr.tr (FRo.w (by decide) (by decide) (by decide))
        by_cases hle : y + x ≤ 999
        · rw [if_pos hle, if_pos hle]
          refine ⟨0, _, rfl, rfl, hfr2, ⟨?_, ?_⟩, ?_, ?_, fun h3 => by omega, fun _ => ⟨_, rfl⟩, fun h4 => by omega⟩
          all_goals simp [wr_ap, e0, a0', a11', a12', e2, e3]
        · rw [if_neg hle, if_neg hle]
          exact ⟨4, _, rfl, rfl, by decide, hfr2⟩
      match acc, ha with
      | none, ⟨a0, a1, a2, a3⟩ =>
        have := key 0 0 0 a0 a1 a2 a3
        rw [Int32.zero_add, Int32.zero_or, Int32.zero_or] at this
        exact this
      | some (.inl y, s, d0), ⟨⟨a0, a1⟩, a2, a3, _⟩ => exact key y s d0 a0 a1 a2 a3
      | some (.inr is, s, d0), ⟨_, _, _, _, a5, _⟩ => exact absurd (a5 (Or.inl m2)) (by rintro ⟨n, hn⟩; cases hn)
  · rw [if_neg m2, if_neg m2]
    by_cases m3 : m = 3
    · rw [if_pos m3, if_pos m3]
      unfold f_X1_takeGreater
      match v, hv with
      | .inr is, hv =>
        rw [hv.1, if_neg (by decide)]
        exact ⟨3, M, rfl, rfl, by decide, FRo.rf⟩
      | .inl x, ⟨h0, h1⟩ =>
        rw [h0, if_pos rfl]
        have alone : ∃ r M', Option.bind (f_X1_takeGreater_27 M o (nI l) nx) (fun z6 => some (z6.1, z6.2)) = some (r, M') ∧ TKr M M' o m k r (.inr (.inl x, bitI l, dm ||| bitI l)) := by
          unfold f_X1_takeGreater_27 f_X1_takeGreater_32
          rw [if_neg (by decide)]
          obtain ⟨M', b1, b2, b3, b4, b5⟩ := X1_takeAlone (v := .inl x) hne hl hln ⟨h0, h1⟩ hdm trivial
          rw [b1]
          refine ⟨0, M', rfl, rfl, b2, b3, b4, by rw [b5, hor], fun _ => hnz, fun _ => ⟨_, rfl⟩, fun h4 => by omega⟩
        match acc, ha with
        | none, ⟨a0, a1, a2, a3⟩ =>
          rw [a2, if_pos rfl]
          exact alone
        | some (.inl y, s, d0), ⟨⟨a0, a1⟩, a2, a3, a4, a5, a6⟩ =>
          rw [a2, if_neg (a4 m3), h1, a1]
          by_cases hle : x ≤ y
          · rw [if_pos hle]
            unfold f_X1_takeGreater_32
            rw [if_pos rfl]
            simp only [if_pos hle]
            exact ⟨0, M, rfl, rfl, FRo.rf, ⟨a0, a1⟩, a2, a3, a4, a5, a6⟩
          · rw [if_neg hle]
            simp only [if_neg hle]
            exact alone
        | some (.inr is, s, d0), ⟨_, _, _, _, a5, _⟩ => exact absurd (a5 (Or.inr m3)) (by rintro ⟨n, hn⟩; cases hn)
    · rw [if_neg m3, if_neg m3]
      by_cases m4 : m = 4
      · rw [if_pos m4, if_pos m4]
        unfold f_X1_takeItems
        match v, hv, hsrc with
        | .inl x, hv, _ =>
          rw [hv.1, if_neg (by decide)]
          exact ⟨3, M, rfl, rfl, by decide, FRo.rf⟩
        | .inr xs, ⟨h0, h1, h2, h3⟩, hs =>
          rw [h0, if_pos rfl, wrf_eq, Option.bind_some, X1_takeSource (by omega), Option.bind_some]
          have key : ∀ (ys : List Itm) (s d0 : Int32), M o 1 = nI ys.length → ys.length ≤ 10 → IR M o ys → M o 11 = s → M o 12 = d0 →
              ∃ r M', Option.bind (f_X1_takeItems_23 1000 (wr (wr (wr M o 0 1) o 11 (wr M o 0 1 o 11 ||| bitI l)) o 12 (wr M o 0 1 o 12 ||| (bitI l ||| wr M o 0 1 nx 12))) o (nI l) nx 0) (fun z8 => some (z8.1, z8.2)) = some (r, M') ∧ TKr M M' o m k r (match mrgL ys xs with
                | none => .inl [(4, k)]
                | some zs => .inr (.inr zs, s ||| bitI l, d0 ||| (dm ||| bitI l))) := by
            intro ys s d0 e1 e2 e3 e4 e5
            rw [wr_ap, if_neg (by omega), wr_ap, if_neg (by omega), wr_ne (show nx ≠ o by omega), hdm, hor, e4, e5]
            generalize hA : wr (wr (wr M o 0 1) o 11 (s ||| bitI l)) o 12 (d0 ||| (dm ||| bitI l)) = A
            have hfr : FRo o M A := by rw [← hA]; exact ((FRo.w (by decide) (by decide) (by decide)).tr (FRo.w (by decide) (by decide) (by decide))).tr (FRo.w (by decide) (by decide) (by decide))
            have ar : ∀ i, i ≠ o → A i = M i := fun i hi => by rw [← hA]; simp only [wr_ne hi]
            have a1 : A o 1 = M o 1 := by rw [← hA]; simp [wr_ap]
            have a0 : A o 0 = 1 := by rw [← hA]; simp [wr_ap]
            have a11 : A o 11 = s ||| bitI l := by rw [← hA]; simp [wr_ap]
            have a12 : A o 12 = d0 ||| (dm ||| bitI l) := by rw [← hA]; simp [wr_ap]
            obtain ⟨M', b1, b2, b3, b4, b5, b6⟩ := X1_takeItems_l (l := l) hne hl xs 0 A ys 1000 xs (by omega) rfl (by omega) h2 hs (by rw [ar nx (by omega)]; exact h1) (fun j x hx => by rw [ar _ (by omega), ar _ (by omega)]; exact h3 j x hx) (by rw [a1]; exact e1) e2 (fun j x hx => by rw [ar _ (by omega), ar _ (by omega), ar _ (by omega)]; exact e3 j x hx)
            have b1' : f_X1_takeItems_23 1000 A o (nI l) nx 0 = _ := b1
            rw [b1', Option.bind_some]
            rcases hz : mrgL ys xs with _ | zs
            · refine ⟨4, M', by simp [hz], rfl, by decide, hfr.tr b2⟩
            · obtain ⟨c1, c2, c3⟩ := b6 zs hz
              refine ⟨0, M', by simp [hz], rfl, hfr.tr b2, ⟨b3.trans a0, c1, c2, c3⟩, b4.trans a11, b5.trans a12, fun h => by omega, fun h => by omega, fun _ => ⟨_, rfl⟩⟩
          match acc, ha with
          | none, ⟨a0, a1, a2, a3⟩ =>
            have := key [] 0 0 a1 (by decide) (fun j x hx => by simp at hx) a2 a3
            rw [Int32.zero_or, Int32.zero_or] at this
            exact this
          | some (.inr ys, s, d0), ⟨⟨a0, a1, a1b, a1c⟩, a2, a3, _⟩ => exact key ys s d0 a1 a1b a1c a2 a3
          | some (.inl y, s, d0), ⟨_, _, _, _, _, a6⟩ => exact absurd (a6 m4) (by rintro ⟨n, hn⟩; cases hn)
      · rw [if_neg m4, if_neg m4]
        obtain ⟨M', b1, b2, b3, b4, b5⟩ := X1_takeAlone hne hl hln hv hdm hsrc
        rw [b1]
        exact ⟨0, M', rfl, rfl, b2, b3, b4, by rw [b5, hor], fun h => by omega, fun h => by omega, fun h => by omega⟩
/-- the faults told in the first level -/
def FLT (M : Mem) (fs : Flt) : Prop := M 34 0 = 2 ∧ M 34 5 = nI fs.length ∧ ∀ i f, fs[i]? = some f → M 38 i = f.1 ∧ M 39 i = nI f.2
def PTH (M : Mem) (p : List Nat) : Prop := ∀ i x, p[i]? = some x → M 32 i = nI x
theorem X2_fail_l {code : Int32} {p : List Nat} {k : Nat} : ∀ (q r : List Nat) (M : Mem) (fuel : Nat), q ++ r = p → r.length < fuel → p.length < 9 → PTH M (p ++ [k]) → (∀ i x, q[i]? = some x → M 38 i = 5 ∧ M 39 i = nI x) →
    ∃ M', f_X2_fail_10 fuel M code (nI p.length) 34 (nI q.length) = some (0, M') ∧ FLT M' (p.map (fun x => (5, x)) ++ [(code, k)]) ∧ (∀ i, i ≠ 34 → i ≠ 38 → i ≠ 39 → M' i = M i) ∧ ∀ j, j ≠ 0 → j ≠ 5 → M' 34 j = M 34 j := by
  intro q r
  induction r generalizing q with
  | nil =>
    intro M fuel hqr hf hp hpt hq
    obtain ⟨fu, rfl⟩ : ∃ fu, fuel = fu + 1 := ⟨fuel - 1, by simp at hf; omega⟩
    rw [List.append_nil] at hqr
    subst hqr
    rw [f_X2_fail_10, if_pos (Int32.le_refl _)]
    unfold f_X2_fail_44
    rw [wra_nI hp (by decide), Option.bind_some, rd_nI hp (by decide), Option.bind_some, wra_nI hp (by decide), Option.bind_some, wrf_eq, Option.bind_some, wrf_eq, Option.bind_some, wr_ne (show 32 ≠ 34 + 4 by decide), hpt q.length k (by simp), nI_1, bret_0]
    refine ⟨_, rfl, ⟨?_, ?_, fun i f hi => ?_⟩, fun i h1 h2 h3 => ?_, fun j h1 h2 => ?_⟩
    · simp [wr_ap]
    · simp [wr_ap]
    · simp only [wr_ne (show 38 ≠ 34 by decide), wr_ne (show 39 ≠ 34 by decide), wr_ne (show 38 ≠ 34 + 5 by decide), wr_ap]
      by_cases hi2 : i < q.length
      · rw [List.getElem?_append_left (by simpa using hi2), List.getElem?_map] at hi
        rcases hx : q[i]? with _ | x
        · rw [hx] at hi; cases hi
        · rw [hx] at hi
          cases hi
          obtain ⟨g1, g2⟩ := hq i x hx
          have hne : ¬ i = q.length := by omega
          simp only [hne, and_false, if_false]
          exact ⟨g1, g2⟩
      · rw [List.getElem?_append_right (by simpa using hi2)] at hi
        simp only [List.length_map] at hi
        have h0 : i - q.length = 0 := by
          have := (List.getElem?_eq_some_iff.mp hi).1
          simp at this
          omega
        have hi3 : i = q.length := by omega
        rw [h0] at hi
        simp at hi
        subst hi
        rw [hi3]
        simp
    · rw [wr_ne h1, wr_ne h1, wr_ne h3, wr_ne h2]
    · simp [wr_ap, h1, h2]
  | cons x r ih =>
    intro M fuel hqr hf hp hpt hq
    obtain ⟨fu, rfl⟩ : ∃ fu, fuel = fu + 1 := ⟨fuel - 1, by simp at hf; omega⟩
    have hlen : p.length = q.length + r.length + 1 := by rw [← hqr]; simp; omega
    have hx : M 32 q.length = nI x := hpt q.length x (by rw [← hqr]; simp)
    rw [f_X2_fail_10, if_neg (nI_ge (by omega) (by omega)), wra_nI (by omega) (by decide), Option.bind_some, rd_nI (by omega) (by decide), Option.bind_some, wra_nI (by omega) (by decide), Option.bind_some, wr_ne (show 32 ≠ 34 + 4 by decide), hx, nI_1]
    obtain ⟨M', e1, e2, e3, e4⟩ := ih (q ++ [x]) (wr (wr M (34 + 4) q.length 5) (34 + 5) q.length (nI x)) fu (by rw [← hqr]; simp) (by simp at hf; omega) hp (fun i y hy => by rw [wr_ne (show 32 ≠ 34 + 5 by decide), wr_ne (show 32 ≠ 34 + 4 by decide)]; exact hpt i y hy) (fun i y hy => by
      simp only [wr_ne (show 38 ≠ 34 + 5 by decide), wr_ne (show 39 ≠ 34 + 4 by decide), wr_ap]
      by_cases hi : i < q.length
      · rw [List.getElem?_append_left hi] at hy
        have hne : ¬ i = q.length := by omega
        simp only [hne, and_false, if_false]
        exact hq i y hy
      · rw [List.getElem?_append_right (by omega)] at hy
        have h0 : i - q.length = 0 := by
          have := (List.getElem?_eq_some_iff.mp hy).1
          simp at this
          omega
        have hi3 : i = q.length := by omega
        rw [h0] at hy
        simp at hy
        subst hy
        rw [hi3]
        simp)
    refine ⟨M', by simpa using e1, e2, fun i h1 h2 h3 => ?_, fun j h1 h2 => ?_⟩
    · rw [e3 i h1 h2 h3, wr_ne h3, wr_ne h2]
    · rw [e4 j h1 h2, wr_ne (by decide), wr_ne (by decide)]
theorem X2_fail {M : Mem} {code : Int32} {p : List Nat} {k : Nat} (hp : p.length < 9) (hpt : PTH M (p ++ [k])) :
    ∃ M', f_X2_fail M code (nI p.length) = some (0, M') ∧ FLT M' (p.map (fun x => (5, x)) ++ [(code, k)]) ∧ (∀ i, i ≠ 34 → i ≠ 38 → i ≠ 39 → M' i = M i) ∧ ∀ j, j ≠ 0 → j ≠ 5 → M' 34 j = M 34 j := by
  unfold f_X2_fail
  have : rdO 9 34 0 = some 34 := by decide
  rw [this, Option.bind_some]
  exact X2_fail_l [] p M 1000 rfl (by omega) hp hpt (fun i x hx => by simp at hx)
