theorem two_t : ∀ i, i < 40 → rmI (nI i) 2 = some (nI (i % 2)) ∧ dvI (nI i) 2 = some (nI (i / 2)) := by decide +kernel
theorem m2_t : ∀ i, i < 40 → (nI (i % 2) = 0 ↔ i % 2 = 0) := by decide +kernel
def WAS (M : Mem) (k : Nat) (r : Rs) : Prop := M 182 (110 * k) = stS r ∧ M 182 (110 * k + 1) = nI (encS r).length ∧ ∀ i v, (encS r)[i]? = some v → M 182 (110 * k + 2 + i) = v
/-- the values of a key as the reference has them after resolving -/
def MO (M : Mem) (r : Int32) : Rs → Prop
  | .inl fs => r = 0 ∧ FLm M fs ∧ fs.length ≤ 9
  | .inr (v, _, _) => r = 1 ∧ MV M 0 v
theorem MO.of {M : Mem} {σ : Sc} {k : Nat} {r : Int32} (h : MOT M σ k r) : MO M r (askS σ k).1 := by
  have h1 := h.1
  rcases hr : (askS σ k).1 with fs | ⟨v, s, d⟩
  · rw [hr] at h1; exact h1
  · rw [hr] at h1; exact ⟨h1.1, h1.2.1⟩
theorem MO.len {M : Mem} {x : Int32} {r : Rs} (h : MO M x r) : (encS r).length ≤ 20 := by
  rcases r with fs | ⟨v | is, s, d⟩
  · have := h.2.2
    show (fs.map (·.1)).length ≤ 20
    rw [List.length_map]; omega
  · show [v].length ≤ 20
    simp
  · have := h.2.2.2.1
    show (encL is).length ≤ 20
    rw [encL_len]; omega
theorem MO.fr {M M' : Mem} {x : Int32} {r : Rs} (h : MO M x r) (hM : ∀ i, i ≠ 182 → M' i = M i) : MO M' x r := by
  rcases r with fs | ⟨v | is, s, d⟩
  · refine ⟨h.1, ?_, h.2.2⟩
    have := h.2.1
    unfold FLm at *
    rw [hM 163 (by decide), hM 180 (by decide), hM 181 (by decide)]; exact this
  · exact ⟨h.1, by rw [hM 171 (by decide)]; exact h.2.1, by rw [hM 172 (by decide)]; exact h.2.2⟩
  · obtain ⟨a, b, c, d, e⟩ := h
    exact ⟨a, by rw [hM 171 (by decide)]; exact b, by rw [hM 173 (by decide)]; exact c, d, fun j y hy => by rw [hM 176 (by decide), hM 177 (by decide), hM 178 (by decide)]; exact e j y hy⟩
theorem X8_tells_l {k : Nat} (hk : k < 8) {x : Int32} {r : Rs} : ∀ (rest : List Int32) (i : Nat) (M : Mem) (fuel : Nat), rest.length < fuel → (encS r).drop i = rest → i + rest.length = (encS r).length → MO M x r → M 182 (110 * k + 1) = nI (encS r).length →
    ∃ M', f_X8_tells_75 fuel M (nI (110 * k)) x (nI i) = some M' ∧ (∀ a, a ≠ 182 → M' a = M a) ∧ (∀ j, (j < 110 * k + 2 + i ∨ 110 * k + 2 + (encS r).length ≤ j) → M' 182 j = M 182 j) ∧ ∀ j v, i ≤ j → (encS r)[j]? = some v → M' 182 (110 * k + 2 + j) = v := by
  intro rest
  induction rest with
  | nil =>
    intro i M fuel hf hd hi hm h1
    obtain ⟨fu, rfl⟩ : ∃ fu, fuel = fu + 1 := ⟨fuel - 1, by simp at hf; omega⟩
    have hl := hm.len
    simp at hi
    rw [f_X8_tells_75, nI_1, rd_nI (by omega) (by decide), Option.bind_some, h1, hi, if_pos (Int32.le_refl _)]
    exact ⟨M, rfl, fun _ _ => rfl, fun _ _ => rfl, fun j v h2 h3 => by have := (List.getElem?_eq_some_iff.mp h3).1; omega⟩
  | cons v rest ih =>
    intro i M fuel hf hd hi hm h1
    obtain ⟨fu, rfl⟩ : ∃ fu, fuel = fu + 1 := ⟨fuel - 1, by simp at hf; omega⟩
    have hl := hm.len
    simp only [List.length_cons] at hf hi
    have hget : (encS r)[i]? = some v := by
      have : ((encS r).drop i)[0]? = some v := by rw [hd]; rfl
      rw [List.getElem?_drop] at this
      simpa using this
    have a2 : nI (110 * k) + 2 + nI i = nI (110 * k + 2 + i) := by rw [show (2 : Int32) = nI 2 from rfl, nI_add, nI_add]
    obtain ⟨M', f1, f2, f3, f4⟩ := ih (i + 1) (wr M 182 (110 * k + 2 + i) v) fu (by omega) (by rw [← List.drop_drop, hd]; rfl) (by omega) (hm.fr (fun a ha => wr_ne ha)) (by rw [wr_ap, if_neg (by omega)]; exact h1)
    have fin : ∃ M', f_X8_tells_75 fu (wr M 182 (110 * k + 2 + i) v) (nI (110 * k)) x (nI i + 1) = some M' ∧ (∀ a, a ≠ 182 → M' a = M a) ∧ (∀ j, (j < 110 * k + 2 + i ∨ 110 * k + 2 + (encS r).length ≤ j) → M' 182 j = M 182 j) ∧ ∀ j v, i ≤ j → (encS r)[j]? = some v → M' 182 (110 * k + 2 + j) = v := by
      rw [nI_1]
      refine ⟨M', f1, fun a ha => (f2 a ha).trans (wr_ne ha), fun j hj => ?_, fun j w hj hw => ?_⟩
      · rw [f3 j (by omega), wr_ap, if_neg (by omega)]
      · by_cases hji : j = i
        · subst hji
          rw [hget] at hw
          cases hw
          rw [f3 _ (by omega), wr_ap, if_pos ⟨rfl, rfl⟩]
        · exact f4 j w (by omega) hw
    have h0 : ∀ q : Nat → Int32, rd 12 q 0 = some (q 0) := fun q => rd0 (by decide) (by decide) q
    rw [f_X8_tells_75, nI_1, rd_nI (by omega) (by decide), Option.bind_some, h1, if_neg (nI_ge (by omega) (by omega)), a2]
    rcases r with fs | ⟨n | is, s, d⟩
    · obtain ⟨m1, m2, m3⟩ := hm
      obtain ⟨f, hf1, hf2⟩ := map_get (show (fs.map (·.1))[i]? = some v from hget)
      subst m1
      rw [if_neg (by decide), rd_nI (by omega) (by decide), Option.bind_some, (m2.2 i f hf1).1, ← hf2, wra_nI (by omega) (by decide), Option.bind_some]
      exact fin
    · obtain ⟨m1, m2, m3⟩ := hm
      have hv : v = n := by
        have : ([n] : List Int32)[i]? = some v := hget
        have hi1 := (List.getElem?_eq_some_iff.mp this).1
        have : i = 0 := by simp at hi1; omega
        subst this
        have h3 : ([n] : List Int32)[0]? = some v := hget
        simp at h3
        exact h3.symm
      subst m1
      subst hv
      rw [if_pos (by decide), h0, Option.bind_some, m2, if_neg (by decide), h0, Option.bind_some, m3, wra_nI (by omega) (by decide), Option.bind_some]
      exact fin
    · obtain ⟨m1, m2, m3, m4, m5⟩ := hm
      obtain ⟨t1, t2⟩ := two_t i (by omega)
      subst m1
      rw [if_pos (by decide), h0, Option.bind_some, m2, if_pos (by decide), t1, Option.bind_some]
      simp only [m2_t i (by omega)]
      by_cases hpar : i % 2 = 0
      · have hi2 : i = 2 * (i / 2) := by omega
        have hg2 : (encL is)[2 * (i / 2)]? = some v := by rw [← hi2]; exact hget
        rw [(encL_get is (i / 2)).1] at hg2
        rcases hx : is[i / 2]? with _ | y
        · rw [hx] at hg2; cases hg2
        · rw [hx] at hg2
          cases hg2
          have hg := (m5 _ y hx).1
          simp only [Nat.mul_zero, Nat.zero_add] at hg
          rw [if_neg (fun q => q hpar), t2, Option.bind_some, rd_nI (by omega) (by decide), Option.bind_some, hg, wra_nI (by omega) (by decide), Option.bind_some]
          exact fin
      · have hi2 : i = 2 * (i / 2) + 1 := by omega
        have hg2 : (encL is)[2 * (i / 2) + 1]? = some v := by rw [← hi2]; exact hget
        rw [(encL_get is (i / 2)).2] at hg2
        rcases hx : is[i / 2]? with _ | y
        · rw [hx] at hg2; cases hg2
        · rw [hx] at hg2
          cases hg2
          have hg := (m5 _ y hx).2.1
          simp only [Nat.mul_zero, Nat.zero_add] at hg
          rw [if_pos hpar, t2, Option.bind_some, rd_nI (by omega) (by decide), Option.bind_some, hg, wra_nI (by omega) (by decide), Option.bind_some]
          exact fin
