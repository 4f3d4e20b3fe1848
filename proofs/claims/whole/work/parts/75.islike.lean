theorem X8_told {M : Mem} {k i : Nat} (h : 110 * k + i < 880) : f_X8_told M (nI k) (nI i) = some (M 182 (110 * k + i), M) := by
  unfold f_X8_told
  rw [m110, nI_add, rd_nI h (by decide), Option.bind_some]
theorem X8_isLike_l {k : Nat} (hk : k < 8) {M : Mem} {x : Int32} {r s : Rs} (hm : MO M x s) (hW : WAS M k r) (hlen : (encS r).length = (encS s).length) : ∀ (r1 r2 : List Int32) (i : Nat) (fuel : Nat), r1.length < fuel → (encS r).drop i = r1 → (encS s).drop i = r2 → i + r1.length = (encS r).length → i + r2.length = (encS r).length →
    f_X8_isLike_75 fuel M (nI k) x (nI i) = some (if r1 = r2 then 1 else 0, M) := by
  have hl := hm.len
  intro r1
  induction r1 with
  | nil =>
    intro r2 i fuel hf hd1 hd2 hi1 hi2
    obtain ⟨fu, rfl⟩ : ∃ fu, fuel = fu + 1 := ⟨fuel - 1, by simp at hf; omega⟩
    simp at hi1
    have h2 : r2 = [] := by
      apply List.length_eq_zero_iff.mp
      omega
    rw [f_X8_isLike_75, show (1 : Int32) = nI 1 from rfl, X8_told (by omega), Option.bind_some]
    dsimp only
    rw [hW.2.1, hi1, if_pos (Int32.le_refl _), h2, if_pos rfl]
    rfl
  | cons a r1 ih =>
    intro r2 i fuel hf hd1 hd2 hi1 hi2
    obtain ⟨fu, rfl⟩ : ∃ fu, fuel = fu + 1 := ⟨fuel - 1, by simp at hf; omega⟩
    simp only [List.length_cons] at hf hi1
    rcases r2 with _ | ⟨v, r2⟩
    · simp at hi2; omega
    · simp only [List.length_cons] at hi2
      have g1 : (encS r)[i]? = some a := by
        have : ((encS r).drop i)[0]? = some a := by rw [hd1]; rfl
        rw [List.getElem?_drop] at this
        simpa using this
      have hget : (encS s)[i]? = some v := by
        have : ((encS s).drop i)[0]? = some v := by rw [hd2]; rfl
        rw [List.getElem?_drop] at this
        simpa using this
      have fin : f_X8_isLike_141 (f_X8_isLike_75 fu) M (nI k) x (nI i) v = some (if a :: r1 = v :: r2 then 1 else 0, M) := by
        unfold f_X8_isLike_141
        rw [show (2 : Int32) = nI 2 from rfl, nI_add, X8_told (by omega), Option.bind_some]
        dsimp only
        rw [show 110 * k + (2 + i) = 110 * k + 2 + i by omega, hW.2.2 i a g1]
        by_cases hav : a = v
        · rw [if_pos hav, nI_1, ih r2 (i + 1) fu (by omega) (by rw [← List.drop_drop, hd1]; rfl) (by rw [← List.drop_drop, hd2]; rfl) (by omega) (by omega)]
          by_cases hr : r1 = r2
          · rw [if_pos hr, if_pos (by rw [hav, hr])]
          · rw [if_neg hr, if_neg (fun q => hr (List.cons.inj q).2)]
        · rw [if_neg hav, if_neg (fun q => hav (List.cons.inj q).1)]; rfl
      have h0 : ∀ q : Nat → Int32, rd 12 q 0 = some (q 0) := fun q => rd0 (by decide) (by decide) q
      have ht : f_X8_told M (nI k) 1 = some (M 182 (110 * k + 1), M) := X8_told (i := 1) (by omega)
      rw [f_X8_isLike_75, ht, Option.bind_some]
      dsimp only
      rw [hW.2.1, if_neg (nI_ge (by omega) (by omega))]
      rcases s with fs | ⟨n | is, s1, d⟩
      · obtain ⟨m1, m2, m3⟩ := hm
        obtain ⟨f, hf1, hf2⟩ := map_get (show (fs.map (·.1))[i]? = some v from hget)
        subst m1
        rw [if_neg (by decide), rd_nI (by omega) (by decide), Option.bind_some, (m2.2 i f hf1).1, ← hf2]
        exact fin
      · obtain ⟨m1, m2, m3⟩ := hm
        have hv : v = n := by
          have : ([n] : List Int32)[i]? = some v := hget
          have hi1 := (List.getElem?_eq_some_iff.mp this).1
          have : i = 0 := by simp at hi1; omega
          subst this
          have h3 : ([n] : List Int32)[0]? = some v := hget
          simp at h3
          exact h3.symm
        subst m1
        rw [if_pos (by decide), h0, Option.bind_some, m2, if_neg (by decide), h0, Option.bind_some, m3, ← hv]
        exact fin
      · obtain ⟨m1, m2, m3, m4, m5⟩ := hm
        obtain ⟨t1, t2⟩ := two_t i (by omega)
        subst m1
        rw [if_pos (by decide), h0, Option.bind_some, m2, if_pos (by decide), t1, Option.bind_some]
        simp only [m2_t i (by omega)]
        by_cases hpar : i % 2 = 0
        · have hi2' : i = 2 * (i / 2) := by omega
          have hg2 : (encL is)[2 * (i / 2)]? = some v := by rw [← hi2']; exact hget
          rw [(encL_get is (i / 2)).1] at hg2
          rcases hx : is[i / 2]? with _ | y
          · rw [hx] at hg2; cases hg2
          · rw [hx] at hg2
            have hyv : y.1 = v := by cases hg2; rfl
            have hg := (m5 _ y hx).1
            simp only [Nat.mul_zero, Nat.zero_add] at hg
            rw [if_neg (fun q => q hpar), t2, Option.bind_some, rd_nI (by omega) (by decide), Option.bind_some, hg, hyv]
            exact fin
        · have hi2' : i = 2 * (i / 2) + 1 := by omega
          have hg2 : (encL is)[2 * (i / 2) + 1]? = some v := by rw [← hi2']; exact hget
          rw [(encL_get is (i / 2)).2] at hg2
          rcases hx : is[i / 2]? with _ | y
          · rw [hx] at hg2; cases hg2
          · rw [hx] at hg2
            have hyv : y.2.1 = v := by cases hg2; rfl
            have hg := (m5 _ y hx).2.1
            simp only [Nat.mul_zero, Nat.zero_add] at hg
            rw [if_pos hpar, t2, Option.bind_some, rd_nI (by omega) (by decide), Option.bind_some, hg, hyv]
            exact fin
