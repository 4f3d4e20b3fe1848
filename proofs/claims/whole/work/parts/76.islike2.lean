theorem enc_len {M : Mem} {σ : Sc} {k : Nat} (hw : WFs σ) (hk : k < 8) (h : SMr (M 164) σ) : (encS (askS σ k).1).length ≤ 20 := by
  obtain ⟨x, M1, e1, e2, e3⟩ := X8_resolves hw hk h
  exact (MO.of e3).len
theorem X8_isLike {M : Mem} {σ : Sc} {k : Nat} {r : Rs} (hw : WFs σ) (hk : k < 8) (h : SMr (M 164) σ) (hW : WAS M k r) (hr20 : (encS r).length ≤ 20) : ∃ M', f_X8_isLike M (nI k) = some (if likeS r (askS σ k).1 = true then 1 else 0, M') ∧ FRm 0 M M' := by
  obtain ⟨x, M1, e1, e2, e3⟩ := X8_resolves hw hk h
  have hm := MO.of e3
  have hl := hm.len
  have h182 : M1 182 = M 182 := e2.1 182 (by omega)
  have hW1 : WAS M1 k r := by unfold WAS at *; rw [h182]; exact hW
  generalize hs : (askS σ k).1 = s at *
  refine ⟨M1, ?_, e2⟩
  have h0 : ∀ q : Nat → Int32, rd 12 q 0 = some (q 0) := fun q => rd0 (by decide) (by decide) q
  have t0 : f_X8_told M1 (nI k) 0 = some (M1 182 (110 * k), M1) := X8_told (i := 0) (by omega)
  have t1 : f_X8_told M1 (nI k) 1 = some (M1 182 (110 * k + 1), M1) := X8_told (i := 1) (by omega)
  have fin : stS r = stS s → f_X8_isLike_68 M1 (nI k) x (nI (encS s).length) (nI (encS r).length) = some (if likeS r s = true then 1 else 0, M1) := by
    intro hst
    unfold f_X8_isLike_68
    by_cases hle : (encS r).length = (encS s).length
    · rw [if_pos (by rw [hle])]
      have := X8_isLike_l hk hm hW1 hle (encS r) (encS s) 0 1000 (by omega) rfl rfl (by omega) (by omega)
      have e0 : f_X8_isLike_75 1000 M1 (nI k) x 0 = _ := this
      rw [e0, likeS_enc]
      by_cases hee : encS r = encS s
      · simp [hst, hee]
      · simp [hee]
    · have hne : ¬ encS r = encS s := fun q => hle (by rw [q])
      rw [if_neg (fun q => hle ((nI_eq (by omega) (by omega)).mp q)), likeS_enc]
      simp [hne, bret_0]
  have main : f_X8_isLike_26 M1 (nI k) x (stS s) (stS r) = some (if likeS r s = true then 1 else 0, M1) := by
    unfold f_X8_isLike_26
    by_cases hst : stS r = stS s
    · rw [if_neg (fun q => q hst), t1, Option.bind_some]
      dsimp only
      rw [hW1.2.1]
      have hfin := fin hst
      rcases s with fs | ⟨n | is, s1, d⟩
      · obtain ⟨m1, m2, m3⟩ := hm
        subst m1
        rw [if_pos rfl, m2.1]
        simpa [encS] using hfin
      · obtain ⟨m1, m2, m3⟩ := hm
        subst m1
        rw [if_neg (by decide), h0, Option.bind_some, m2, if_pos (by decide)]
        exact hfin
      · obtain ⟨m1, m2, m3, m4, m5⟩ := hm
        subst m1
        rw [if_neg (by decide), h0, Option.bind_some, m2, if_neg (by decide), h0, Option.bind_some, m3, show (2 : Int32) = nI 2 from rfl, nI_mul]
        have he : (encS (.inr (.inr is, s1, d))).length = 2 * is.length := encL_len is
        rw [he] at hfin
        exact hfin
    · rw [if_pos hst, likeS_enc]
      simp [hst, bret_0]
  unfold f_X8_isLike
  rw [e1, Option.bind_some]
  dsimp only
  rw [t0, Option.bind_some]
  dsimp only
  rw [hW1.1]
  rcases s with fs | ⟨n | is, s1, d⟩
  · have m1 := hm.1
    subst m1
    rw [if_pos rfl]
    exact main
  · have m1 := hm.1
    rw [h0, Option.bind_some, hm.2.1]
    subst m1
    rw [if_neg (by decide)]
    exact main
  · have m1 := hm.1
    rw [h0, Option.bind_some, hm.2.1]
    subst m1
    rw [if_neg (by decide)]
    exact main
