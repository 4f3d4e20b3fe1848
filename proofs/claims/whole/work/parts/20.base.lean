/-! numbers and places -/
theorem nI_mul (a b : Nat) : nI a * nI b = nI (a * b) := (Int32.ofNat_mul a b).symm
theorem rd_nI {n i : Nat} {r : Nat → Int32} (h : i < n) (hn : n < 2 ^ 31) : rd n r (nI i) = some (r i) := by
  unfold rd
  rw [if_neg (nI_in h hn), nI_clamp (by omega)]
theorem wra_nI {n i a : Nat} {M : Mem} {x : Int32} (h : i < n) (hn : n < 2 ^ 31) : wra n M a (nI i) x = some (wr M a i x) := by
  unfold wra
  rw [if_neg (nI_in h hn), nI_clamp (by omega)]
theorem wrb_nI {n i a : Nat} {M : Mem} {x : Int32} (h : i < n) (hn : n < 2 ^ 31) (hx : x = 0 ∨ x = 1) : wrb n M a (nI i) x = some (wr M a i x) := by
  unfold wrb
  rw [if_pos hx, wra_nI h hn]
theorem rdO_nI {n i b : Nat} (h : i < n) (hn : n < 2 ^ 31) : rdO n b (nI i) = some (b + 7 * i) := by
  unfold rdO
  rw [if_neg (nI_in h hn), nI_clamp (by omega)]
theorem wr_ap (M : Mem) (i k : Nat) (x : Int32) (a b : Nat) : wr M i k x a b = if a = i ∧ b = k then x else M a b := by
  unfold wr rset upd
  by_cases h : a = i
  · subst h
    simp
  · simp [h]
theorem wr_ne {M : Mem} {i k : Nat} {x : Int32} {a : Nat} (h : a ≠ i) : wr M i k x a = M a := by
  unfold wr rset
  rw [if_neg h]
theorem rset_ap (M : Mem) (i : Nat) (r : Nat → Int32) (a b : Nat) : rset M i r a b = if a = i then r b else M a b := by
  unfold rset
  by_cases h : a = i <;> simp [h]
theorem rset_ne {M : Mem} {i : Nat} {r : Nat → Int32} {a : Nat} (h : a ≠ i) : rset M i r a = M a := by
  unfold rset
  rw [if_neg h]
theorem wrf_eq (M : Mem) (i k : Nat) (x : Int32) : wrf M i k x = some (wr M i k x) := rfl
theorem wrz_eq {M : Mem} {i k : Nat} {x : Int32} (h : x = 0 ∨ x = 1) : wrz M i k x = some (wr M i k x) := if_pos h
theorem bret_0 (M : Mem) : bret 0 M = some (0, M) := rfl
theorem bret_1 (M : Mem) : bret 1 M = some (1, M) := rfl
theorem bret_eq {x : Int32} {M : Mem} (h : x = 0 ∨ x = 1) : bret x M = some (x, M) := if_pos h
theorem nI_pred1 {n : Nat} (h : 0 < n) : nI n - 1 = nI (n - 1) := by
  obtain ⟨m, rfl⟩ : ∃ m, n = m + 1 := ⟨n - 1, by omega⟩
  rw [nI_pred, Nat.add_sub_cancel]
theorem nI_m1 {n : Nat} (h : 0 < n) : nI n + (-1) = nI (n - 1) := by
  rw [← nI_pred1 h]
  exact (Int32.sub_eq_add_neg _ _).symm
theorem nI_sub {a b : Nat} (h : b ≤ a) : nI a - nI b = nI (a - b) := by
  obtain ⟨m, rfl⟩ : ∃ m, a = b + m := ⟨a - b, by omega⟩
  rw [← nI_add, Nat.add_sub_cancel_left]
  exact Int32.sub_eq_iff_eq_add.mpr (Int32.add_comm _ _)
theorem acp_nI {na nb a b n sp : Nat} {M : Mem} (h1 : sp + n ≤ na) (h2 : n ≤ nb) (h3 : na < 2 ^ 31) (h4 : nb < 2 ^ 31) : acp na nb M a (nI sp) b 0 (nI n) = some (rset M b (va_cpy (M a) (M b) sp 0 n)) := by
  unfold acp
  have z0 : (0 : Int32).toNatClampNeg = 0 := by decide
  rw [nI_clamp (by omega), nI_clamp (by omega), z0, if_neg]
  rintro (q | q | q | q | q)
  · exact nI_pos (by omega) q
  · exact absurd q (by decide)
  · exact nI_pos (by omega) q
  · omega
  · omega
/-- a layer, a key: an int that isn't refused -/
theorem small_of {x : Int32} {n : Nat} (hn : n < 2 ^ 31) (h0 : ¬ x < 0) (h1 : x < nI n) : ∃ i, i < n ∧ x = nI i := by
  obtain ⟨i, hi, rfl⟩ := nI_of h0
  exact ⟨i, (nI_ltI hi hn).mp h1, rfl⟩
