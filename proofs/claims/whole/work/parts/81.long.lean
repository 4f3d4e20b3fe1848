abbrev nL (n : Nat) : Int64 := Int64.ofNat n
theorem nL_of {n : Nat} (h : n < 2 ^ 31) : Int32.toInt64 (nI n) = nL n := by
  apply Int64.toInt_inj.mp
  rw [Int32.toInt_toInt64]
  show (Int32.ofNat n).toInt = (Int64.ofNat n).toInt
  rw [Int32.toInt_ofNat_of_lt h, Int64.toInt_ofNat_of_lt (by omega)]
theorem nL_add (a b : Nat) : nL a + nL b = nL (a + b) := (Int64.ofNat_add a b).symm
theorem nL_mul (a b : Nat) : nL a * nL b = nL (a * b) := (Int64.ofNat_mul a b).symm
theorem nL_eq {a b : Nat} (ha : a < 2 ^ 62) (hb : b < 2 ^ 62) : nL a = nL b ↔ a = b := by
  constructor
  · intro h
    have := congrArg Int64.toInt h
    rw [Int64.toInt_ofNat_of_lt (by omega), Int64.toInt_ofNat_of_lt (by omega)] at this
    omega
  · rintro rfl; rfl
theorem nL_dv {a b : Nat} (ha : a < 2 ^ 62) (hb : b < 2 ^ 62) : nL a / nL b = nL (a / b) := (Int64.ofNat_div (by omega) (by omega)).symm
theorem nL_sub {a b : Nat} (h : b ≤ a) : nL a - nL b = nL (a - b) := (Int64.ofNat_sub a b h).symm
theorem dvL_n {a b : Nat} (ha : a < 2 ^ 62) (hb : b < 2 ^ 62) (h0 : 0 < b) : dvL (nL a) (nL b) = some (nL (a / b)) := by
  unfold dvL
  rw [if_neg (fun q => by have := (nL_eq (b := 0) hb (by decide)).mp q; omega), nL_dv ha hb]
theorem rmL_n {a b : Nat} (ha : a < 2 ^ 62) (hb : b < 2 ^ 62) (h0 : 0 < b) : rmL (nL a) (nL b) = some (nL (a % b)) := by
  unfold rmL
  rw [if_neg (fun q => by have := (nL_eq (b := 0) hb (by decide)).mp q; omega), nL_dv ha hb, nL_mul, nL_sub (Nat.div_mul_le_self a b)]
  congr 2
  have := Nat.div_add_mod a b
  rw [Nat.mul_comm] at this
  omega
theorem lg0 {a : Nat} (ha : a < 2 ^ 62) : lg_cmp (nL a) 0 = 0 ↔ a = 0 := by
  unfold lg_cmp
  by_cases h0 : a = 0
  · subst h0; exact ⟨fun _ => rfl, fun _ => by decide⟩
  · have h1 : nL a > 0 := by
      show (0 : Int64) < nL a
      rw [Int64.lt_iff_toInt_lt, Int64.toInt_ofNat_of_lt (by omega)]
      show (0 : Int) < _
      omega
    rw [if_pos h1]
    simp [h0]
/-! the greatest common divisor -/
theorem X8_common {M : Mem} : ∀ (k a b n : Nat), a < 2 ^ 62 → b < 2 ^ 62 → b < 2 ^ k → 2 * k + 1 ≤ n → f_X8_common n M (nL a) (nL b) = some (nL (Nat.gcd a b), M) := by
  have z : ∀ (n a : Nat), 1 ≤ n → f_X8_common n M (nL a) (nL 0) = some (nL a, M) := by
    intro n a hn
    obtain ⟨n, rfl⟩ : ∃ m, n = m + 1 := ⟨n - 1, by omega⟩
    show f_X8_common_b (f_X8_common n) M (nL a) (nL 0) = _
    unfold f_X8_common_b
    rw [if_neg (fun q => q ((lg0 (by decide)).mpr rfl))]
  have st : ∀ (n a b : Nat), a < 2 ^ 62 → b < 2 ^ 62 → 0 < b → f_X8_common (n + 1) M (nL a) (nL b) = f_X8_common n M (nL b) (nL (a % b)) := by
    intro n a b ha hb h0
    show f_X8_common_b (f_X8_common n) M (nL a) (nL b) = _
    unfold f_X8_common_b
    rw [if_pos (fun q => by have := (lg0 hb).mp q; omega), rmL_n ha hb h0, Option.bind_some, bind_eta]
  intro k
  induction k with
  | zero =>
    intro a b n ha hb hk hn
    have : b = 0 := by omega
    subst this
    rw [z n a (by omega), Nat.gcd_zero_right]
  | succ k ih =>
    intro a b n ha hb hk hn
    by_cases h0 : b = 0
    · subst h0; rw [z n a (by omega), Nat.gcd_zero_right]
    · obtain ⟨n, rfl⟩ : ∃ m, n = m + 1 := ⟨n - 1, by omega⟩
      have hr : a % b < b := Nat.mod_lt _ (by omega)
      have hg : Nat.gcd a b = Nat.gcd b (a % b) := by rw [Nat.gcd_comm, Nat.gcd_rec, Nat.gcd_comm]
      rw [st n a b ha hb (by omega), hg]
      by_cases h1 : a % b = 0
      · rw [h1, z n b (by omega), Nat.gcd_zero_right]
      · obtain ⟨n, rfl⟩ : ∃ m, n = m + 1 := ⟨n - 1, by omega⟩
        have hr2 : b % (a % b) < a % b := Nat.mod_lt _ (by omega)
        have hg2 : Nat.gcd b (a % b) = Nat.gcd (a % b) (b % (a % b)) := by rw [Nat.gcd_comm, Nat.gcd_rec, Nat.gcd_comm]
        have hlt : b % (a % b) < 2 ^ k := by
          have h2 : b % (a % b) + (a % b) ≤ b := by
            have := Nat.div_add_mod b (a % b)
            have h3 : 1 ≤ b / (a % b) := (Nat.one_le_div_iff (by omega)).mpr (by omega)
            have h4 : (a % b) * 1 ≤ (a % b) * (b / (a % b)) := Nat.mul_le_mul_left _ h3
            omega
          rw [Nat.pow_succ] at hk
          omega
        rw [st n b (a % b) hb (by omega) (by omega), hg2]
        exact ih _ _ n (by omega) (by omega) hlt (by omega)
theorem X7_common {M : Mem} : ∀ (k a b i n : Nat), a < 2 ^ 62 → b < 2 ^ 62 → b < 2 ^ k → 2 * k + i < 100 → 2 * k < n → f_X7_commonDivisor_9 n M (nL a) (nL b) (nI i) = some (nL (Nat.gcd a b), M) := by
  have z : ∀ (n a i : Nat), i < 100 → 1 ≤ n → f_X7_commonDivisor_9 n M (nL a) (nL 0) (nI i) = some (nL a, M) := by
    intro n a i hi hn
    obtain ⟨n, rfl⟩ : ∃ m, n = m + 1 := ⟨n - 1, by omega⟩
    rw [f_X7_commonDivisor_9, if_neg (show ¬ (100 : Int32) ≤ nI i from nI_ge (b := 100) (by omega) (by decide)), if_pos ((lg0 (by decide)).mpr rfl)]
  have st : ∀ (n a b i : Nat), i < 100 → a < 2 ^ 62 → b < 2 ^ 62 → 0 < b → f_X7_commonDivisor_9 (n + 1) M (nL a) (nL b) (nI i) = f_X7_commonDivisor_9 n M (nL b) (nL (a % b)) (nI (i + 1)) := by
    intro n a b i hi ha hb h0
    rw [f_X7_commonDivisor_9, if_neg (show ¬ (100 : Int32) ≤ nI i from nI_ge (b := 100) (by omega) (by decide)), if_neg (fun q => by have := (lg0 hb).mp q; omega), rmL_n ha hb h0, Option.bind_some, nI_1]
  intro k
  induction k with
  | zero =>
    intro a b i n ha hb hk hi hn
    have : b = 0 := by omega
    subst this
    rw [z n a i (by omega) (by omega), Nat.gcd_zero_right]
  | succ k ih =>
    intro a b i n ha hb hk hi hn
    by_cases h0 : b = 0
    · subst h0; rw [z n a i (by omega) (by omega), Nat.gcd_zero_right]
    · obtain ⟨n, rfl⟩ : ∃ m, n = m + 1 := ⟨n - 1, by omega⟩
      have hr : a % b < b := Nat.mod_lt _ (by omega)
      have hg : Nat.gcd a b = Nat.gcd b (a % b) := by rw [Nat.gcd_comm, Nat.gcd_rec, Nat.gcd_comm]
      rw [st n a b i (by omega) ha hb (by omega), hg]
      by_cases h1 : a % b = 0
      · rw [h1, z n b (i + 1) (by omega) (by omega), Nat.gcd_zero_right]
      · obtain ⟨n, rfl⟩ : ∃ m, n = m + 1 := ⟨n - 1, by omega⟩
        have hr2 : b % (a % b) < a % b := Nat.mod_lt _ (by omega)
        have hg2 : Nat.gcd b (a % b) = Nat.gcd (a % b) (b % (a % b)) := by rw [Nat.gcd_comm, Nat.gcd_rec, Nat.gcd_comm]
        have hlt : b % (a % b) < 2 ^ k := by
          have h2 : b % (a % b) + (a % b) ≤ b := by
            have := Nat.div_add_mod b (a % b)
            have h3 : 1 ≤ b / (a % b) := (Nat.one_le_div_iff (by omega)).mpr (by omega)
            have h4 : (a % b) * 1 ≤ (a % b) * (b / (a % b)) := Nat.mul_le_mul_left _ h3
            omega
          rw [Nat.pow_succ] at hk
          omega
        rw [st n b (a % b) (i + 1) (by omega) hb (by omega) (by omega), hg2]
        exact ih _ _ _ n (by omega) (by omega) hlt (by omega) (by omega)
def ltS (a b w : Nat) : Nat := if Nat.gcd a b = 0 then w else (if w = 0 then a else b) / Nat.gcd a b
theorem X7_leastTerms {M : Mem} {a b w : Nat} (ha : a < 2 ^ 62) (hb : b < 2 ^ 27) (hw : w < 2) : f_X7_leastTerms M (nL a) (nL b) (nI w) = some (nL (ltS a b w), M) := by
  unfold f_X7_leastTerms f_X7_commonDivisor ltS
  rw [show f_X7_commonDivisor_9 1000 M (nL a) (nL b) 0 = _ from X7_common 27 a b 0 1000 ha (by omega) hb (by decide) (by decide), Option.bind_some]
  dsimp only
  have hg : Nat.gcd a b < 2 ^ 62 := by
    by_cases h0 : b = 0
    · subst h0; rw [Nat.gcd_zero_right]; exact ha
    · have := Nat.gcd_le_right a (show 0 < b by omega); omega
  by_cases h : Nat.gcd a b = 0
  · rw [if_neg (fun q => q ((lg0 hg).mpr h)), if_pos h, nL_of (by omega)]
  · rw [if_pos (fun q => h ((lg0 hg).mp q)), if_neg h]
    by_cases hw0 : w = 0
    · subst hw0
      rw [if_neg (fun q => q rfl), dvL_n ha hg (by omega), Option.bind_some, if_pos rfl]
    · rw [if_pos (show ¬ nI w = 0 from fun q => hw0 ((nI_eq (b := 0) (by omega) (by decide)).mp q)), dvL_n (by omega) hg (by omega), Option.bind_some, if_neg hw0]
theorem X8_part {M : Mem} {a b w : Nat} (ha : a < 2 ^ 62) (hb : b < 2 ^ 27) (hb0 : 0 < b) (hw : w < 2) : f_X8_part M (nL a) (nL b) (nI w) = some (nL (ltS a b w), M) := by
  unfold f_X8_part ltS
  have hg : Nat.gcd a b < 2 ^ 62 := by have := Nat.gcd_le_right a (show 0 < b by omega); omega
  have hg0 : 0 < Nat.gcd a b := Nat.gcd_pos_of_pos_right _ hb0
  rw [X8_common 27 a b 60 ha (by omega) hb (by decide), Option.bind_some, Option.bind_some]
  dsimp only
  rw [if_neg (show ¬ Nat.gcd a b = 0 by omega)]
  by_cases hw0 : w = 0
  · subst hw0
    rw [if_neg (fun q => q rfl), dvL_n ha hg (by omega), Option.bind_some, if_pos rfl]
  · rw [if_pos (show ¬ nI w = 0 from fun q => hw0 ((nI_eq (b := 0) (by omega) (by decide)).mp q)), dvL_n (by omega) hg (by omega), Option.bind_some, if_neg hw0]
theorem X7_power {M : Mem} {b e : Nat} (he : e < 1000) : f_X7_power M (nL b) (nI e) = some (nL (b ^ e), M) := by
  have key : ∀ (m i fuel : Nat), i + m = e → m < fuel → f_X7_power_5 fuel M (nL b) (nI e) (nL (b ^ i)) (nI i) = some (nL (b ^ e), M) := by
    intro m
    induction m with
    | zero =>
      intro i fuel him hf
      obtain ⟨fu, rfl⟩ : ∃ fu, fuel = fu + 1 := ⟨fuel - 1, by omega⟩
      rw [f_X7_power_5, if_pos (nI_le (by omega) (by omega))]
      simp at him; subst him; rfl
    | succ m ih =>
      intro i fuel him hf
      obtain ⟨fu, rfl⟩ : ∃ fu, fuel = fu + 1 := ⟨fuel - 1, by omega⟩
      rw [f_X7_power_5, if_neg (nI_ge (by omega) (by omega)), nL_mul, nI_1, ← Nat.pow_succ]
      exact ih (i + 1) fu (by omega) (by omega)
  exact key e 0 1000 (by omega) he
/-! a refused long call -/
def loN (x : Int32) : Int64 := 4000000000000000000 - Int32.toInt64 x
theorem same_noL {S : St} {X Y : Mem → Option (Int64 × Mem)} (hw : WFS S) (x : Int32) (c : Nat) (hx : -x = nI c) (hc : c < 7) (h7 : ∀ M, ClsI M S → ∃ M', X M = f_X7_refuseLong M' x ∧ CF M M') (h8 : ∀ M, ModI M S → ∃ M', Y M = f_X8_noLong M' x ∧ MK M M') : SAME S X Y :=
  ⟨loN x, bump S c, fun M h => by
    obtain ⟨M', e1, e2⟩ := h7 M h
    obtain ⟨M2, f1, f2, f3⟩ := X7_refuse hx hc (h.cf e2)
    refine ⟨M2, ?_, f2, e2.f7.tr f3⟩
    rw [e1]; unfold f_X7_refuseLong; rw [f1, Option.bind_some]; rfl, fun M h => by
    obtain ⟨M', e1, e2⟩ := h8 M h
    obtain ⟨M2, f1, f2, f3⟩ := X8_no hx hc (h.mk e2)
    refine ⟨M2, ?_, f2, e2.f8.tr f3⟩
    rw [e1]; unfold f_X8_noLong; rw [f1, Option.bind_some]; rfl, hw.bump c⟩
