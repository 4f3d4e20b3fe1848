theorem m_ent (l k : Nat) : (30 : Int32) + 12 * (8 * nI l + nI k) = nI (30 + 12 * (8 * l + k)) := by
  rw [show (8 : Int32) = nI 8 from rfl, nI_mul, nI_add, show (12 : Int32) = nI 12 from rfl, nI_mul, show (30 : Int32) = nI 30 from rfl, nI_add]
theorem X8_entryAt (M : Mem) (l k : Nat) : f_X8_entryAt M (nI l) (nI k) = some (nI (30 + 12 * (8 * l + k)), M) := by
  unfold f_X8_entryAt; rw [m_ent]
theorem m9_ne : ∀ f, f < 5 → nI f ≠ -9 := by decide +kernel
def hasE (σ : Sc) (l k : Nat) : Bool := (sEn σ (8 * l + k)).isSome
def gapE (σ : Sc) (l k : Nat) : Bool := match sEn σ (8 * l + k) with
  | some e => decide (e.1 = 4)
  | none => false
theorem X8_has {M : Mem} {σ : Sc} {l k : Nat} (hw : WFs σ) (h : SMr (M 164) σ) (hl : l < 6) (hk : k < 8) : f_X8_has M (nI l) (nI k) = some (if hasE σ l k = true then 1 else 0, M) := by
  unfold f_X8_has
  rw [X8_entryAt, Option.bind_some]
  dsimp only
  rw [Int32.add_zero, rd_nI (by omega) (by decide), Option.bind_some]
  have he := h.2.2 (8 * l + k) (by omega)
  unfold hasE
  rcases hent : sEn σ (8 * l + k) with _ | ⟨f, n, o, its⟩
  · rw [hent] at he
    rw [if_pos (show M 164 (30 + 12 * (8 * l + k)) = -9 from he), if_neg (by simp)]; rfl
  · rw [hent] at he
    rw [he.1, if_neg (m9_ne f (hw.2.2 _ _ _ _ _ hent).1), if_pos (by simp)]; rfl
theorem X8_type {M : Mem} {σ : Sc} {l k : Nat} {e : Ent} (h : SMr (M 164) σ) (hl : l < 6) (hk : k < 8) (he : sEn σ (8 * l + k) = some e) : M 164 (30 + 12 * (8 * l + k)) = nI e.1 := by
  have := h.2.2 (8 * l + k) (by omega)
  rw [he] at this
  exact this.1
def anyR (p : Nat → Bool) : Nat → Nat → Bool
  | _, 0 => false
  | m, j + 1 => p m || anyR p (m + 1) j
theorem anyR_iff (p : Nat → Bool) : ∀ j m, anyR p m j = true ↔ ∃ i, m ≤ i ∧ i < m + j ∧ p i = true := by
  intro j
  induction j with
  | zero =>
    intro m
    constructor
    · intro h; cases h
    · rintro ⟨i, h1, h2, -⟩; omega
  | succ j ih =>
    intro m
    simp only [anyR, Bool.or_eq_true, ih]
    constructor
    · rintro (h | ⟨i, h1, h2, h3⟩)
      · exact ⟨m, by omega, by omega, h⟩
      · exact ⟨i, by omega, by omega, h3⟩
    · rintro ⟨i, h1, h2, h3⟩
      by_cases hi : i = m
      · subst hi; exact Or.inl h3
      · exact Or.inr ⟨i, by omega, by omega, h3⟩
/-- a layer above that offers, if it counts -/
def upS (σ : Sc) (l k m : Nat) : Bool := decide (rkO σ l < rkO σ m) && sOn σ m && hasE σ m k && !gapE σ m k
def cntF (σ : Sc) (k : Nat) : Nat → Nat → Bool
  | 0, _ => true
  | n + 1, l => if sKd σ l = 5 then decide (k ≤ sFg σ l) else if sKd σ l = 4 then !anyR (fun m => upS σ l k m && cntF σ k n m) 0 6 else true
theorem X8_counts_l {rs : Mem → Int32 → Int32 → Option (Int32 × Mem)} {M : Mem} {σ : Sc} {l k : Nat} {C : Nat → Bool} (hw : WFs σ) (h : SMr (M 164) σ) (hl : l < 6) (hk : k < 8) (hrs : ∀ m, m < 6 → upS σ l k m = true → rs M (nI m) (nI k) = some (if C m = true then 1 else 0, M)) :
    ∀ (j m fuel : Nat), m + j = 6 → j < fuel → f_X8_counts_46 rs fuel M (nI l) (nI k) (nI m) = some (if anyR (fun m => upS σ l k m && C m) m j = true then 0 else 1, M) := by
  intro j
  induction j with
  | zero =>
    intro m fuel hm hf
    obtain ⟨fu, rfl⟩ : ∃ fu, fuel = fu + 1 := ⟨fuel - 1, by omega⟩
    rw [f_X8_counts_46, if_pos (show (6 : Int32) ≤ nI m from nI_le (a := 6) (by omega) (by omega))]
    rfl
  | succ j ih =>
    intro m fuel hm hf
    obtain ⟨fu, rfl⟩ : ∃ fu, fuel = fu + 1 := ⟨fuel - 1, by omega⟩
    have hm6 : m < 6 := by omega
    have ih' := ih (m + 1) fu (by omega) (by omega)
    have r1 := rkO_range hw hl
    have r2 := rkO_range hw hm6
    have skip : upS σ l k m = false → f_X8_counts_113 rs (f_X8_counts_46 rs fu) M (nI l) (nI k) (nI m) = some (if anyR (fun m => upS σ l k m && C m) m (j + 1) = true then 0 else 1, M) := by
      intro hu
      unfold f_X8_counts_113 f_X8_counts_114
      rw [if_pos rfl, nI_1, ih']
      simp only [anyR, hu, Bool.false_and, Bool.false_or]
    rw [f_X8_counts_46, if_neg (show ¬ (6 : Int32) ≤ nI m from nI_ge (b := 6) (by omega) (by decide)), X8_rank hw h hm6, Option.bind_some, X8_rank hw h hl, Option.bind_some]
    dsimp only
    simp only [rI_le r2 r1]
    by_cases c1 : rkO σ m ≤ rkO σ l
    · rw [if_pos c1]
      exact skip (by unfold upS; simp; omega)
    · rw [if_neg c1, m_a0, rd_nI (by omega) (by decide), Option.bind_some, (h.1 m hm6).1]
      by_cases c2 : sOn σ m = true
      · rw [if_pos c2, if_neg (by decide), X8_has hw h hm6 hk, Option.bind_some]
        dsimp only
        by_cases c3 : hasE σ m k = true
        · rw [if_pos c3, if_neg (by decide), X8_entryAt, Option.bind_some]
          dsimp only
          rw [Int32.add_zero, rd_nI (by omega) (by decide), Option.bind_some]
          obtain ⟨e, he⟩ := Option.isSome_iff_exists.mp c3
          obtain ⟨f, n, o, its⟩ := e
          have hf5 := (hw.2.2 _ _ _ _ _ he).1
          rw [X8_type h hm6 hk he]
          simp only [four_t f hf5]
          by_cases c4 : f = 4
          · rw [if_pos c4]
            exact skip (by unfold upS gapE; rw [he]; simp [c4])
          · rw [if_neg c4]
            have hu : upS σ l k m = true := by unfold upS gapE; rw [he]; simp [c4, c3, c2]; omega
            unfold f_X8_counts_114
            rw [if_neg (by decide), hrs m hm6 hu, Option.bind_some]
            dsimp only
            by_cases hC : C m = true
            · rw [if_pos hC, if_neg (by decide)]
              simp only [anyR, hu, hC, Bool.true_and, Bool.true_or]
              rfl
            · rw [if_neg hC, if_pos rfl, nI_1, ih']
              simp only [anyR, hu, Bool.not_eq_true _ ▸ hC, Bool.true_and, Bool.false_or]
        · rw [if_neg c3, if_pos rfl]
          exact skip (by unfold upS; simp [c3])
      · rw [if_neg c2, if_pos (by decide)]
        exact skip (by unfold upS; simp [c2])
/-- enough fuel -/
def enF (σ : Sc) (n l : Nat) : Prop := 6 < n + l ∨ (sKd σ l ≠ 4 ∧ 1 ≤ n)
theorem rk_weak {σ : Sc} (hw : WFs σ) {l m : Nat} (hl : sKd σ l = 4) (hm : sKd σ m = 4) (h : rkO σ l < rkO σ m) : l < m := by
  unfold rkO rkS at h
  rw [hl, hm] at h
  simp at h
  omega
theorem enF_dn {σ : Sc} (hw : WFs σ) {n l m k : Nat} (h : enF σ (n + 1) l) (hl : l < 6) (h4 : sKd σ l = 4) (hu : upS σ l k m = true) : enF σ n m := by
  have hn : 6 < n + 1 + l := by
    rcases h with h | h
    · exact h
    · exact absurd h4 h.1
  by_cases hm : sKd σ m = 4
  · have : rkO σ l < rkO σ m := by unfold upS at hu; simp at hu; exact hu.1.1.1
    have := rk_weak hw h4 hm this
    exact Or.inl (by omega)
  · exact Or.inr ⟨hm, by omega⟩
theorem X8_counts {M : Mem} {σ : Sc} {k : Nat} (hw : WFs σ) (h : SMr (M 164) σ) (hk : k < 8) : ∀ (n l : Nat), l < 6 → enF σ n l → f_X8_counts n M (nI l) (nI k) = some (if cntF σ k n l = true then 1 else 0, M) := by
  intro n
  induction n with
  | zero =>
    intro l hl he
    rcases he with h | h <;> omega
  | succ n ih =>
    intro l hl he
    obtain ⟨h1, h2, h3⟩ := h.1 l hl
    obtain ⟨w1, w2⟩ := hw.1 l
    obtain ⟨t1, t2, t3, t4, t5⟩ := kd_t _ w1
    rw [f_X8_counts]
    unfold f_X8_counts_b
    have hcf : cntF σ k (n + 1) l = if sKd σ l = 5 then decide (k ≤ sFg σ l) else if sKd σ l = 4 then !anyR (fun m => upS σ l k m && cntF σ k n m) 0 6 else true := by rw [cntF]
    rw [hcf]
    dsimp only
    rw [m_a1, rd_nI (by omega) (by decide), Option.bind_some, h2]
    simp only [t4, t5]
    by_cases c5 : sKd σ l = 5
    · rw [if_neg (fun q => q c5), if_pos c5, m_a2, rd_nI (by omega) (by decide), Option.bind_some, h3]
      by_cases c : k ≤ sFg σ l
      · rw [if_neg (nI_nlt c (by omega)), if_pos (by simp [c])]; rfl
      · rw [if_pos (nI_lt (by omega) (by omega)), if_neg (by simp [c])]; rfl
    · rw [if_pos c5, if_neg c5]
      by_cases c4 : sKd σ l = 4
      · rw [if_pos c4, if_pos c4]
        have := X8_counts_l (rs := f_X8_counts n) (C := cntF σ k n) hw h hl hk (fun m hm hu => ih m hm (enF_dn hw he hl c4 hu)) 6 0 1000 rfl (by decide)
        have e0 : f_X8_counts_46 (f_X8_counts n) 1000 M (nI l) (nI k) 0 = _ := this
        rw [e0]
        by_cases ha : anyR (fun m => upS σ l k m && cntF σ k n m) 0 6 = true
        · rw [if_pos ha, if_neg (by simp [ha])]
        · rw [if_neg ha, if_pos (by simp [ha])]
      · rw [if_neg c4, if_neg c4]; rfl
theorem cntF_st {σ : Sc} (hw : WFs σ) (k : Nat) : ∀ (n l : Nat), l < 6 → enF σ n l → cntF σ k (n + 1) l = cntF σ k n l := by
  intro n
  induction n with
  | zero =>
    intro l hl he
    rcases he with h | h <;> omega
  | succ n ih =>
    intro l hl he
    rw [cntF]
    conv => rhs; rw [cntF]
    by_cases c5 : sKd σ l = 5
    · rw [if_pos c5, if_pos c5]
    · rw [if_neg c5, if_neg c5]
      by_cases c4 : sKd σ l = 4
      · rw [if_pos c4, if_pos c4]
        congr 1
        have : ∀ j m, m + j = 6 → anyR (fun m => upS σ l k m && cntF σ k (n + 1) m) m j = anyR (fun m => upS σ l k m && cntF σ k n m) m j := by
          intro j
          induction j with
          | zero => intro m _; rfl
          | succ j ihj =>
            intro m hm
            simp only [anyR]
            rw [ihj (m + 1) (by omega)]
            by_cases hu : upS σ l k m = true
            · rw [ih m (by omega) (enF_dn hw he hl c4 hu)]
            · simp [hu]
        exact this 6 0 rfl
      · rw [if_neg c4, if_neg c4]
abbrev cntC (σ : Sc) (k l : Nat) : Bool := cntF σ k 8 l
theorem cntC_weak {σ : Sc} (hw : WFs σ) {k l : Nat} (hl : l < 6) (h4 : sKd σ l = 4) : cntC σ k l = true ↔ ¬ ∃ m, m < 6 ∧ upS σ l k m = true ∧ cntC σ k m = true := by
  unfold cntC
  rw [← cntF_st hw k 8 l hl (Or.inl (by omega)), cntF, if_neg (by omega), if_pos h4]
  rw [Bool.not_eq_true', ← Bool.not_eq_true, anyR_iff]
  constructor
  · rintro h ⟨m, h1, h2, h3⟩
    exact h ⟨m, by omega, by omega, by simp [h2, h3]⟩
  · rintro h ⟨m, h1, h2, h3⟩
    simp at h3
    exact h ⟨m, by omega, h3.1, h3.2⟩
