/-! bits told by a loop, and how many they are -/
def mskI (p : Nat → Bool) : Nat → Int32
  | 0 => 0
  | n + 1 => if p n = true then mskI p n ||| bitI n else mskI p n
theorem mskI_B (p : Nat → Bool) : ∀ n, n ≤ 8 → mskI p n = nI (mskB p n) := by
  intro n
  induction n with
  | zero => intro _; rfl
  | succ n ih =>
    intro h
    simp only [mskI, mskB]
    rw [ih (by omega)]
    by_cases hp : p n = true
    · rw [if_pos hp, if_pos hp, t_or _ (mskB_lt p n (by omega)) n (by omega)]
    · rw [if_neg hp, if_neg hp]
theorem mskI_ext {p q : Nat → Bool} {n : Nat} (h : ∀ i, i < n → p i = q i) : mskI p n = mskI q n := by
  induction n with
  | zero => rfl
  | succ n ih => simp only [mskI]; rw [ih (fun i hi => h i (by omega)), h n (by omega)]
def pcN (x : Nat) : Nat := (List.range 8).countP (fun j => x.testBit j)
def bcI (l0 : Int32) : Int32 :=
  let v1 := l0 - ((ushr l0 1) &&& 1431655765)
  let v2 := (v1 &&& 858993459) + ((ushr v1 2) &&& 858993459)
  let v3 := (v2 + (ushr v2 4)) &&& 252645135
  let v4 := (v3 + (ushr v3 8)) + (ushr (v3 + (ushr v3 8)) 16)
  v4 &&& 63
theorem bc_t : ∀ x, x < 256 → bcI (nI x) = nI (pcN x) := by decide +kernel
theorem J6_bitCount {M : Mem} {x : Nat} (h : x < 256) : f_J6_bitCount_0f7a4 M (nI x) = some (nI (pcN x), M) := by
  rw [← bc_t x h]; rfl
def sO (x : Int32) : Nat → Nat → Int32 → Int32
  | _, 0, acc => acc
  | i, m + 1, acc => sO x (i + 1) m (acc + ((x >>> (nI i &&& 31)) &&& 1))
theorem sO_t : ∀ x, x < 256 → sO (nI x) 0 16 0 = nI (pcN x) := by decide +kernel
theorem X8_ones_l {M : Mem} {x : Int32} : ∀ (m i fuel : Nat) (acc : Int32), i + m = 16 → m < fuel → f_X8_ones_4 fuel M x acc (nI i) = some (sO x i m acc, M) := by
  intro m
  induction m with
  | zero =>
    intro i fuel acc him hf
    obtain ⟨fu, rfl⟩ : ∃ fu, fuel = fu + 1 := ⟨fuel - 1, by omega⟩
    rw [f_X8_ones_4, if_pos (show (16 : Int32) ≤ nI i from nI_le (a := 16) (by omega) (by omega))]
    rfl
  | succ m ih =>
    intro i fuel acc him hf
    obtain ⟨fu, rfl⟩ : ∃ fu, fuel = fu + 1 := ⟨fuel - 1, by omega⟩
    rw [f_X8_ones_4, if_neg (show ¬ (16 : Int32) ≤ nI i from nI_ge (b := 16) (by omega) (by decide)), Option.bind_some, nI_1, ih (i + 1) fu _ (by omega) (by omega)]
    rfl
theorem X8_ones {M : Mem} {x : Nat} (h : x < 256) : f_X8_ones M (nI x) = some (nI (pcN x), M) := by
  unfold f_X8_ones
  rw [← sO_t x h]
  exact X8_ones_l 16 0 1000 0 rfl (by decide)
/-- the keys that have an entry -/
def kbS (σ : Sc) (l : Nat) : Nat := mskB (fun k => hasE σ l k) 8
theorem kbS_lt (σ : Sc) (l : Nat) : kbS σ l < 256 := mskB_lt _ 8 (by decide)
theorem X4_form {M : Mem} {s l k : Nat} {σ : Sc} (h : SCr M s σ) (hw : WFs σ) (hl : l < 6) (hk : k < 8) : (M (s + 5) (8 * l + k) = -1) ↔ hasE σ l k = false := by
  have he := h.2.2.2.2 (8 * l + k) (by omega)
  unfold hasE
  rcases hx : sEn σ (8 * l + k) with _ | ⟨f, n, o, its⟩
  · rw [hx] at he; exact ⟨fun _ => rfl, fun _ => he⟩
  · rw [hx] at he
    rw [he.1]
    exact ⟨fun q => absurd q (m1_ne f (hw.2.2 _ _ _ _ _ hx).1), fun q => by simp at q⟩
theorem X4_keyBits {M : Mem} {s l : Nat} {σ : Sc} (h : SCr M s σ) (hw : WFs σ) (hl : l < 6) : f_X4_keyBits M s (nI l) = some (nI (kbS σ l), M) := by
  have key : ∀ (m i fuel : Nat), i + m = 8 → m < fuel → f_X4_keyBits_4 fuel M s (nI l) (mskI (fun k => hasE σ l k) i) (nI i) = some (mskI (fun k => hasE σ l k) 8, M) := by
    intro m
    induction m with
    | zero =>
      intro i fuel him hf
      obtain ⟨fu, rfl⟩ : ∃ fu, fuel = fu + 1 := ⟨fuel - 1, by omega⟩
      rw [f_X4_keyBits_4, if_pos (show (8 : Int32) ≤ nI i from nI_le (a := 8) (by omega) (by omega))]
      simp at him; subst him; rfl
    | succ m ih =>
      intro i fuel him hf
      obtain ⟨fu, rfl⟩ : ∃ fu, fuel = fu + 1 := ⟨fuel - 1, by omega⟩
      have := ih (i + 1) fu (by omega) (by omega)
      simp only [mskI] at this
      rw [f_X4_keyBits_4, if_neg (show ¬ (8 : Int32) ≤ nI i from nI_ge (b := 8) (by omega) (by decide)), X7_slotOf, Option.bind_some]
      dsimp only
      rw [rd_nI (by omega) (by decide), Option.bind_some, nI_1]
      by_cases hh : hasE σ l i = true
      · rw [if_neg (fun q => by rw [(X4_form h hw hl (by omega)).mp q] at hh; cases hh), Option.bind_some]
        rw [if_pos hh] at this
        exact this
      · rw [if_pos ((X4_form h hw hl (by omega)).mpr (by simpa using hh))]
        rw [if_neg hh] at this
        exact this
  unfold f_X4_keyBits kbS
  rw [← mskI_B _ 8 (by decide)]
  exact key 8 0 1000 rfl (by decide)
theorem X8_entries {M : Mem} {l : Nat} {σ : Sc} (h : SMr (M 164) σ) (hw : WFs σ) (hl : l < 6) : f_X8_entries M (nI l) = some (nI (kbS σ l), M) := by
  have key : ∀ (m i fuel : Nat), i + m = 8 → m < fuel → f_X8_entries_4 fuel M (nI l) (mskI (fun k => hasE σ l k) i) (nI i) = some (mskI (fun k => hasE σ l k) 8, M) := by
    intro m
    induction m with
    | zero =>
      intro i fuel him hf
      obtain ⟨fu, rfl⟩ : ∃ fu, fuel = fu + 1 := ⟨fuel - 1, by omega⟩
      rw [f_X8_entries_4, if_pos (show (8 : Int32) ≤ nI i from nI_le (a := 8) (by omega) (by omega))]
      simp at him; subst him; rfl
    | succ m ih =>
      intro i fuel him hf
      obtain ⟨fu, rfl⟩ : ∃ fu, fuel = fu + 1 := ⟨fuel - 1, by omega⟩
      have := ih (i + 1) fu (by omega) (by omega)
      simp only [mskI] at this
      rw [f_X8_entries_4, if_neg (show ¬ (8 : Int32) ≤ nI i from nI_ge (b := 8) (by omega) (by decide)), X8_has hw h hl (by omega), Option.bind_some]
      dsimp only
      rw [nI_1]
      by_cases hh : hasE σ l i = true
      · rw [if_pos hh, if_neg (by decide), Option.bind_some]
        rw [if_pos hh] at this
        exact this
      · rw [if_neg hh, if_pos rfl, Int32.or_zero]
        rw [if_neg hh] at this
        exact this
  unfold f_X8_entries kbS
  rw [← mskI_B _ 8 (by decide)]
  exact key 8 0 1000 rfl (by decide)
/-- all entries -/
def totS (σ : Sc) : Nat → Int32
  | 0 => 0
  | n + 1 => totS σ n + nI (pcN (kbS σ n))
theorem X4_entries {M : Mem} {s : Nat} {σ : Sc} (h : SCr M s σ) (hw : WFs σ) : f_X4_entries M s = some (totS σ 6, M) := by
  have key : ∀ (m i fuel : Nat), i + m = 6 → m < fuel → f_X4_entries_4 fuel M s (totS σ i) (nI i) = some (totS σ 6, M) := by
    intro m
    induction m with
    | zero =>
      intro i fuel him hf
      obtain ⟨fu, rfl⟩ : ∃ fu, fuel = fu + 1 := ⟨fuel - 1, by omega⟩
      rw [f_X4_entries_4, if_pos (show (6 : Int32) ≤ nI i from nI_le (a := 6) (by omega) (by omega))]
      simp at him; subst him; rfl
    | succ m ih =>
      intro i fuel him hf
      obtain ⟨fu, rfl⟩ : ∃ fu, fuel = fu + 1 := ⟨fuel - 1, by omega⟩
      rw [f_X4_entries_4, if_neg (show ¬ (6 : Int32) ≤ nI i from nI_ge (b := 6) (by omega) (by decide)), X4_keyBits h hw (by omega), Option.bind_some]
      dsimp only
      rw [J6_bitCount (kbS_lt σ i), Option.bind_some, nI_1]
      exact ih (i + 1) fu (by omega) (by omega)
  unfold f_X4_entries
  exact key 6 0 1000 rfl (by decide)
theorem X8_entries_ {M : Mem} {σ : Sc} (h : SMr (M 164) σ) (hw : WFs σ) : f_X8_entries_ M = some (totS σ 6, M) := by
  have key : ∀ (m i fuel : Nat), i + m = 6 → m < fuel → f_X8_entries__4 fuel M (totS σ i) (nI i) = some (totS σ 6, M) := by
    intro m
    induction m with
    | zero =>
      intro i fuel him hf
      obtain ⟨fu, rfl⟩ : ∃ fu, fuel = fu + 1 := ⟨fuel - 1, by omega⟩
      rw [f_X8_entries__4, if_pos (show (6 : Int32) ≤ nI i from nI_le (a := 6) (by omega) (by omega))]
      simp at him; subst him; rfl
    | succ m ih =>
      intro i fuel him hf
      obtain ⟨fu, rfl⟩ : ∃ fu, fuel = fu + 1 := ⟨fuel - 1, by omega⟩
      rw [f_X8_entries__4, if_neg (show ¬ (6 : Int32) ≤ nI i from nI_ge (b := 6) (by omega) (by decide)), X8_entries h hw (by omega), Option.bind_some]
      dsimp only
      rw [X8_ones (kbS_lt σ i), Option.bind_some, nI_1]
      exact ih (i + 1) fu (by omega) (by omega)
  unfold f_X8_entries_
  exact key 6 0 1000 rfl (by decide)
def orS (σ : Sc) : Nat → Int32
  | 0 => 0
  | n + 1 => orS σ n ||| nI (kbS σ n)
theorem X4_keyBitsOfAll {M : Mem} {s : Nat} {σ : Sc} (h : SCr M s σ) (hw : WFs σ) : f_X4_keyBitsOfAll M s = some (orS σ 6, M) := by
  have key : ∀ (m i fuel : Nat), i + m = 6 → m < fuel → f_X4_keyBitsOfAll_4 fuel M s (orS σ i) (nI i) = some (orS σ 6, M) := by
    intro m
    induction m with
    | zero =>
      intro i fuel him hf
      obtain ⟨fu, rfl⟩ : ∃ fu, fuel = fu + 1 := ⟨fuel - 1, by omega⟩
      rw [f_X4_keyBitsOfAll_4, if_pos (show (6 : Int32) ≤ nI i from nI_le (a := 6) (by omega) (by omega))]
      simp at him; subst him; rfl
    | succ m ih =>
      intro i fuel him hf
      obtain ⟨fu, rfl⟩ : ∃ fu, fuel = fu + 1 := ⟨fuel - 1, by omega⟩
      rw [f_X4_keyBitsOfAll_4, if_neg (show ¬ (6 : Int32) ≤ nI i from nI_ge (b := 6) (by omega) (by decide)), X4_keyBits h hw (by omega), Option.bind_some, nI_1]
      exact ih (i + 1) fu (by omega) (by omega)
  unfold f_X4_keyBitsOfAll
  exact key 6 0 1000 rfl (by decide)
theorem X8_count_80 {M : Mem} {σ : Sc} (h : SMr (M 164) σ) (hw : WFs σ) : f_X8_count_80 1000 M 0 0 = some (orS σ 6, M) := by
  have key : ∀ (m i fuel : Nat), i + m = 6 → m < fuel → f_X8_count_80 fuel M (orS σ i) (nI i) = some (orS σ 6, M) := by
    intro m
    induction m with
    | zero =>
      intro i fuel him hf
      obtain ⟨fu, rfl⟩ : ∃ fu, fuel = fu + 1 := ⟨fuel - 1, by omega⟩
      rw [f_X8_count_80, if_pos (show (6 : Int32) ≤ nI i from nI_le (a := 6) (by omega) (by omega))]
      simp at him; subst him; rfl
    | succ m ih =>
      intro i fuel him hf
      obtain ⟨fu, rfl⟩ : ∃ fu, fuel = fu + 1 := ⟨fuel - 1, by omega⟩
      rw [f_X8_count_80, if_neg (show ¬ (6 : Int32) ≤ nI i from nI_ge (b := 6) (by omega) (by decide)), X8_entries h hw (by omega), Option.bind_some, nI_1]
      exact ih (i + 1) fu (by omega) (by omega)
  exact key 6 0 1000 rfl (by decide)
/-- all items -/
def itS (σ : Sc) : Nat → Int32
  | 0 => 0
  | n + 1 => match sEn σ n with
    | some (1, _, _, its) => itS σ n + nI its.length
    | _ => itS σ n
theorem itS_some {σ : Sc} {n f o : Nat} {x : Int32} {its : List (Int32 × Int32)} (h : sEn σ n = some (f, x, o, its)) : itS σ (n + 1) = if f = 1 then itS σ n + nI its.length else itS σ n := by
  simp only [itS, h]
  by_cases hf : f = 1
  · subst hf; rfl
  · rw [if_neg hf]
    split
    · rename_i a b c heq
      simp at heq
      exact absurd heq.1 hf
    · rfl
theorem X4_items {M : Mem} {s : Nat} {σ : Sc} (h : SCr M s σ) (hw : WFs σ) : f_X4_items M s = some (itS σ 48, M) := by
  have key : ∀ (m i fuel : Nat), i + m = 48 → m < fuel → f_X4_items_4 fuel M s (itS σ i) (nI i) = some (itS σ 48, M) := by
    intro m
    induction m with
    | zero =>
      intro i fuel him hf
      obtain ⟨fu, rfl⟩ : ∃ fu, fuel = fu + 1 := ⟨fuel - 1, by omega⟩
      rw [f_X4_items_4, if_pos (show (48 : Int32) ≤ nI i from nI_le (a := 48) (by omega) (by omega))]
      simp at him; subst him; rfl
    | succ m ih =>
      intro i fuel him hf
      obtain ⟨fu, rfl⟩ : ∃ fu, fuel = fu + 1 := ⟨fuel - 1, by omega⟩
      have hi := ih (i + 1) fu (by omega) (by omega)
      rw [f_X4_items_4, if_neg (show ¬ (48 : Int32) ≤ nI i from nI_ge (b := 48) (by omega) (by decide)), rd_nI (by omega) (by decide), Option.bind_some, nI_1]
      have he := h.2.2.2.2 i (by omega)
      rcases hx : sEn σ i with _ | ⟨f, n, o, its⟩
      · rw [hx] at he
        rw [show M (s + 5) i = -1 from he, if_pos (by decide)]
        have : itS σ (i + 1) = itS σ i := by simp only [itS, hx]
        rw [this] at hi
        exact hi
      · rw [hx] at he
        rw [itS_some hx] at hi
        rw [he.1]
        simp only [(form_t f (hw.2.2 _ _ _ _ _ hx).1).2.2.1]
        by_cases hf1 : f = 1
        · rw [if_neg (fun q => q hf1), rd_nI (by omega) (by decide), Option.bind_some, he.2.1, if_pos hf1]
          rw [if_pos hf1] at hi
          exact hi
        · rw [if_pos hf1]
          rw [if_neg hf1] at hi
          exact hi
  unfold f_X4_items
  exact key 48 0 1000 rfl (by decide)
theorem X8_count_104 {M : Mem} {σ : Sc} (h : SMr (M 164) σ) (hw : WFs σ) : f_X8_count_104 1000 M 0 0 = some (itS σ 48, M) := by
  have key : ∀ (m i fuel : Nat), i + m = 48 → m < fuel → f_X8_count_104 fuel M (itS σ i) (nI i) = some (itS σ 48, M) := by
    intro m
    induction m with
    | zero =>
      intro i fuel him hf
      obtain ⟨fu, rfl⟩ : ∃ fu, fuel = fu + 1 := ⟨fuel - 1, by omega⟩
      rw [f_X8_count_104, if_pos (show (48 : Int32) ≤ nI i from nI_le (a := 48) (by omega) (by omega))]
      simp at him; subst him; rfl
    | succ m ih =>
      intro i fuel him hf
      obtain ⟨fu, rfl⟩ : ∃ fu, fuel = fu + 1 := ⟨fuel - 1, by omega⟩
      have hi := ih (i + 1) fu (by omega) (by omega)
      have a0 : (30 : Int32) + 12 * nI i = nI (30 + 12 * i) := by rw [show (12 : Int32) = nI 12 from rfl, nI_mul, show (30 : Int32) = nI 30 from rfl, nI_add]
      have a3 : nI (30 + 12 * i) + 3 = nI (33 + 12 * i) := by rw [show (3 : Int32) = nI 3 from rfl, nI_add]; congr 1; omega
      rw [f_X8_count_104, if_neg (show ¬ (48 : Int32) ≤ nI i from nI_ge (b := 48) (by omega) (by decide)), a0, Int32.add_zero, rd_nI (by omega) (by decide), Option.bind_some, nI_1]
      have he := h.2.2 i (by omega)
      rcases hx : sEn σ i with _ | ⟨f, n, o, its⟩
      · rw [hx] at he
        rw [show M 164 (30 + 12 * i) = -9 from he, if_pos (by decide), Int32.add_zero]
        have : itS σ (i + 1) = itS σ i := by simp only [itS, hx]
        rw [this] at hi
        exact hi
      · rw [hx] at he
        rw [itS_some hx] at hi
        rw [he.1]
        simp only [(form_t f (hw.2.2 _ _ _ _ _ hx).1).2.2.1]
        by_cases hf1 : f = 1
        · rw [if_neg (fun q => q hf1), a3, rd_nI (by omega) (by decide), Option.bind_some, (he.2.2.2 hf1).1]
          rw [if_pos hf1] at hi
          exact hi
        · rw [if_pos hf1, Int32.add_zero]
          rw [if_neg hf1] at hi
          exact hi
  exact key 48 0 1000 rfl (by decide)
theorem sh_t : ∀ k, k < 8 → (1 : Int32) <<< (nI k &&& 31) = bitI k ∧ (0 : Int32) <<< (nI k &&& 31) = 0 := by decide +kernel
theorem X8_onNow {M : Mem} {σ : Sc} (h : SMr (M 164) σ) : f_X8_onNow M = some (nI (mskB (sOn σ) 6), M) := by
  have key : ∀ (m i fuel : Nat), i + m = 6 → m < fuel → f_X8_onNow_4 fuel M (mskI (sOn σ) i) (nI i) = some (mskI (sOn σ) 6, M) := by
    intro m
    induction m with
    | zero =>
      intro i fuel him hf
      obtain ⟨fu, rfl⟩ : ∃ fu, fuel = fu + 1 := ⟨fuel - 1, by omega⟩
      rw [f_X8_onNow_4, if_pos (show (6 : Int32) ≤ nI i from nI_le (a := 6) (by omega) (by omega))]
      simp at him; subst him; rfl
    | succ m ih =>
      intro i fuel him hf
      obtain ⟨fu, rfl⟩ : ∃ fu, fuel = fu + 1 := ⟨fuel - 1, by omega⟩
      have hi := ih (i + 1) fu (by omega) (by omega)
      simp only [mskI] at hi
      rw [f_X8_onNow_4, if_neg (show ¬ (6 : Int32) ≤ nI i from nI_ge (b := 6) (by omega) (by decide)), m_a0, rd_nI (by omega) (by decide), Option.bind_some, Option.bind_some, (h.1 i (by omega)).1, nI_1]
      by_cases hh : sOn σ i = true
      · rw [if_pos hh, (sh_t i (by omega)).1]
        rw [if_pos hh] at hi
        exact hi
      · rw [if_neg hh, (sh_t i (by omega)).2, Int32.or_zero]
        rw [if_neg hh] at hi
        exact hi
  unfold f_X8_onNow
  rw [← mskI_B _ 6 (by decide)]
  exact key 6 0 1000 rfl (by decide)
