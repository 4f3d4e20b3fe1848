/-! bits -/
abbrev bitI (k : Nat) : Int32 := 1 <<< (nI k &&& 31)
theorem t_or : ∀ x, x < 256 → ∀ k, k < 8 → nI x ||| bitI k = nI (x ||| 2 ^ k) := by decide +kernel
theorem t_and : ∀ x, x < 256 → ∀ k, k < 8 → (nI x &&& bitI k = 0 ↔ x.testBit k = false) := by decide +kernel
theorem t_clr : ∀ x, x < 256 → ∀ k, k < 8 → x.testBit k = false → nI (x ||| 2 ^ k) &&& (bitI k ^^^ (-1)) = nI x := by decide +kernel
theorem t_shr : ∀ x, x < 256 → ∀ k, k < 8 → ((nI x >>> (nI k &&& 31)) &&& 1 = 0 ↔ x.testBit k = false) := by decide +kernel
theorem t_ne0 : ∀ k, k < 8 → bitI k ≠ 0 := by decide +kernel
theorem or_lt {x k : Nat} (h : x < 256) (hk : k < 8) : x ||| 2 ^ k < 256 := by
  have h2 : (2 : Nat) ^ k < 2 ^ 8 := Nat.pow_lt_pow_right (by decide) hk
  exact Nat.or_lt_two_pow (n := 8) h h2
theorem tb_or (x k j : Nat) : (x ||| 2 ^ k).testBit j = (x.testBit j || decide (k = j)) := by
  rw [Nat.testBit_or, Nat.testBit_two_pow]
/-! the abstract scene: which layers are on, kinds, figures, manners, entries -/
abbrev Ent : Type := Nat × Int32 × Nat × List (Int32 × Int32)
abbrev Sc : Type := (Nat → Bool) × (Nat → Nat) × (Nat → Nat) × (Nat → Nat) × (Nat → Option Ent)
abbrev sOn (σ : Sc) : Nat → Bool := σ.1
abbrev sKd (σ : Sc) : Nat → Nat := σ.2.1
abbrev sFg (σ : Sc) : Nat → Nat := σ.2.2.1
abbrev sMn (σ : Sc) : Nat → Nat := σ.2.2.2.1
abbrev sEn (σ : Sc) : Nat → Option Ent := σ.2.2.2.2
def fup {α : Type} (f : Nat → α) (i : Nat) (v : α) : Nat → α := fun j => if j = i then v else f j
def setOn (σ : Sc) (l : Nat) (b : Bool) : Sc := (fup (sOn σ) l b, σ.2)
def setKF (σ : Sc) (l k f : Nat) : Sc := (sOn σ, fup (sKd σ) l k, fup (sFg σ) l f, σ.2.2.2)
def setMn (σ : Sc) (k m : Nat) : Sc := (sOn σ, sKd σ, sFg σ, fup (sMn σ) k m, sEn σ)
def setEn (σ : Sc) (e : Nat) (v : Option Ent) : Sc := (sOn σ, sKd σ, sFg σ, sMn σ, fup (sEn σ) e v)
def rkO (σ : Sc) (l : Nat) : Int := rkS (sKd σ l) (sFg σ l) l
/-- the layers, the highest first -/
def ordS (σ : Sc) : List Nat := ordD (rkO σ) 6
def cntS (σ : Sc) (l k : Nat) (acc : List Nat) : Bool := if sKd σ l = 4 then acc.isEmpty else if sKd σ l = 5 then decide (k ≤ sFg σ l) else true
def offG (σ : Sc) (k : Nat) : List Nat → List Nat → List Nat
  | [], acc => acc
  | l :: ls, acc => match sEn σ (8 * l + k) with
    | none => offG σ k ls acc
    | some e => if sOn σ l = true ∧ cntS σ l k acc = true then (if e.1 = 4 then acc else offG σ k ls (l :: acc)) else offG σ k ls acc
/-- the layers of the offers, in order -/
def offS (σ : Sc) (k : Nat) : List Nat := offG σ k (ordS σ) []
abbrev Itm : Type := Int32 × Int32 × Int32
abbrev Vl : Type := Int32 ⊕ List Itm
abbrev Flt : Type := List (Int32 × Nat)
abbrev Acc : Type := Vl × Int32 × Int32
abbrev Rs : Type := Flt ⊕ Acc
abbrev CU : Type := Nat × Nat
def relab (l : Nat) : Vl → Vl
  | .inl n => .inl n
  | .inr is => .inr (is.map fun x => (x.1, x.2.1, nI l))
def put1 : List Itm → Itm → List Itm
  | [], x => [x]
  | y :: ys, x => if y.1 = x.1 then x :: ys else y :: put1 ys x
def mrg1 (acc : List Itm) (x : Itm) : Option (List Itm) := if (put1 acc x).length ≤ 10 then some (put1 acc x) else none
def mrgL : List Itm → List Itm → Option (List Itm)
  | acc, [] => some acc
  | acc, x :: xs => match mrg1 acc x with
    | none => none
    | some a => mrgL a xs
/-- the value of an offer: a fault, or the value and the deep sources -/
def mkS (rs : Nat → List Nat → CU → Rs × CU) (σ : Sc) (l k : Nat) (p : List Nat) (cu : CU) : (Flt ⊕ (Vl × Int32)) × CU :=
  match sEn σ (8 * l + k) with
  | none => (.inl [], cu)
  | some (f, n, o, its) =>
    if f = 2 then
      match rs o (p ++ [k]) cu with
      | (.inl fs, cu') => (.inl ((5, k) :: fs), cu')
      | (.inr (v, _, d), cu') => (.inr (relab l v, d ||| bitI l), cu')
    else if f = 3 then
      match rs o (p ++ [k]) cu with
      | (.inl fs, cu') => (.inl ((5, k) :: fs), cu')
      | (.inr (.inl m, _, d), cu') => if m + n ≤ 999 then (.inr (.inl (m + n), d ||| bitI l), cu') else (.inl [(4, k)], cu')
      | (.inr (.inr _, _, _), cu') => (.inl [(3, k)], cu')
    else if f = 1 then (.inr (.inr (its.map fun x => (x.1, x.2, nI l)), bitI l), cu)
    else (.inr (.inl n, bitI l), cu)
/-- one more offer taken -/
def tkS (m l k : Nat) (acc : Option Acc) (v : Vl) (d : Int32) : Flt ⊕ Acc :=
  if m = 2 then
    match v, acc with
    | .inr _, _ => .inl [(3, k)]
    | .inl x, some (.inl y, s, d0) => if y + x ≤ 999 then .inr (.inl (y + x), s ||| bitI l, d0 ||| d) else .inl [(4, k)]
    | .inl x, _ => if x ≤ 999 then .inr (.inl x, bitI l, d) else .inl [(4, k)]
  else if m = 3 then
    match v, acc with
    | .inr _, _ => .inl [(3, k)]
    | .inl x, some (.inl y, s, d0) => if x ≤ y then .inr (.inl y, s, d0) else .inr (.inl x, bitI l, d)
    | .inl x, _ => .inr (.inl x, bitI l, d)
  else if m = 4 then
    match v, acc with
    | .inl _, _ => .inl [(3, k)]
    | .inr xs, some (.inr ys, s, d0) => match mrgL ys xs with
      | none => .inl [(4, k)]
      | some zs => .inr (.inr zs, s ||| bitI l, d0 ||| d)
    | .inr xs, _ => match mrgL [] xs with
      | none => .inl [(4, k)]
      | some zs => .inr (.inr zs, bitI l, d)
  else .inr (v, bitI l, d)
def fldS (rs : Nat → List Nat → CU → Rs × CU) (σ : Sc) (k : Nat) (p : List Nat) (m : Nat) : List Nat → Option Acc → CU → Rs × CU
  | [], some a, cu => (.inr a, cu)
  | [], none, cu => (.inl [], cu)
  | l :: ls, acc, cu => match mkS rs σ l k p cu with
    | (.inl fs, cu') => (.inl fs, cu')
    | (.inr (v, d), cu') => match tkS m l k acc v d with
      | .inl fs => (.inl fs, cu')
      | .inr a => fldS rs σ k p m ls (some a) cu'
def pick (m : Nat) (os : List Nat) : List Nat := if m = 0 then os.drop (os.length - 1) else if m = 1 then os.take 1 else os
def resS (σ : Sc) : Nat → Nat → List Nat → CU → Rs × CU
  | 0, _, _, cu => (.inl [], cu)
  | n + 1, k, p, cu =>
    if 60 < cu.1 + 1 then (.inl [(6, k)], (cu.1 + 1, cu.2 ||| 2 ^ k))
    else if k ∈ p then (.inl [(2, k)], (cu.1 + 1, cu.2 ||| 2 ^ k))
    else if offS σ k = [] then (.inl [(1, k)], (cu.1 + 1, cu.2 ||| 2 ^ k))
    else fldS (resS σ n) σ k p (sMn σ k) (pick (sMn σ k) (offS σ k)) none (cu.1 + 1, cu.2 ||| 2 ^ k)
def askS (σ : Sc) (k : Nat) : Rs × CU := resS σ 12 k [] (0, 0)
/-! what a scene must be -/
def WFs (σ : Sc) : Prop := (∀ l, sKd σ l < 6 ∧ sFg σ l ≤ 9) ∧ (∀ k, sMn σ k < 5) ∧ ∀ e f n o its, sEn σ e = some (f, n, o, its) → f < 5 ∧ o < 8 ∧ its.length ≤ 4 ∧ 0 ≤ n ∧ n ≤ 99
/-- the bits of a set of layers -/
def mskB (p : Nat → Bool) : Nat → Nat
  | 0 => 0
  | n + 1 => if p n then mskB p n ||| 2 ^ n else mskB p n
theorem mskB_lt (p : Nat → Bool) : ∀ n, n ≤ 8 → mskB p n < 256 := by
  intro n
  induction n with
  | zero => intro _; simp [mskB]
  | succ n ih =>
    intro h
    simp only [mskB]
    split
    · exact or_lt (ih (by omega)) (by omega)
    · exact ih (by omega)
theorem mskB_tb (p : Nat → Bool) : ∀ n j, (mskB p n).testBit j = (decide (j < n) && p j) := by
  intro n
  induction n with
  | zero => intro j; simp [mskB]
  | succ n ih =>
    intro j
    simp only [mskB]
    by_cases hp : p n = true
    · rw [if_pos hp, tb_or, ih]
      by_cases hj : n = j
      · subst hj; simp [hp]
      · have : decide (j < n + 1) = decide (j < n) := by rw [decide_eq_decide]; omega
        simp [hj, this]
    · rw [if_neg hp, ih]
      by_cases hj : n = j
      · subst hj; simp [hp]
      · have : decide (j < n + 1) = decide (j < n) := by rw [decide_eq_decide]; omega
        simp [this]
theorem mskB_ext {p q : Nat → Bool} {n : Nat} (h : ∀ i, i < n → p i = q i) : mskB p n = mskB q n := by
  induction n with
  | zero => rfl
  | succ n ih => simp only [mskB]; rw [ih (fun i hi => h i (by omega)), h n (by omega)]
/-- an entry in the class's rows -/
def entC (M : Mem) (s e : Nat) : Option Ent → Prop
  | none => M (s + 5) e = -1
  | some (f, n, o, its) => M (s + 5) e = nI f ∧ M (s + 6) e = (if f = 1 then nI its.length else if f = 0 ∨ f = 3 then n else 0) ∧ M (s + 7) e = (if f = 2 ∨ f = 3 then nI o else -9) ∧ (f = 1 → ∀ i x, its[i]? = some x → M (s + 8) (4 * e + i) = x.1 ∧ M (s + 9) (4 * e + i) = x.2)
/-- the class's scene s holds σ -/
def SCr (M : Mem) (s : Nat) (σ : Sc) : Prop := M s 0 = nI (mskB (sOn σ) 6) ∧ (∀ l, l < 6 → M (s + 1) l = nI (sKd σ l) ∧ M (s + 2) l = nI (sFg σ l)) ∧ (∀ k, k < 8 → M (s + 3) k = nI (sMn σ k)) ∧ HasD (M (s + 4)) (ordS σ) ∧ ∀ e, e < 48 → entC M s e (sEn σ e)
theorem entC.fr {M M' : Mem} {s e : Nat} {v : Option Ent} (h : entC M s e v) (hM : ∀ i, s ≤ i → i < s + 10 → M' i = M i) : entC M' s e v := by
  match v, h with
  | none, h => show M' (s + 5) e = -1; rw [hM _ (by omega) (by omega)]; exact h
  | some (f, n, o, its), ⟨h1, h2, h3, h4⟩ =>
    refine ⟨?_, ?_, ?_, fun hf i x hx => ?_⟩
    · rw [hM _ (by omega) (by omega)]; exact h1
    · rw [hM _ (by omega) (by omega)]; exact h2
    · rw [hM _ (by omega) (by omega)]; exact h3
    · rw [hM _ (by omega) (by omega), hM _ (by omega) (by omega)]; exact h4 hf i x hx
theorem SCr.fr {M M' : Mem} {s : Nat} {σ : Sc} (h : SCr M s σ) (hM : ∀ i, s ≤ i → i < s + 10 → M' i = M i) : SCr M' s σ := by
  obtain ⟨h1, h2, h3, h4, h5⟩ := h
  refine ⟨?_, fun l hl => ?_, fun k hk => ?_, ?_, fun e he => (h5 e he).fr hM⟩
  · rw [hM _ (by omega) (by omega)]; exact h1
  · rw [hM _ (by omega) (by omega), hM _ (by omega) (by omega)]; exact h2 l hl
  · rw [hM _ (by omega) (by omega)]; exact h3 k hk
  · rw [hM _ (by omega) (by omega)]; exact h4
theorem X7_noLayer {M : Mem} {l : Nat} (h : l < 6) : f_X7_noLayer M (nI l) = some (0, M) := by
  unfold f_X7_noLayer
  rw [if_neg (nI_pos (by omega)), if_pos (show nI l < 6 from nI_lt (b := 6) (by omega) (by decide))]
  rfl
theorem X7_noLayer' {M : Mem} {l : Int32} (h : l < 0 ∨ ¬ l < 6) : f_X7_noLayer M l = some (1, M) := by
  unfold f_X7_noLayer
  by_cases h0 : l < 0
  · rw [if_pos h0]; rfl
  · rw [if_neg h0, if_neg (h.resolve_left h0)]; rfl
theorem X7_noKey {M : Mem} {l : Nat} (h : l < 8) : f_X7_noKey M (nI l) = some (0, M) := by
  unfold f_X7_noKey
  rw [if_neg (nI_pos (by omega)), if_pos (show nI l < 8 from nI_lt (b := 8) (by omega) (by decide))]
  rfl
theorem X7_noKey' {M : Mem} {l : Int32} (h : l < 0 ∨ ¬ l < 8) : f_X7_noKey M l = some (1, M) := by
  unfold f_X7_noKey
  by_cases h0 : l < 0
  · rw [if_pos h0]; rfl
  · rw [if_neg h0, if_neg (h.resolve_left h0)]; rfl
theorem X7_slotOf (M : Mem) (l k : Nat) : f_X7_slotOf M (nI l) (nI k) = some (nI (8 * l + k), M) := by
  unfold f_X7_slotOf
  rw [show (8 : Int32) = nI 8 from rfl, nI_mul, nI_add, Nat.mul_comm]
theorem rsc_eq {s : Nat} (h : okS s) : rsc (nI s) = some s := by
  rcases h with rfl | rfl | rfl <;> rfl
theorem X4_isOn {M : Mem} {s l : Nat} {σ : Sc} (h : SCr M s σ) (hl : l < 6) : f_X4_isOn M s (nI l) = some (if sOn σ l = true then 1 else 0, M) := by
  unfold f_X4_isOn
  rw [h.1]
  have := t_shr _ (mskB_lt (sOn σ) 6 (by decide)) l (by omega)
  rw [mskB_tb] at this
  by_cases hb : sOn σ l = true
  · rw [if_neg (by rw [this]; simp [hl, hb]), if_pos hb]; rfl
  · rw [if_pos (by rw [this]; simp [hl, hb]), if_neg hb]; rfl
