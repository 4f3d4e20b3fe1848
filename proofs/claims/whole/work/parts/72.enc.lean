def encL : List Itm → List Int32
  | [] => []
  | x :: xs => x.1 :: x.2.1 :: encL xs
def encS : Rs → List Int32
  | .inl fs => fs.map (·.1)
  | .inr (.inl n, _, _) => [n]
  | .inr (.inr is, _, _) => encL is
theorem encL_len (is : List Itm) : (encL is).length = 2 * is.length := by
  induction is with
  | nil => rfl
  | cons x xs ih => simp [encL, ih]; omega
theorem encL_get (is : List Itm) : ∀ i, (encL is)[2 * i]? = is[i]?.map (fun x => x.1) ∧ (encL is)[2 * i + 1]? = is[i]?.map (fun x => x.2.1) := by
  induction is with
  | nil => intro i; simp [encL]
  | cons x xs ih =>
    intro i
    cases i with
    | zero => simp [encL]
    | succ i =>
      obtain ⟨a, b⟩ := ih i
      have e1 : 2 * (i + 1) = 2 * i + 1 + 1 := by omega
      rw [e1]
      simp only [encL, List.getElem?_cons_succ]
      exact ⟨a, b⟩
theorem encL_inj {xs ys : List Itm} : encL xs = encL ys ↔ xs.map (fun x => (x.1, x.2.1)) = ys.map (fun x => (x.1, x.2.1)) := by
  induction xs generalizing ys with
  | nil => cases ys <;> simp [encL]
  | cons x xs ih =>
    cases ys with
    | nil => simp [encL]
    | cons y ys =>
      simp only [encL, List.map_cons, List.cons.injEq, Prod.mk.injEq, ih]
      constructor
      · rintro ⟨a, b, c⟩; exact ⟨⟨a, b⟩, c⟩
      · rintro ⟨⟨a, b⟩, c⟩; exact ⟨a, b, c⟩
theorem likeS_enc (r s : Rs) : likeS r s = decide (stS r = stS s ∧ encS r = encS s) := by
  rcases r with fs | ⟨a | xs, s1, d1⟩ <;> rcases s with gs | ⟨b | ys, s2, d2⟩ <;> simp [likeS, stS, encS, encL_inj]
