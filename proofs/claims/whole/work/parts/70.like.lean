/-! what is kept of a key, and whether it is like -/
def likeS : Rs → Rs → Bool
  | .inl fs, .inl gs => decide (fs.map (·.1) = gs.map (·.1))
  | .inr (.inl a, _, _), .inr (.inl b, _, _) => decide (a = b)
  | .inr (.inr xs, _, _), .inr (.inr ys, _, _) => decide (xs.map (fun x => (x.1, x.2.1)) = ys.map (fun x => (x.1, x.2.1)))
  | _, _ => false
/-- what an Outcome keeps -/
def KPo (M : Mem) (o : Nat) : Rs → Prop
  | .inl fs => M o 0 = 2 ∧ M o 5 = nI fs.length ∧ fs.length ≤ 9 ∧ ∀ i f, fs[i]? = some f → M (o + 4) i = f.1
  | .inr (.inl n, _, _) => M o 0 = 0 ∧ M o 1 = n
  | .inr (.inr is, _, _) => M o 0 = 1 ∧ M o 1 = nI is.length ∧ is.length ≤ 10 ∧ ∀ i x, is[i]? = some x → M (o + 1) i = x.1 ∧ M (o + 2) i = x.2.1
theorem KPo.of {M : Mem} {σ : Sc} {k : Nat} (hw : WFs σ) (hk : k < 8) (h : RSo M 34 (askS σ k).1) : KPo M 34 (askS σ k).1 := by
  rcases hr : (askS σ k).1 with fs | ⟨v | is, s, d⟩
  · rw [hr] at h
    exact ⟨h.1, h.2.1, askS_len hw hk hr, fun i f hf => (h.2.2 i f hf).1⟩
  · rw [hr] at h; exact h.1
  · rw [hr] at h; exact ⟨h.1.1, h.1.2.1, h.1.2.2.1, fun i x hx => ⟨(h.1.2.2.2 i x hx).1, (h.1.2.2.2 i x hx).2.1⟩⟩
theorem KPo.fr {M M' : Mem} {o : Nat} {r : Rs} (h : KPo M o r) (hM : ∀ i, o ≤ i → i ≤ o + 6 → M' i = M i) : KPo M' o r := by
  have e0 := hM o (by omega) (by omega)
  have e1 := hM (o + 1) (by omega) (by omega)
  have e2 := hM (o + 2) (by omega) (by omega)
  have e4 := hM (o + 4) (by omega) (by omega)
  rcases r with fs | ⟨v | is, s, d⟩
  · unfold KPo at *; rw [e0, e4]; exact h
  · unfold KPo at *; rw [e0]; exact h
  · unfold KPo at *; rw [e0, e1, e2]; exact h
theorem X1_keep {M : Mem} {o : Nat} {r : Rs} (ho : 100 < o) (h : KPo M 34 r) : ∃ M', f_X1_keep M o 34 = some M' ∧ KPo M' o r ∧ ∀ i, (i < o ∨ o + 6 < i) → M' i = M i := by
  have hc : ∀ (A : Mem) (a b : Nat), acp 10 10 A a 0 b 0 10 = some (rset A b (va_cpy (A a) (A b) 0 0 10)) := fun A a b => acp_nI (sp := 0) (n := 10) (by decide) (by decide) (by decide) (by decide)
  have hc9 : ∀ (A : Mem) (a b : Nat), acp 9 9 A a 0 b 0 9 = some (rset A b (va_cpy (A a) (A b) 0 0 9)) := fun A a b => acp_nI (sp := 0) (n := 9) (by decide) (by decide) (by decide) (by decide)
  unfold f_X1_keep
  rw [wrf_eq, Option.bind_some, wrf_eq, Option.bind_some, wrf_eq, Option.bind_some, hc, Option.bind_some, hc, Option.bind_some, hc9, Option.bind_some]
  generalize hA : wr (wr (wr M o 0 (M 34 0)) o 1 (wr M o 0 (M 34 0) 34 1)) o 5 (wr (wr M o 0 (M 34 0)) o 1 (wr M o 0 (M 34 0) 34 1) 34 5) = A
  have ar : ∀ i, i ≠ o → A i = M i := fun i hi => by rw [← hA, wr_ne hi, wr_ne hi, wr_ne hi]
  have hn : (34 : Nat) ≠ o := by omega
  have a0 : A o 0 = M 34 0 := by rw [← hA]; simp [wr_ap]
  have a1 : A o 1 = M 34 1 := by rw [← hA]; simp [wr_ap, hn]
  have a5 : A o 5 = M 34 5 := by rw [← hA]; simp [wr_ap, hn]
  generalize hB : rset A (o + 1) (va_cpy (A (34 + 1)) (A (o + 1)) 0 0 10) = B
  have br : ∀ i, i ≠ o + 1 → B i = A i := fun i hi => by rw [← hB, rset_ne hi]
  have b1 : ∀ j, j < 10 → B (o + 1) j = M 35 j := fun j hj => by rw [← hB, rset_ap, if_pos rfl, cpy_at hj, ar _ (by omega)]
  generalize hC : rset B (o + 2) (va_cpy (B (34 + 2)) (B (o + 2)) 0 0 10) = C
  have cr : ∀ i, i ≠ o + 2 → C i = B i := fun i hi => by rw [← hC, rset_ne hi]
  have c2 : ∀ j, j < 10 → C (o + 2) j = M 36 j := fun j hj => by rw [← hC, rset_ap, if_pos rfl, cpy_at hj, br _ (by omega), ar _ (by omega)]
  generalize hD : rset C (o + 4) (va_cpy (C (34 + 4)) (C (o + 4)) 0 0 9) = D
  have dr : ∀ i, i ≠ o + 4 → D i = C i := fun i hi => by rw [← hD, rset_ne hi]
  have d4 : ∀ j, j < 9 → D (o + 4) j = M 38 j := fun j hj => by rw [← hD, rset_ap, if_pos rfl, cpy_at hj, cr _ (by omega), br _ (by omega), ar _ (by omega)]
  have do0 : ∀ j, D o j = A o j := fun j => by rw [dr _ (by omega), cr _ (by omega), br _ (by omega)]
  refine ⟨D, rfl, ?_, fun i hi => by rw [dr _ (by omega), cr _ (by omega), br _ (by omega), ar _ (by omega)]⟩
  rcases r with fs | ⟨v | is, s, d⟩
  · obtain ⟨g1, g2, g3, g4⟩ := h
    refine ⟨by rw [do0, a0]; exact g1, by rw [do0, a5]; exact g2, g3, fun i f hf => ?_⟩
    have := (List.getElem?_eq_some_iff.mp hf).1
    rw [d4 i (by omega)]; exact g4 i f hf
  · exact ⟨by rw [do0, a0]; exact h.1, by rw [do0, a1]; exact h.2⟩
  · obtain ⟨g1, g2, g3, g4⟩ := h
    refine ⟨by rw [do0, a0]; exact g1, by rw [do0, a1]; exact g2, g3, fun i x hx => ?_⟩
    have := (List.getElem?_eq_some_iff.mp hx).1
    rw [dr _ (by omega), cr _ (by omega), b1 i (by omega), dr _ (by omega), c2 i (by omega)]
    exact g4 i x hx
