theorem setKF_KF (σ : Sc) (l a b c d : Nat) : setKF (setKF σ l a b) l c d = setKF σ l c d := by
  unfold setKF
  show (_, fup (fup (sKd σ) l a) l c, fup (fup (sFg σ) l b) l d, _) = _
  rw [fup_fup, fup_fup]
theorem setKF_self (σ : Sc) (l : Nat) : setKF σ l (sKd σ l) (sFg σ l) = σ := by
  obtain ⟨a, b, c, d⟩ := σ
  show (a, fup b l (b l), fup c l (c l), d) = _
  rw [fup_same, fup_same]
/-- the layer of another kind, or with another figure -/
def kiS (σ : Sc) (l w i : Nat) : Sc := if w = 0 then setKF σ l i (sFg σ l) else setKF σ l (sKd σ l) i
def wiS (σ : Sc) (row : List Int32) (l w : Nat) : Nat → Bool := fun i => decide (fstS (kiS σ l w i) row 0 = -9)
def nW (w : Nat) : Nat := if w = 0 then 6 else 10
theorem kiS_wf {σ : Sc} (hw : WFs σ) {l w i : Nat} (hi : i < nW w) : WFs (kiS σ l w i) := by
  unfold kiS nW at *
  by_cases h0 : w = 0
  · rw [if_pos h0] at hi ⊢; exact hw.kf hi (hw.1 l).2
  · rw [if_neg h0] at hi ⊢; exact hw.kf (hw.1 l).1 (by omega)
theorem X7_whatIs_58 {S : St} {l w : Nat} (hw : WFS S) (hl : l < 6) (hw2 : w < 2) : ∀ (m i : Nat) (M : Mem) (fuel : Nat) (τ : Sc), i + m = nW w → m < fuel → ClsI M S → SCr M 21 τ → WFs τ → (∀ a b, setKF τ l a b = setKF (gS S) l a b) →
    ∃ M', f_X7_whatIs_58 fuel M (nI l) (nI w) (mskI (wiS (gS S) (gR S) l w) i) (nI (nW w)) (nI i) = some (mskI (wiS (gS S) (gR S) l w) (nW w), M') ∧ CF M M' := by
  have hn10 : nW w ≤ 10 := by unfold nW; split <;> omega
  intro m
  induction m with
  | zero =>
    intro i M fuel τ him hf h ht hwt hp
    obtain ⟨fu, rfl⟩ : ∃ fu, fuel = fu + 1 := ⟨fuel - 1, by omega⟩
    rw [f_X7_whatIs_58, if_pos (show nI (nW w) ≤ nI i from nI_le (by omega) (by omega))]
    simp at him; rw [him]; exact ⟨M, rfl, CF.rf⟩
  | succ m ih =>
    intro i M fuel τ him hf h ht hwt hp
    obtain ⟨fu, rfl⟩ : ∃ fu, fuel = fu + 1 := ⟨fuel - 1, by omega⟩
    have hwk := kiS_wf (l := l) (w := w) (i := i) hw.1 (by omega)
    have step : ∃ M', Option.bind (f_X4_putKind M 21 (nI l) (if w = 0 then nI i else nI (sKd (gS S) l)) (if w = 0 then nI (sFg (gS S) l) else nI i)) (fun z1 => Option.bind (f_X7_firstNotSo z1 21) fun z2 => if ¬ z2.1 = (-9) then f_X7_whatIs_58 fu z2.2 (nI l) (nI w) (mskI (wiS (gS S) (gR S) l w) i) (nI (nW w)) (nI i + 1) else Option.bind (some (mskI (wiS (gS S) (gR S) l w) i ||| (1 <<< (nI i &&& 31)))) fun v4 => f_X7_whatIs_58 fu z2.2 (nI l) (nI w) v4 (nI (nW w)) (nI i + 1)) = some (mskI (wiS (gS S) (gR S) l w) (nW w), M') ∧ CF M M' := by
      have put : ∃ M1, f_X4_putKind M 21 (nI l) (if w = 0 then nI i else nI (sKd (gS S) l)) (if w = 0 then nI (sFg (gS S) l) else nI i) = some M1 ∧ SCr M1 21 (kiS (gS S) l w i) ∧ CF M M1 := by
        unfold kiS
        by_cases h0 : w = 0
        · rw [if_pos h0, if_pos h0, if_pos h0]
          obtain ⟨M1, a1, a2, a3⟩ := X4_putKind (l := l) (k := i) (f := sFg (gS S) l) ht hwt hl (by unfold nW at him; rw [if_pos h0] at him; omega) (hw.1.1 l).2
          exact ⟨M1, a1, by rw [← hp]; exact a2, fun j hj => a3 j (by omega) (by omega) (by omega)⟩
        · rw [if_neg h0, if_neg h0, if_neg h0]
          obtain ⟨M1, a1, a2, a3⟩ := X4_putKind (l := l) (k := sKd (gS S) l) (f := i) ht hwt hl (hw.1.1 l).1 (by unfold nW at him; rw [if_neg h0] at him; omega)
          exact ⟨M1, a1, by rw [← hp]; exact a2, fun j hj => a3 j (by omega) (by omega) (by omega)⟩
      obtain ⟨M1, a1, a2, a3⟩ := put
      have h1 := h.cf a3
      obtain ⟨M2, b1, b2⟩ := X7_firstNotSo (s := 21) (Or.inr (Or.inr rfl)) hwk hw.2.2.1 (gR S) 0 M1 1000 (by have := hw.2.2.1; omega) rfl (by omega) a2 h1.2.2.1
      have b1' : f_X7_firstNotSo M1 21 = some (fstS (kiS (gS S) l w i) (gR S) 0, M2) := b1
      rw [a1, Option.bind_some, b1', Option.bind_some]
      dsimp only
      rw [nI_1]
      have hcf : CF M M2 := a3.tr b2.cf
      obtain ⟨M', f1, f2⟩ := ih (i + 1) M2 fu (kiS (gS S) l w i) (by omega) (by omega) (h.cf hcf) (a2.fr (fun j x y => b2 j (by omega))) hwk (fun a b => by unfold kiS; split <;> exact setKF_KF _ _ _ _ _ _)
      simp only [mskI] at f1
      refine ⟨M', ?_, hcf.tr f2⟩
      by_cases hv : fstS (kiS (gS S) l w i) (gR S) 0 = -9
      · rw [if_neg (fun q => q hv), Option.bind_some]
        rw [if_pos (show wiS (gS S) (gR S) l w i = true by unfold wiS; simp [hv])] at f1
        exact f1
      · rw [if_pos hv]
        rw [if_neg (show ¬ wiS (gS S) (gR S) l w i = true by unfold wiS; simp [hv])] at f1
        exact f1
    rw [f_X7_whatIs_58, if_neg (nI_ge (by omega) (by omega))]
    unfold f_X7_whatIs_83 f_X7_whatIs_103
    have hwl : w = 0 ∨ w = 1 := by omega
    rcases hwl with rfl | rfl
    · rw [if_neg (by decide), if_neg (by decide), rd_nI hl (by decide), Option.bind_some, (h.1.2.1 l hl).2]
      exact step
    · rw [if_pos (by decide), rd_nI hl (by decide), Option.bind_some, if_pos (by decide), (h.1.2.1 l hl).1]
      exact step
