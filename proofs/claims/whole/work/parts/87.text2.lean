def stL (its : List (Int32 × Int32)) : Int32 × Bool := its.foldl (fun (b : Int32 × Bool) (x : Int32 × Int32) => (b.1 ||| ((1 : Int32) <<< (x.1 &&& 31)), b.2 || !decide ((b.1 >>> (x.1 &&& 31)) &&& 1 = 0))) (0, false)
theorem stL_snoc (its : List (Int32 × Int32)) (x : Int32 × Int32) : stL (its ++ [x]) = ((stL its).1 ||| (1 <<< (x.1 &&& 31)), (stL its).2 || !decide (((stL its).1 >>> (x.1 &&& 31)) &&& 1 = 0)) := by
  unfold stL
  rw [List.foldl_append]
  rfl
def itG (ls : List Int32) : Nat → PS → List (Int32 × Int32) → List (Int32 × Int32) × PS
  | _, .inl q, acc => (acc, .inl q)
  | 0, .inr p, acc => (acc, .inr p)
  | n + 1, .inr p, acc => match dg ls (.inr p) with
    | .inl _ => (acc, .inr p)
    | .inr q => itG ls n (tw ls (.inr q)) (acc ++ [(nI (dv ls (.inr p)), nI (twv ls (.inr q)))])
theorem itG_inl {ls : List Int32} {n q : Nat} {acc : List (Int32 × Int32)} : itG ls n (.inl q) acc = (acc, .inl q) := by cases n <;> rfl
def eQ (ls : List Int32) : PS → PS
  | .inl q => .inl q
  | .inr p => if cN ls p = 61 then tw ls (.inr (p + 1)) else if cN ls p = 33 then .inr (p + 1) else if cN ls p = 64 then ky ls (.inr (p + 1)) else if cN ls p = 43 then tw ls (ky ls (.inr (p + 1))) else if cN ls p = 91 then sg ls 93 (itG ls 100 (.inr (p + 1)) []).2 else .inl p
def eV (ls : List Int32) : PS → Ent
  | .inl _ => (0, 0, 0, [])
  | .inr p => if cN ls p = 61 then (0, nI (twv ls (.inr (p + 1))), 0, []) else if cN ls p = 33 then (4, 0, 0, []) else if cN ls p = 64 then (2, 0, kv ls (.inr (p + 1)), []) else if cN ls p = 43 then (3, nI (twv ls (ky ls (.inr (p + 1)))), kv ls (.inr (p + 1)), []) else (1, 0, 0, (itG ls 100 (.inr (p + 1)) []).1)
def stQ (ls : List Int32) (p : Nat) : PS :=
  if cN ls p = 108 then sg ls 59 (dg ls (dg ls (dg ls (.inr (p + 1))))) else if cN ls p = 111 then sg ls 59 (dg ls (.inr (p + 1))) else if cN ls p = 109 then sg ls 59 (dg ls (ky ls (.inr (p + 1)))) else if cN ls p = 101 then sg ls 59 (eQ ls (ky ls (dg ls (.inr (p + 1))))) else if cN ls p = 100 then sg ls 59 (ky ls (dg ls (.inr (p + 1)))) else .inl p
/-! the class's statement -/
def ITM (M : Mem) (its : List (Int32 × Int32)) : Prop := M 99 9 = nI its.length ∧ M 99 10 = (stL its).1 ∧ M 99 11 = oI (stL its).2 ∧ ∀ i x, i < 4 → its[i]? = some x → M 100 i = x.1 ∧ M 101 i = x.2
theorem X5_addItem {M : Mem} {its : List (Int32 × Int32)} {a b : Int32} (h : ITM M its) (hl : its.length < 2 ^ 30) : ∃ M', f_X5_addItem M a b = some M' ∧ ITM M' (its ++ [(a, b)]) ∧ (∀ i, i ≠ 99 → i ≠ 100 → i ≠ 101 → M' i = M i) ∧ ∀ j, j < 9 → M' 99 j = M 99 j := by
  obtain ⟨h1, h2, h3, h4⟩ := h
  have tail : ∀ A : Mem, (∀ j, A 99 j = M 99 j) → (∀ i x, i < 4 → (its ++ [(a, b)])[i]? = some x → A 100 i = x.1 ∧ A 101 i = x.2) → (∀ i, i ≠ 100 → i ≠ 101 → A i = M i) → ∃ M', f_X5_addItem_28 A a = some M' ∧ ITM M' (its ++ [(a, b)]) ∧ (∀ i, i ≠ 99 → i ≠ 100 → i ≠ 101 → M' i = M i) ∧ ∀ j, j < 9 → M' 99 j = M 99 j := by
    intro A g1 g2 g3
    unfold f_X5_addItem_28
    rw [wrf_eq, Option.bind_some, g1]
    generalize hB : wr A 99 9 (M 99 9 + 1) = B
    have b9 : B 99 9 = nI (its.length + 1) := by rw [← hB, wr_sf, h1, nI_1]
    have bj : ∀ j, j ≠ 9 → B 99 j = M 99 j := fun j hj => by rw [← hB, wr_ap, if_neg (fun q => hj q.2), g1]
    have bi : ∀ i, i ≠ 99 → B i = A i := fun i hi => by rw [← hB, wr_ne hi]
    have fin : ∀ d : Bool, ∃ M', f_X5_addItem_59 B a (oI d) (B 99 11) = some M' ∧ M' 99 9 = nI (its.length + 1) ∧ M' 99 10 = ((stL its).1 ||| (1 <<< (a &&& 31))) ∧ M' 99 11 = oI ((stL its).2 || d) ∧ (∀ i, i ≠ 99 → M' i = A i) ∧ ∀ j, j < 9 → M' 99 j = M 99 j := by
      intro d
      unfold f_X5_addItem_59
      rw [bj 11 (by decide), h3]
      have ho : oI (stL its).2 ||| oI d = oI ((stL its).2 || d) := by cases (stL its).2 <;> cases d <;> decide
      rw [ho, wrz_eq (by cases ((stL its).2 || d) <;> decide), Option.bind_some, wrf_eq, Option.bind_some]
      refine ⟨_, rfl, ?_, ?_, ?_, fun i hi => ?_, fun j hj => ?_⟩
      · rw [wr_ap, if_neg (by decide), wr_ap, if_neg (by decide)]; exact b9
      · rw [wr_sf, wr_ap, if_neg (by decide), bj 10 (by decide), h2]
      · rw [wr_ap, if_neg (by decide), wr_sf]
      · rw [wr_ne hi, wr_ne hi, bi i hi]
      · rw [wr_ap, if_neg (by omega), wr_ap, if_neg (by omega), bj j (by omega)]
    have fin2 : ∀ d : Bool, d = !decide (((stL its).1 >>> (a &&& 31)) &&& 1 = 0) → ∃ M', f_X5_addItem_59 B a (oI d) (B 99 11) = some M' ∧ ITM M' (its ++ [(a, b)]) ∧ (∀ i, i ≠ 99 → i ≠ 100 → i ≠ 101 → M' i = M i) ∧ ∀ j, j < 9 → M' 99 j = M 99 j := by
      intro d hd
      obtain ⟨M', e1, e2, e3, e4, e5, e6⟩ := fin d
      refine ⟨M', e1, ⟨?_, ?_, ?_, fun i x hi hx => ?_⟩, fun i p q r => by rw [e5 i p, g3 i q r], e6⟩
      · rw [e2]; simp
      · rw [stL_snoc, e3]
      · rw [stL_snoc, e4, hd]
      · rw [e5 100 (by decide), e5 101 (by decide)]; exact g2 i x hi hx
    rw [bj 10 (by decide), h2]
    by_cases hc : ((stL its).1 >>> (a &&& 31)) &&& 1 = 0
    · rw [if_pos hc]
      exact fin2 false (by simp [hc])
    · rw [if_neg hc]
      exact fin2 true (by simp [hc])
  unfold f_X5_addItem
  rw [h1]
  by_cases h5 : 4 ≤ its.length
  · rw [if_pos (show (4 : Int32) ≤ nI its.length from nI_le (a := 4) h5 (by omega))]
    refine tail M (fun _ => rfl) (fun i x hi hx => h4 i x hi ?_) (fun _ _ _ => rfl)
    rw [List.getElem?_append_left (by omega)] at hx
    exact hx
  · rw [if_neg (show ¬ (4 : Int32) ≤ nI its.length from nI_ge (b := 4) (by omega) (by decide)), wra_nI (by omega) (by decide), Option.bind_some, wr_ne (show 99 ≠ 100 by decide), h1, wra_nI (by omega) (by decide), Option.bind_some]
    refine tail _ (fun j => by rw [wr_ne (by decide), wr_ne (by decide)]) (fun i x hi hx => ?_) (fun i p q => by rw [wr_ne q, wr_ne p])
    rw [wr_ne (show 100 ≠ 101 by decide), wr_ap, wr_ap]
    by_cases hil : i = its.length
    · subst hil
      rw [List.getElem?_append_right (Nat.le_refl _)] at hx
      simp at hx
      subst hx
      simp
    · rw [if_neg (by omega), if_neg (by omega), wr_ne (by decide)]
      have := (List.getElem?_eq_some_iff.mp hx).1
      simp at this
      rw [List.getElem?_append_left (by omega)] at hx
      exact h4 i x hi hx
theorem X6_readItems_2 {ls : List Int32} (hl : LW ls) : ∀ (n p i fuel : Nat) (M : Mem) (its : List (Int32 × Int32)), ls.length < p + n → i ≤ p → n < fuel → AT M ls p → ITM M its → its.length ≤ i →
    match (itG ls n (.inr p) its).2 with
    | .inr q => ∃ M', f_X6_readItems_2 fuel M (nI i) = some (1, M') ∧ AT M' ls q ∧ FX M M' ∧ ITM M' (itG ls n (.inr p) its).1 ∧ ∀ j, j < 9 → M' 99 j = M 99 j
    | .inl q => ∃ M', f_X6_readItems_2 fuel M (nI i) = some (0, M') ∧ AT M' ls q ∧ FX M M' := by
  intro n
  induction n with
  | zero =>
    intro p i fuel M its hp hi hf h hI hil
    have := h.2.1
    omega
  | succ n ih =>
    intro p i fuel M its hp hi hf h hI hil
    obtain ⟨fu, rfl⟩ : ∃ fu, fuel = fu + 1 := ⟨fuel - 1, by omega⟩
    have hp0 := h.2.1
    have hl1 := hl.1
    rw [f_X6_readItems_2]
    by_cases h96 : 96 ≤ i
    · have e1 : dg ls (.inr p) = .inl p := by
        show (if _ then _ else _) = _
        rw [lw_out (by omega), if_neg (by decide)]
      have e2 : itG ls (n + 1) (.inr p) its = (its, .inr p) := by simp only [itG]; rw [e1]
      rw [e2, if_pos (show (96 : Int32) ≤ nI i from nI_le (a := 96) h96 (by omega))]
      exact ⟨M, rfl, h, FX.rf, hI, fun _ _ => rfl⟩
    · rw [if_neg (show ¬ (96 : Int32) ≤ nI i from nI_ge (b := 96) (by omega) (by decide))]
      rcases X6_readDigit hl h with ⟨q, M1, e1, e2, e3, e4, e5⟩ | ⟨e1, e2⟩
      · have hv1 : dv ls (.inr p) ≤ 57 - 48 := tv_le
        have hg : itG ls (n + 1) (.inr p) its = itG ls n (tw ls (.inr q)) (its ++ [(nI (dv ls (.inr p)), nI (twv ls (.inr q)))]) := by
          simp only [itG]; rw [e1]
        rw [hg, e2, Option.bind_some]
        dsimp only
        rw [if_pos (ge0 (by omega))]
        obtain ⟨p', hp', hq, -⟩ := tk_inr e1
        cases hp'
        rcases X6_readPair hl e3 with ⟨r, M2, g1, g2, g3, g4, g5⟩ | ⟨r, M2, g1, g2, g3, g4, g5⟩
        · have hv2 : dv ls (.inr q) ≤ 57 - 48 := tv_le
          have hv3 : dv ls (dg ls (.inr q)) ≤ 57 - 48 := tv_le
          have hI2 : ITM M2 its := by unfold ITM at *; rw [g5.1, g5.2.1, g5.2.2, e5.1, e5.2.1, e5.2.2]; exact hI
          obtain ⟨M3, c1, c2, c3, c4⟩ := X5_addItem (a := nI (dv ls (.inr p))) (b := nI (twv ls (.inr q))) hI2 (by omega)
          have hrq : q ≤ r := by
            have := (tk_le (ls := ls) (lo := 48) (hi := 57) (s := .inr q) (m := q) (by decide) e3.2.1 (Nat.le_refl _))
            have h2 := (tk_le (ls := ls) (lo := 48) (hi := 57) (s := dg ls (.inr q)) (m := q) (by decide) this.2 this.1)
            have h3 : ps (dg ls (dg ls (.inr q))) = r := by
              show ps (tw ls (.inr q)) = r
              rw [g1]; rfl
            rw [← h3]; exact h2.1
          have hat : AT M3 ls r := by unfold AT at *; rw [c3 97 (by decide) (by decide) (by decide), c3 98 (by decide) (by decide) (by decide)]; exact g3
          have hfx : FX M M3 := (e4.tr g4).tr ⟨fun i _ x y z => c3 i x y z, fun j _ => by rw [c3 97 (by decide) (by decide) (by decide)]⟩
          have hj : ∀ j, j < 9 → M3 99 j = M 99 j := fun j hj => by rw [c4 j hj, g5.1, e5.1]
          have ih1 := ih r (i + 1) fu M3 _ (by omega) (by omega) (by omega) hat c2 (by simp; omega)
          rw [g1, g2, Option.bind_some]
          dsimp only
          rw [if_pos (show (0 : Int32) ≤ nI (twv ls (.inr q)) from ge0 (by show 10 * _ + _ < _; omega)), c1, Option.bind_some, nI_1]
          generalize hS : itG ls n (.inr r) (its ++ [(nI (dv ls (.inr p)), nI (twv ls (.inr q)))]) = G at *
          rcases G with ⟨its', s'⟩
          rcases s' with t | t
          · obtain ⟨M', f1, f2, f3⟩ := ih1
            exact ⟨M', f1, f2, hfx.tr f3⟩
          · obtain ⟨M', f1, f2, f3, f4, f5⟩ := ih1
            exact ⟨M', f1, f2, hfx.tr f3, f4, fun j hj2 => by rw [f5 j hj2, hj j hj2]⟩
        · rw [g1, itG_inl, g2, Option.bind_some]
          dsimp only
          rw [if_neg (by decide)]
          exact ⟨M2, rfl, g3, e4.tr g4⟩
      · have hg : itG ls (n + 1) (.inr p) its = (its, .inr p) := by simp only [itG]; rw [e1]
        rw [hg, e2, Option.bind_some]
        dsimp only
        rw [if_neg (by decide)]
        exact ⟨M, rfl, h, FX.rf, hI, fun _ _ => rfl⟩
