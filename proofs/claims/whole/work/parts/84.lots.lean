def nzI (z : Int32) : Int32 := z * 1664525 + 1013904223
def drw (z : Int32) (m : Nat) : Nat := ((nzI z &&& 2147483647) / 256).toNatClampNeg % m
theorem and_nn (z : Int32) : ∃ a, a < 2 ^ 31 ∧ z &&& 2147483647 = nI a := by
  have h1 : (z &&& 2147483647).toBitVec.msb = false := by
    rw [Int32.toBitVec_and, BitVec.msb_and, show (2147483647 : Int32).toBitVec.msb = false by decide, Bool.and_false]
  have h2 : ¬ (z &&& 2147483647) < 0 := by
    rw [Int32.lt_iff_toInt_lt]
    have : (z &&& 2147483647).toInt = ((z &&& 2147483647).toBitVec.toNat : Int) := BitVec.toInt_eq_toNat_of_msb h1
    rw [this]
    show ¬ _ < (0 : Int)
    omega
  obtain ⟨a, ha, h⟩ := nI_of h2
  exact ⟨a, ha, h⟩
theorem nI_dv {a b : Nat} (ha : a < 2 ^ 31) (hb : b < 2 ^ 31) : nI a / nI b = nI (a / b) := (Int32.ofNat_div ha hb).symm
theorem drw_t {z : Int32} {m : Nat} (hm : 0 < m) (hm2 : m < 2 ^ 31) : ∃ v, dvI (nzI z &&& 2147483647) 256 = some v ∧ rmI v (nI m) = some (nI (drw z m)) ∧ drw z m < m := by
  obtain ⟨a, ha, h⟩ := and_nn (nzI z)
  have h1 : nI a / 256 = nI (a / 256) := nI_dv (b := 256) ha (by decide)
  have h2 : (nI (a / 256)).toNatClampNeg = a / 256 := Int32.toNatClampNeg_ofNat_of_lt (by omega)
  refine ⟨nI (a / 256), ?_, ?_, ?_⟩
  · unfold dvI
    rw [if_neg (by decide), h, h1]
  · unfold rmI drw
    rw [h, h1, h2, if_neg (fun q => by have := (nI_eq (b := 0) hm2 (by decide)).mp q; omega), nI_dv (by omega) hm2, nI_mul, nI_sub (Nat.div_mul_le_self _ m)]
    congr 2
    have := Nat.div_add_mod (a / 256) m
    rw [Nat.mul_comm] at this
    omega
  · exact Nat.mod_lt _ hm
theorem X0_below {M : Mem} {m : Nat} (hm : 0 < m) (hm2 : m < 2 ^ 31) : f_X0_below M (nI m) = some (nI (drw (M 104 0) m), wr M 104 0 (nzI (M 104 0))) := by
  obtain ⟨v, h1, h2, -⟩ := drw_t (z := M 104 0) hm hm2
  unfold f_X0_below
  rw [wrf_eq, Option.bind_some, if_pos (show 0 < nI m from nI_lt (a := 0) hm hm2), wr_ap, if_pos ⟨rfl, rfl⟩]
  rw [show M 104 0 * 1664525 + 1013904223 = nzI (M 104 0) from rfl, h1, Option.bind_some, h2, Option.bind_some]
theorem X8_draw {M : Mem} {m : Nat} (hm : 0 < m) (hm2 : m < 2 ^ 31) : f_X8_draw M (nI m) = some (nI (drw (M 163 11) m), wr M 163 11 (nzI (M 163 11))) := by
  obtain ⟨v, h1, h2, -⟩ := drw_t (z := M 163 11) hm hm2
  unfold f_X8_draw
  rw [wrf_eq, Option.bind_some, wr_ap, if_pos ⟨rfl, rfl⟩]
  rw [show M 163 11 * 1664525 + 1013904223 = nzI (M 163 11) from rfl, h1, Option.bind_some, h2, Option.bind_some]
theorem drw_lt (z : Int32) {m : Nat} (hm : 0 < m) : drw z m < m := Nat.mod_lt _ hm
def dr1 (x : Sc × Int32) : Sc × Int32 := (putN x.1 (drw x.2 6) (drw (nzI x.2) 8) (nI (drw (nzI (nzI x.2)) 100)), nzI (nzI (nzI x.2)))
theorem dr1_wf {x : Sc × Int32} (hw : WFs x.1) : WFs (dr1 x).1 := putN_wf hw (by have := drw_lt (nzI (nzI x.2)) (m := 100) (by decide); omega)
def drN : Nat → Sc × Int32 → Sc × Int32
  | 0, x => x
  | m + 1, x => drN m (dr1 x)
theorem drN_wf : ∀ (m : Nat) (x : Sc × Int32), WFs x.1 → WFs (drN m x).1 := by
  intro m
  induction m with
  | zero => intro x h; exact h
  | succ m ih => intro x h; exact ih _ (dr1_wf h)
def lotV (w : Nat) (τ : Sc) : Nat := if w = 0 then tvS τ 8 else 8 - pcN (mskB (soS τ 1) 8)
def lotT (σ : Sc) (w : Nat) : Nat → Int32 → Int32 → Int32
  | 0, _, acc => acc
  | m + 1, z, acc => lotT σ w m (drN 4 (σ, z)).2 (acc + nI (lotV w (drN 4 (σ, z)).1))
/-! the class -/
theorem X7_draw_13 : ∀ (m i : Nat) (M : Mem) (fuel : Nat) (x : Sc × Int32), i + m = 4 → m < fuel → WFs x.1 → SCr M 21 x.1 → M 104 0 = x.2 → ∃ M', f_X7_drawTrial_13 fuel M (nI i) = some M' ∧ SCr M' 21 (drN m x).1 ∧ M' 104 0 = (drN m x).2 ∧ CF M M' := by
  intro m
  induction m with
  | zero =>
    intro i M fuel x him hf hw h hz
    obtain ⟨fu, rfl⟩ : ∃ fu, fuel = fu + 1 := ⟨fuel - 1, by omega⟩
    rw [f_X7_drawTrial_13, if_pos (show (4 : Int32) ≤ nI i from nI_le (a := 4) (by omega) (by omega))]
    exact ⟨M, rfl, h, hz, CF.rf⟩
  | succ m ih =>
    intro i M fuel x him hf hw h hz
    obtain ⟨fu, rfl⟩ : ∃ fu, fuel = fu + 1 := ⟨fuel - 1, by omega⟩
    have b1 : ∀ A, f_X0_below A 6 = some (nI (drw (A 104 0) 6), wr A 104 0 (nzI (A 104 0))) := fun A => X0_below (m := 6) (by decide) (by decide)
    have b2 : ∀ A, f_X0_below A 8 = some (nI (drw (A 104 0) 8), wr A 104 0 (nzI (A 104 0))) := fun A => X0_below (m := 8) (by decide) (by decide)
    have b3 : ∀ A, f_X0_below A 100 = some (nI (drw (A 104 0) 100), wr A 104 0 (nzI (A 104 0))) := fun A => X0_below (m := 100) (by decide) (by decide)
    rw [f_X7_drawTrial_13, if_neg (show ¬ (4 : Int32) ≤ nI i from nI_ge (b := 4) (by omega) (by decide)), b1, Option.bind_some]
    dsimp only
    rw [hz]
    generalize hA : wr M 104 0 (nzI x.2) = A
    have a0 : A 104 0 = nzI x.2 := by rw [← hA, wr_ap, if_pos ⟨rfl, rfl⟩]
    have a1 : ∀ j, j ≠ 104 → A j = M j := fun j hj => by rw [← hA, wr_ne hj]
    rw [b2, Option.bind_some]
    dsimp only
    rw [a0]
    generalize hB : wr A 104 0 (nzI (nzI x.2)) = B
    have c0 : B 104 0 = nzI (nzI x.2) := by rw [← hB, wr_ap, if_pos ⟨rfl, rfl⟩]
    have c1 : ∀ j, j ≠ 104 → B j = M j := fun j hj => by rw [← hB, wr_ne hj, a1 j hj]
    rw [b3, Option.bind_some]
    dsimp only
    rw [c0]
    generalize hC : wr B 104 0 (nzI (nzI (nzI x.2))) = C
    have d0 : C 104 0 = nzI (nzI (nzI x.2)) := by rw [← hC, wr_ap, if_pos ⟨rfl, rfl⟩]
    have d1 : ∀ j, j ≠ 104 → C j = M j := fun j hj => by rw [← hC, wr_ne hj, c1 j hj]
    obtain ⟨M1, e1, e2, e3⟩ := X4_putOn (M := C) (s := 21) (l := drw x.2 6) (k := drw (nzI x.2) 8) (n := nI (drw (nzI (nzI x.2)) 100)) (h.fr (fun j a b => d1 j (by omega))) hw (drw_lt _ (by decide)) (drw_lt _ (by decide))
    have hcf : CF M M1 := fun j hj => by rw [e3 j (by omega), d1 j (by omega)]
    rw [e1, Option.bind_some, nI_1]
    obtain ⟨M', f1, f2, f3, f4⟩ := ih (i + 1) M1 fu (dr1 x) (by omega) (by omega) (dr1_wf hw) e2 (by rw [e3 104 (by omega)]; exact d0)
    exact ⟨M', f1, f2, f3, hcf.tr f4⟩
theorem X7_together {M : Mem} {τ : Sc} (hw : WFs τ) (h : SCr M 21 τ) : ∃ M', f_X7_numbersTogether M 21 = some (nI (tvS τ 8), M') ∧ FRr M M' := by
  have key : ∀ (m i : Nat) (M : Mem) (fuel : Nat), i + m = 8 → m < fuel → SCr M 21 τ → ∃ M', f_X7_numbersTogether_4 fuel M 21 (nI (tvS τ i)) (nI i) = some (nI (tvS τ 8), M') ∧ FRr M M' := by
    intro m
    induction m with
    | zero =>
      intro i M fuel him hf h
      obtain ⟨fu, rfl⟩ : ∃ fu, fuel = fu + 1 := ⟨fuel - 1, by omega⟩
      simp at him; subst him
      rw [f_X7_numbersTogether_4, if_pos (show (8 : Int32) ≤ nI 8 by decide)]
      exact ⟨M, rfl, FRr.rf⟩
    | succ m ih =>
      intro i M fuel him hf h
      obtain ⟨fu, rfl⟩ : ∃ fu, fuel = fu + 1 := ⟨fuel - 1, by omega⟩
      have hi : i < 8 := by omega
      obtain ⟨M1, a1, a2, a3, a4⟩ := asks7 h hw hi
      obtain ⟨M', f1, f2⟩ := ih (i + 1) M1 fu (by omega) (by omega) a4
      rw [f_X7_numbersTogether_4, if_neg (show ¬ (8 : Int32) ≤ nI i from nI_ge (b := 8) (by omega) (by decide)), a1, Option.bind_some, X1_numberOrNothing a3.1, Option.bind_some, nI_1, Option.bind_some]
      dsimp only
      refine ⟨M', ?_, a2.tr f2⟩
      simp only [tvS] at f1
      rcases nvS_rng hw hi with ⟨b1, b2⟩ | ⟨b1, b2, b3⟩
      · rw [b1, if_pos (by decide), Int32.add_zero]
        rw [b2] at f1
        exact f1
      · rw [b2, if_neg (nI_pos (by omega)), nI_add]
        exact f1
  exact key 8 0 M 1000 rfl (by decide) h
theorem inv_t : ∀ x, x < 256 → pcN (x ^^^ 255) = 8 - pcN x := by decide +kernel
theorem X7_lots_55 {S : St} {n w : Nat} (hw : WFS S) (hn : n ≤ 20) (hw2 : w < 2) : ∀ (m i : Nat) (M : Mem) (fuel : Nat) (acc z : Int32), i + m = n → m < fuel → ClsI M S → M 104 0 = z → ∃ M', f_X7_lots_55 fuel M (nI n) (nI w) acc (nI i) = some (lotT (gS S) w m z acc, M') ∧ CF M M' := by
  intro m
  induction m with
  | zero =>
    intro i M fuel acc z him hf h hz
    obtain ⟨fu, rfl⟩ : ∃ fu, fuel = fu + 1 := ⟨fuel - 1, by omega⟩
    rw [f_X7_lots_55, if_pos (nI_le (by omega) (by omega))]
    exact ⟨M, rfl, CF.rf⟩
  | succ m ih =>
    intro i M fuel acc z him hf h hz
    obtain ⟨fu, rfl⟩ : ∃ fu, fuel = fu + 1 := ⟨fuel - 1, by omega⟩
    obtain ⟨M1, a1, a2, a3⟩ := X4_become (s := 21) h.1 hw.1 (by omega)
    obtain ⟨M2, b1, b2, b3, b4⟩ := X7_draw_13 4 0 M1 1000 (gS S, z) rfl (by decide) hw.1 a2 (by rw [a3 104 (by omega)]; exact hz)
    have b1' : f_X7_drawTrial_13 1000 M1 0 = _ := b1
    have hcf : CF M M2 := CF.tr (fun j hj => a3 j (by omega)) b4
    have hwd := drN_wf 4 (gS S, z) hw.1
    rw [f_X7_lots_55, if_neg (nI_ge (by omega) (by omega))]
    unfold f_X7_drawTrial
    rw [a1, Option.bind_some, b1', Option.bind_some, nI_1]
    simp only [lotT]
    by_cases hw0 : w = 0
    · subst hw0
      obtain ⟨M3, c1, c2⟩ := X7_together hwd b2
      obtain ⟨M', f1, f2⟩ := ih (i + 1) M3 fu (acc + nI (lotV 0 (drN 4 (gS S, z)).1)) _ (by omega) (by omega) ((h.cf hcf).cf c2.cf) ((congrFun (c2 104 (by omega)) 0).trans b3)
      rw [if_neg (fun q => q rfl), c1, Option.bind_some]
      exact ⟨M', f1, (hcf.tr c2.cf).tr f2⟩
    · obtain ⟨M3, c1, c2⟩ := X7_faultBits (s := 21) (Or.inr (Or.inr rfl)) hwd b2
      obtain ⟨M', f1, f2⟩ := ih (i + 1) M3 fu (acc + nI (lotV w (drN 4 (gS S, z)).1)) _ (by omega) (by omega) ((h.cf hcf).cf c2.cf) ((congrFun (c2 104 (by omega)) 0).trans b3)
      rw [if_pos (show ¬ nI w = 0 from fun q => hw0 ((nI_eq (b := 0) (by omega) (by decide)).mp q)), c1, Option.bind_some]
      dsimp only
      rw [J6_bitCount (Nat.xor_lt_two_pow (n := 8) (mskB_lt _ 8 (by decide)) (by decide)), Option.bind_some, inv_t _ (mskB_lt _ 8 (by decide))]
      dsimp only
      have hv : lotV w (drN 4 (gS S, z)).1 = 8 - pcN (mskB (soS (drN 4 (gS S, z)).1 1) 8) := by unfold lotV; rw [if_neg hw0]
      rw [hv] at f1 ⊢
      exact ⟨M', f1, (hcf.tr c2.cf).tr f2⟩
