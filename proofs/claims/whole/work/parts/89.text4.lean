def STM (M : Mem) (ls : List Int32) (p : Nat) : Prop :=
  M 99 0 = nI (cN ls p) ∧ (cN ls p ≠ 109 → M 99 1 = nI (dv ls (.inr (p + 1)))) ∧ (cN ls p = 108 → M 99 3 = nI (dv ls (dg ls (.inr (p + 1)))) ∧ M 99 4 = nI (dv ls (dg ls (dg ls (.inr (p + 1)))))) ∧ (cN ls p = 109 → M 99 2 = nI (kv ls (.inr (p + 1))) ∧ M 99 5 = nI (dv ls (ky ls (.inr (p + 1))))) ∧ ((cN ls p = 100 ∨ cN ls p = 101) → M 99 2 = nI (kv ls (dg ls (.inr (p + 1))))) ∧ (cN ls p = 101 → ENT M (eV ls (ky ls (dg ls (.inr (p + 1))))))
theorem X6_readStatement {M : Mem} {ls : List Int32} {p : Nat} (hl : LW ls) (h : AT M ls p) : RDt (f_X6_readStatement M) M ls (stQ ls p) (fun M' => STM M' ls p) := by
  unfold f_X6_readStatement
  rw [X6_letterHere hl h, Option.bind_some]
  dsimp only
  rw [wrf_eq, Option.bind_some, wr_sf]
  have hc : ∀ c, c ≤ 255 → (((if p < ls.length then nI (cN ls p) else -1) = nI c) ↔ cN ls p = c) := fun c h => let_eq hl h
  have hx : cN ls p ≤ 255 → (if p < ls.length then nI (cN ls p) else -1) = nI (cN ls p) := fun q => if_pos (cN_lt q (Nat.le_refl _))
  generalize (if p < ls.length then nI (cN ls p) else -1) = x at hc hx
  have hA0 : AT (wr M 99 0 x) ls p := h.st (Or.inl rfl)
  have hF0 : FX M (wr M 99 0 x) := FX.st (Or.inl rfl)
  have c100 : (x = 100) ↔ cN ls p = 100 := hc 100 (by decide)
  have c101 : (x = 101) ↔ cN ls p = 101 := hc 101 (by decide)
  have c102 : (x = 102) ↔ cN ls p = 102 := hc 102 (by decide)
  have c103 : (x = 103) ↔ cN ls p = 103 := hc 103 (by decide)
  have c104 : (x = 104) ↔ cN ls p = 104 := hc 104 (by decide)
  have c105 : (x = 105) ↔ cN ls p = 105 := hc 105 (by decide)
  have c106 : (x = 106) ↔ cN ls p = 106 := hc 106 (by decide)
  have c107 : (x = 107) ↔ cN ls p = 107 := hc 107 (by decide)
  have c108 : (x = 108) ↔ cN ls p = 108 := hc 108 (by decide)
  have c109 : (x = 109) ↔ cN ls p = 109 := hc 109 (by decide)
  have c110 : (x = 110) ↔ cN ls p = 110 := hc 110 (by decide)
  have c111 : (x = 111) ↔ cN ls p = 111 := hc 111 (by decide)
  have b0 : wr M 99 0 x 99 0 = x := wr_sf
  generalize hB : wr M 99 0 x = B at *
  have step : cN ls p ≤ 255 → AT (wr B 97 2 (B 97 2 + 1)) ls (p + 1) ∧ FX B (wr B 97 2 (B 97 2 + 1)) ∧ wr B 97 2 (B 97 2 + 1) 99 0 = nI (cN ls p) := fun h255 => ⟨hA0.step (cN_lt (Nat.le_refl _) h255), FX.at2, by rw [wr_ne (by decide), b0, hx h255]⟩
  refine RDt.pre ?_ hF0
  have bad : stQ ls p = .inl p → RDt (bret 0 B) B ls (stQ ls p) (fun M' => STM M' ls p) := fun q => by
    rw [q]; exact ⟨B, rfl, hA0, FX.rf⟩
  by_cases h100 : cN ls p = 100
  · obtain ⟨s1, s2, s3⟩ := step (by omega)
    rw [if_pos (c100.mpr h100), wrf_eq, Option.bind_some]
    unfold stQ
    rw [if_neg (by omega), if_neg (by omega), if_neg (by omega), if_neg (by omega), if_pos h100]
    generalize wr B 97 2 (B 97 2 + 1) = C at *
    refine RDt.pre ?_ s2
    refine RDt.bind (g := fun s => sg ls 59 (ky ls s)) (Y := fun A => Option.bind (f_X6_readKey A) fun z7 => if z7.1 = 0 then bret 0 z7.2 else Option.bind (f_X6_readSign z7.2 59) fun z9 => if z9.1 = 0 then bret 0 z9.2 else bret 1 z9.2) (X6_readLayer hl s1) (fun q => rfl) (fun M1 q1 e1 e2 e3 e4 => ?_)
    refine RDt.bind (g := fun s => sg ls 59 s) (Y := fun A => Option.bind (f_X6_readSign A 59) fun z9 => if z9.1 = 0 then bret 0 z9.2 else bret 1 z9.2) (X6_readKey hl e2) (fun q => rfl) (fun M2 q2 g1 g2 g3 g4 => ?_)
    refine X6_sign (c := 59) hl (by decide) g2 (fun M3 hS => ?_)
    obtain ⟨k1, -⟩ := e4
    obtain ⟨k2, -⟩ := g4
    unfold STM
    rw [e1, hS.1]
    refine ⟨by rw [k2, if_neg (by decide), k1, if_neg (by decide)]; exact s3, fun _ => by rw [k2, if_neg (by decide), k1, if_pos rfl], fun q => by omega, fun q => by omega, fun _ => by rw [k2, if_pos rfl], fun q => by omega⟩
  rw [if_neg (fun q => h100 (c100.mp q))]
  by_cases h101 : cN ls p = 101
  · obtain ⟨s1, s2, s3⟩ := step (by omega)
    rw [if_pos (c101.mpr h101), wrf_eq, Option.bind_some]
    unfold stQ
    rw [if_neg (by omega), if_neg (by omega), if_neg (by omega), if_pos h101]
    generalize wr B 97 2 (B 97 2 + 1) = C at *
    refine RDt.pre ?_ s2
    refine RDt.bind (g := fun s => sg ls 59 (eQ ls (ky ls s))) (Y := fun A => Option.bind (f_X6_readKey A) fun z7 => if z7.1 = 0 then bret 0 z7.2 else Option.bind (f_X6_readEntry z7.2) fun z17 => if z17.1 = 0 then bret 0 z17.2 else Option.bind (f_X6_readSign z17.2 59) fun z9 => if z9.1 = 0 then bret 0 z9.2 else bret 1 z9.2) (X6_readLayer hl s1) (fun q => rfl) (fun M1 q1 e1 e2 e3 e4 => ?_)
    refine RDt.bind (g := fun s => sg ls 59 (eQ ls s)) (Y := fun A => Option.bind (f_X6_readEntry A) fun z17 => if z17.1 = 0 then bret 0 z17.2 else Option.bind (f_X6_readSign z17.2 59) fun z9 => if z9.1 = 0 then bret 0 z9.2 else bret 1 z9.2) (X6_readKey hl e2) (fun q => rfl) (fun M2 q2 g1 g2 g3 g4 => ?_)
    refine RDt.bind (g := fun s => sg ls 59 s) (Y := fun A => Option.bind (f_X6_readSign A 59) fun z9 => if z9.1 = 0 then bret 0 z9.2 else bret 1 z9.2) (X6_readEntry hl g2) (fun q => rfl) (fun M3 q3 i1 i2 i3 i4 => ?_)
    refine X6_sign (c := 59) hl (by decide) i2 (fun M4 hS => ?_)
    obtain ⟨k1, -⟩ := e4
    obtain ⟨k2, -⟩ := g4
    obtain ⟨n1, n2⟩ := i4
    unfold STM
    rw [e1, g1, hS.1]
    refine ⟨by rw [n2 0 (by decide), k2, if_neg (by decide), k1, if_neg (by decide)]; exact s3, fun _ => by rw [n2 1 (by decide), k2, if_neg (by decide), k1, if_pos rfl], fun q => by omega, fun q => by omega, fun _ => by rw [n2 2 (by decide), k2, if_pos rfl], fun _ => ?_⟩
    unfold ENT ITM at *
    rw [hS.1, hS.2.1, hS.2.2]
    exact n1
  rw [if_neg (fun q => h101 (c101.mp q))]
  by_cases h108 : cN ls p = 108
  · obtain ⟨s1, s2, s3⟩ := step (by omega)
    rw [if_neg (fun q => by have := c102.mp q; omega), if_neg (fun q => by have := c103.mp q; omega), if_neg (fun q => by have := c104.mp q; omega), if_neg (fun q => by have := c105.mp q; omega), if_neg (fun q => by have := c106.mp q; omega), if_neg (fun q => by have := c107.mp q; omega), if_pos (c108.mpr h108), wrf_eq, Option.bind_some]
    unfold stQ
    rw [if_pos h108]
    generalize wr B 97 2 (B 97 2 + 1) = C at *
    refine RDt.pre ?_ s2
    refine RDt.bind (g := fun s => sg ls 59 (dg ls (dg ls s))) (Y := fun A => Option.bind (f_X6_readKind A) fun z31 => if z31.1 = 0 then bret 0 z31.2 else Option.bind (f_X6_readFigure z31.2) fun z33 => if z33.1 = 0 then bret 0 z33.2 else Option.bind (f_X6_readSign z33.2 59) fun z9 => if z9.1 = 0 then bret 0 z9.2 else bret 1 z9.2) (X6_readLayer hl s1) (fun q => rfl) (fun M1 q1 e1 e2 e3 e4 => ?_)
    refine RDt.bind (g := fun s => sg ls 59 (dg ls s)) (Y := fun A => Option.bind (f_X6_readFigure A) fun z33 => if z33.1 = 0 then bret 0 z33.2 else Option.bind (f_X6_readSign z33.2 59) fun z9 => if z9.1 = 0 then bret 0 z9.2 else bret 1 z9.2) (X6_readKind hl e2) (fun q => rfl) (fun M2 q2 g1 g2 g3 g4 => ?_)
    refine RDt.bind (g := fun s => sg ls 59 s) (Y := fun A => Option.bind (f_X6_readSign A 59) fun z9 => if z9.1 = 0 then bret 0 z9.2 else bret 1 z9.2) (X6_readFigure hl g2) (fun q => rfl) (fun M3 q3 i1 i2 i3 i4 => ?_)
    refine X6_sign (c := 59) hl (by decide) i2 (fun M4 hS => ?_)
    obtain ⟨k1, -⟩ := e4
    obtain ⟨k2, -⟩ := g4
    obtain ⟨k3, -⟩ := i4
    unfold STM
    rw [e1, g1, hS.1]
    refine ⟨by rw [k3, if_neg (by decide), k2, if_neg (by decide), k1, if_neg (by decide)]; exact s3, fun _ => by rw [k3, if_neg (by decide), k2, if_neg (by decide), k1, if_pos rfl], fun _ => ⟨by rw [k3, if_neg (by decide), k2, if_pos rfl], by rw [k3, if_pos rfl]⟩, fun q => by omega, fun q => by omega, fun q => by omega⟩
  by_cases h109 : cN ls p = 109
  · obtain ⟨s1, s2, s3⟩ := step (by omega)
    rw [if_neg (fun q => by have := c102.mp q; omega), if_neg (fun q => by have := c103.mp q; omega), if_neg (fun q => by have := c104.mp q; omega), if_neg (fun q => by have := c105.mp q; omega), if_neg (fun q => by have := c106.mp q; omega), if_neg (fun q => by have := c107.mp q; omega), if_neg (fun q => h108 (c108.mp q)), if_pos (c109.mpr h109), wrf_eq, Option.bind_some]
    unfold stQ
    rw [if_neg (by omega), if_neg (by omega), if_pos h109]
    generalize wr B 97 2 (B 97 2 + 1) = C at *
    refine RDt.pre ?_ s2
    refine RDt.bind (g := fun s => sg ls 59 (dg ls s)) (Y := fun A => Option.bind (f_X6_readManner A) fun z41 => if z41.1 = 0 then bret 0 z41.2 else Option.bind (f_X6_readSign z41.2 59) fun z9 => if z9.1 = 0 then bret 0 z9.2 else bret 1 z9.2) (X6_readKey hl s1) (fun q => rfl) (fun M1 q1 e1 e2 e3 e4 => ?_)
    refine RDt.bind (g := fun s => sg ls 59 s) (Y := fun A => Option.bind (f_X6_readSign A 59) fun z9 => if z9.1 = 0 then bret 0 z9.2 else bret 1 z9.2) (X6_readManner hl e2) (fun q => rfl) (fun M2 q2 g1 g2 g3 g4 => ?_)
    refine X6_sign (c := 59) hl (by decide) g2 (fun M3 hS => ?_)
    obtain ⟨k1, -⟩ := e4
    obtain ⟨k2, -⟩ := g4
    unfold STM
    rw [e1, hS.1]
    refine ⟨by rw [k2, if_neg (by decide), k1, if_neg (by decide)]; exact s3, fun q => absurd h109 q, fun q => by omega, fun _ => ⟨by rw [k2, if_neg (by decide), k1, if_pos rfl], by rw [k2, if_pos rfl]⟩, fun q => by omega, fun q => by omega⟩
  by_cases h111 : cN ls p = 111
  · obtain ⟨s1, s2, s3⟩ := step (by omega)
    rw [if_neg (fun q => by have := c102.mp q; omega), if_neg (fun q => by have := c103.mp q; omega), if_neg (fun q => by have := c104.mp q; omega), if_neg (fun q => by have := c105.mp q; omega), if_neg (fun q => by have := c106.mp q; omega), if_neg (fun q => by have := c107.mp q; omega), if_neg (fun q => h108 (c108.mp q)), if_neg (fun q => h109 (c109.mp q)), if_neg (fun q => by have := c110.mp q; omega), if_pos (c111.mpr h111), wrf_eq, Option.bind_some]
    unfold stQ
    rw [if_neg (by omega), if_pos h111]
    generalize wr B 97 2 (B 97 2 + 1) = C at *
    refine RDt.pre ?_ s2
    refine RDt.bind (g := fun s => sg ls 59 s) (Y := fun A => Option.bind (f_X6_readSign A 59) fun z9 => if z9.1 = 0 then bret 0 z9.2 else bret 1 z9.2) (X6_readLayer hl s1) (fun q => rfl) (fun M1 q1 e1 e2 e3 e4 => ?_)
    refine X6_sign (c := 59) hl (by decide) e2 (fun M3 hS => ?_)
    obtain ⟨k1, -⟩ := e4
    unfold STM
    rw [hS.1]
    refine ⟨by rw [k1, if_neg (by decide)]; exact s3, fun _ => by rw [k1, if_pos rfl], fun q => by omega, fun q => by omega, fun q => by omega, fun q => by omega⟩
  have hb := bad (by unfold stQ; rw [if_neg h108, if_neg h111, if_neg h109, if_neg h101, if_neg h100])
  rw [if_neg (fun q => h108 (c108.mp q)), if_neg (fun q => h109 (c109.mp q)), if_neg (fun q => h111 (c111.mp q))]
  simp only [ite_self]
  exact hb
