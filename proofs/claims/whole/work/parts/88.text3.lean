/-- a reading: done, with Q of the memory, or failed -/
def RDt (X : Option (Int32 × Mem)) (M : Mem) (ls : List Int32) (s : PS) (Q : Mem → Prop) : Prop := match s with
  | .inr q => ∃ M', X = some (1, M') ∧ AT M' ls q ∧ FX M M' ∧ Q M'
  | .inl q => ∃ M', X = some (0, M') ∧ AT M' ls q ∧ FX M M'
theorem RDt.imp {X : Option (Int32 × Mem)} {M : Mem} {ls : List Int32} {s : PS} {Q R : Mem → Prop} (h : RDt X M ls s Q) (g : ∀ M', Q M' → R M') : RDt X M ls s R := by
  rcases s with q | q
  · exact h
  · obtain ⟨M', a, b, c, d⟩ := h
    exact ⟨M', a, b, c, g M' d⟩
theorem RDt.bind {X : Option (Int32 × Mem)} {Y : Mem → Option (Int32 × Mem)} {M : Mem} {ls : List Int32} {s : PS} {Q R : Mem → Prop} {g : PS → PS} (h : RDt X M ls s Q) (hg : ∀ q, g (.inl q) = .inl q) (hy : ∀ M' q, s = .inr q → AT M' ls q → FX M M' → Q M' → RDt (Y M') M' ls (g (.inr q)) R) : RDt (Option.bind X fun z => if z.1 = 0 then bret 0 z.2 else Y z.2) M ls (g s) R := by
  rcases s with q | q
  · obtain ⟨M', a, b, c⟩ := h
    rw [hg, a, Option.bind_some]
    dsimp only
    rw [if_pos rfl]
    exact ⟨M', rfl, b, c⟩
  · obtain ⟨M', a, b, c, d⟩ := h
    have := hy M' q rfl b c d
    rw [a, Option.bind_some]
    dsimp only
    rw [if_neg (show ¬ (1 : Int32) = 0 by decide)]
    revert this
    rcases g (.inr q) with t | t
    · rintro ⟨M2, e1, e2, e3⟩; exact ⟨M2, e1, e2, c.tr e3⟩
    · rintro ⟨M2, e1, e2, e3, e4⟩; exact ⟨M2, e1, e2, c.tr e3, e4⟩
theorem RDt.pre {X : Option (Int32 × Mem)} {M M1 : Mem} {ls : List Int32} {s : PS} {Q : Mem → Prop} (h : RDt X M1 ls s Q) (hf : FX M M1) : RDt X M ls s Q := by
  rcases s with t | t
  · obtain ⟨M2, e1, e2, e3⟩ := h; exact ⟨M2, e1, e2, hf.tr e3⟩
  · obtain ⟨M2, e1, e2, e3, e4⟩ := h; exact ⟨M2, e1, e2, hf.tr e3, e4⟩
theorem RDt.ret {M : Mem} {ls : List Int32} {q : Nat} {Q : Mem → Prop} (h : AT M ls q) (hq : Q M) : RDt (bret 1 M) M ls (.inr q) Q := ⟨M, rfl, h, FX.rf, hq⟩
theorem RDt.eta {X : Option (Int32 × Mem)} {M : Mem} {ls : List Int32} {s : PS} {Q : Mem → Prop} (h : RDt X M ls s Q) : RDt (Option.bind X fun z => bret z.1 z.2) M ls s Q := by
  rcases s with t | t
  · obtain ⟨M2, e1, e2, e3⟩ := h
    exact ⟨M2, by rw [e1]; rfl, e2, e3⟩
  · obtain ⟨M2, e1, e2, e3, e4⟩ := h
    exact ⟨M2, by rw [e1]; rfl, e2, e3, e4⟩
/-- a place of the statement, all else of it as it was -/
def PUT (M : Mem) (k v : Nat) (M' : Mem) : Prop := (∀ j, M' 99 j = if j = k then nI v else M 99 j) ∧ M' 100 = M 100 ∧ M' 101 = M 101
theorem RDs.t {X : Option (Int32 × Mem)} {M : Mem} {ls : List Int32} {k v : Nat} {s : PS} (h : RDs X M ls k v s) : RDt X M ls s (PUT M k v) := by
  rcases s with q | q
  · exact h
  · exact h
theorem X6_readLayer {M : Mem} {ls : List Int32} {p : Nat} (hl : LW ls) (h : AT M ls p) : RDt (f_X6_readLayer M) M ls (dg ls (.inr p)) (PUT M 1 (dv ls (.inr p))) := (rd_digit (k := 1) hl h).t
theorem X6_readKind {M : Mem} {ls : List Int32} {p : Nat} (hl : LW ls) (h : AT M ls p) : RDt (f_X6_readKind M) M ls (dg ls (.inr p)) (PUT M 3 (dv ls (.inr p))) := (rd_digit (k := 3) hl h).t
theorem X6_readFigure {M : Mem} {ls : List Int32} {p : Nat} (hl : LW ls) (h : AT M ls p) : RDt (f_X6_readFigure M) M ls (dg ls (.inr p)) (PUT M 4 (dv ls (.inr p))) := (rd_digit (k := 4) hl h).t
theorem X6_readManner {M : Mem} {ls : List Int32} {p : Nat} (hl : LW ls) (h : AT M ls p) : RDt (f_X6_readManner M) M ls (dg ls (.inr p)) (PUT M 5 (dv ls (.inr p))) := (rd_digit (k := 5) hl h).t
theorem X6_readKey {M : Mem} {ls : List Int32} {p : Nat} (hl : LW ls) (h : AT M ls p) : RDt (f_X6_readKey M) M ls (ky ls (.inr p)) (PUT M 2 (kv ls (.inr p))) := (rd_key (k := 2) hl h).t
theorem X6_readOther {M : Mem} {ls : List Int32} {p : Nat} (hl : LW ls) (h : AT M ls p) : RDt (f_X6_readOther M) M ls (ky ls (.inr p)) (PUT M 8 (kv ls (.inr p))) := (rd_key (k := 8) hl h).t
theorem X6_readNumber {M : Mem} {ls : List Int32} {p : Nat} (hl : LW ls) (h : AT M ls p) : RDt (f_X6_readNumber M) M ls (tw ls (.inr p)) (PUT M 7 (twv ls (.inr p))) := (rd_pair (k := 7) hl h).t
theorem X6_sign {M : Mem} {ls : List Int32} {p c : Nat} {Q : Mem → Prop} (hl : LW ls) (hc : c ≤ 255) (h : AT M ls p) (hQ : ∀ M', SF M M' → Q M') : RDt (Option.bind (f_X6_readSign M (nI c)) fun z => if z.1 = 0 then bret 0 z.2 else bret 1 z.2) M ls (sg ls c (.inr p)) Q := by
  rcases X6_readSign hl hc h with ⟨q, M1, e1, e2, e3, e4, e5⟩ | ⟨e1, e2⟩
  · rw [e1, e2]
    exact ⟨M1, rfl, e3, e4, hQ M1 e5⟩
  · rw [e1, e2]
    exact ⟨M, rfl, h, FX.rf⟩
def ENT (M : Mem) (e : Ent) : Prop := M 99 6 = nI e.1 ∧ M 99 7 = (if e.1 = 0 ∨ e.1 = 3 then e.2.1 else 0) ∧ M 99 8 = (if e.1 = 2 ∨ e.1 = 3 then nI e.2.2.1 else -9) ∧ ITM M e.2.2.2
theorem let_eq {ls : List Int32} {p c : Nat} (hl : LW ls) (hc : c ≤ 255) : ((if p < ls.length then nI (cN ls p) else -1) = nI c) ↔ cN ls p = c := by
  by_cases hp : p < ls.length
  · obtain ⟨n, hn, e1, e2⟩ := lw_in hl hp
    rw [if_pos hp, e2]
    exact nI_eq (by omega) (by omega)
  · have : ∀ c, c < 256 → ¬ (-1 : Int32) = nI c := by decide +kernel
    rw [if_neg hp, lw_out hp]
    exact ⟨fun q => absurd q (this c (by omega)), fun q => by omega⟩
theorem X6_readEntry {M : Mem} {ls : List Int32} {p : Nat} (hl : LW ls) (h : AT M ls p) : RDt (f_X6_readEntry M) M ls (eQ ls (.inr p)) (fun M' => ENT M' (eV ls (.inr p)) ∧ ∀ j, j < 6 → M' 99 j = M 99 j) := by
  unfold f_X6_readEntry f_X5_beginEntry
  rw [wrf_eq, Option.bind_some, wrf_eq, Option.bind_some, wrf_eq, Option.bind_some, wrf_eq, Option.bind_some, wrz_eq (Or.inl rfl), Option.bind_some, Option.bind_some]
  generalize hB : wr (wr (wr (wr (wr M 99 7 0) 99 8 (-9)) 99 9 0) 99 10 0) 99 11 0 = B
  have b7 : B 99 7 = 0 := by rw [← hB]; simp [wr_ap]
  have b8 : B 99 8 = -9 := by rw [← hB]; simp [wr_ap]
  have bI : ITM B [] := ⟨by rw [← hB]; simp [wr_ap]; rfl, by rw [← hB]; simp [wr_ap, stL], by rw [← hB]; simp [wr_ap, stL, oI], fun i x _ hx => by simp at hx⟩
  have bj : ∀ j, j < 7 → B 99 j = M 99 j := fun j hj => by
    rw [← hB, wr_ap, if_neg (by omega), wr_ap, if_neg (by omega), wr_ap, if_neg (by omega), wr_ap, if_neg (by omega), wr_ap, if_neg (by omega)]
  have bi : ∀ i, i ≠ 99 → B i = M i := fun i hi => by rw [← hB, wr_ne hi, wr_ne hi, wr_ne hi, wr_ne hi, wr_ne hi]
  have bF : FX M B := ⟨fun i _ a _ _ => bi i a, fun j _ => by rw [bi 97 (by decide)]⟩
  have bA : AT B ls p := by unfold AT at *; rw [bi 97 (by decide), bi 98 (by decide)]; exact h
  refine RDt.pre ?_ bF
  rw [X6_letterHere hl bA, Option.bind_some]
  dsimp only
  have hc : ∀ c, c ≤ 255 → (((if p < ls.length then nI (cN ls p) else -1) = nI c) ↔ cN ls p = c) := fun c h => let_eq hl h
  generalize (if p < ls.length then nI (cN ls p) else -1) = x at hc
  have c33 : (x = 33) ↔ cN ls p = 33 := hc 33 (by decide)
  have c43 : (x = 43) ↔ cN ls p = 43 := hc 43 (by decide)
  have c61 : (x = 61) ↔ cN ls p = 61 := hc 61 (by decide)
  have c64 : (x = 64) ↔ cN ls p = 64 := hc 64 (by decide)
  have c91 : (x = 91) ↔ cN ls p = 91 := hc 91 (by decide)
  -- past the sign, its form put
  have step : cN ls p ≤ 255 → ∀ f : Int32, AT (wr (wr B 97 2 (B 97 2 + 1)) 99 6 f) ls (p + 1) ∧ FX B (wr (wr B 97 2 (B 97 2 + 1)) 99 6 f) ∧ (∀ j, wr (wr B 97 2 (B 97 2 + 1)) 99 6 f 99 j = if j = 6 then f else B 99 j) ∧ wr (wr B 97 2 (B 97 2 + 1)) 99 6 f 100 = B 100 ∧ wr (wr B 97 2 (B 97 2 + 1)) 99 6 f 101 = B 101 := by
    intro h255 f
    have hp := cN_lt (Nat.le_refl _) h255
    refine ⟨(bA.step hp).st (Or.inl rfl), FX.at2.tr (FX.st (Or.inl rfl)), fun j => ?_, by rw [wr_ne (by decide), wr_ne (by decide)], by rw [wr_ne (by decide), wr_ne (by decide)]⟩
    rw [wr_ap]
    by_cases hj : j = 6
    · simp [hj]
    · rw [if_neg (fun q => hj q.2), if_neg hj, wr_ne (by decide)]
  have itm : ∀ A : Mem, (∀ j, 9 ≤ j → A 99 j = B 99 j) → ITM A [] := fun A hA => ⟨by rw [hA 9 (by decide)]; exact bI.1, by rw [hA 10 (by decide)]; exact bI.2.1, by rw [hA 11 (by decide)]; exact bI.2.2.1, fun i x _ hx => by simp at hx⟩
  unfold eQ eV
  dsimp only
  by_cases h33 : cN ls p = 33
  · obtain ⟨s1, s2, s3, s4, s5⟩ := step (by omega) 4
    rw [if_pos (c33.mpr h33), wrf_eq, Option.bind_some, wrf_eq, Option.bind_some, if_neg (by omega), if_pos h33, if_neg (by omega), if_pos h33]
    exact ⟨_, rfl, s1, s2, ⟨s3 6, (s3 7).trans b7, (s3 8).trans b8, itm _ (fun j hj => by rw [s3, if_neg (by omega)])⟩, fun j hj => by rw [s3, if_neg (by omega), bj j (by omega)]⟩
  rw [if_neg (fun q => h33 (c33.mp q))]
  by_cases h43 : cN ls p = 43
  · obtain ⟨s1, s2, s3, s4, s5⟩ := step (by omega) 3
    rw [if_pos (c43.mpr h43), wrf_eq, Option.bind_some, wrf_eq, Option.bind_some, if_neg (by omega), if_neg h33, if_neg (by omega), if_pos h43, if_neg (by omega), if_neg h33, if_neg (by omega), if_pos h43]
    refine RDt.pre ?_ s2
    refine RDt.bind (g := fun s => tw ls s) (Y := fun A => Option.bind (f_X6_readNumber A) fun z11 => if z11.1 = 0 then bret 0 z11.2 else bret 1 z11.2) (X6_readOther hl s1) (fun q => rfl) (fun M1 q e1 e2 e3 e4 => ?_)
    rw [show twv ls (ky ls (.inr (p + 1))) = twv ls (.inr q) by rw [e1]]
    have hr := X6_readNumber hl e2
    have hb := RDt.bind (g := fun s => s) (Y := fun M' => bret 1 M') hr (fun q => rfl) (R := fun M' => PUT M1 7 (twv ls (.inr q)) M') (fun M' q' _ f2 _ f4 => RDt.ret f2 f4)
    refine RDt.imp hb (fun M2 g => ?_)
    obtain ⟨g1, g2, g3⟩ := g
    obtain ⟨k1, k2, k3⟩ := e4
    refine ⟨⟨?_, ?_, ?_, itm _ (fun j hj => ?_)⟩, fun j hj => ?_⟩
    · rw [g1, if_neg (by decide), k1, if_neg (by decide)]; exact s3 6
    · rw [g1]; rfl
    · rw [g1, if_neg (by decide), k1]; rfl
    · rw [g1, if_neg (by omega), k1, if_neg (by omega), s3, if_neg (by omega)]
    · rw [g1, if_neg (by omega), k1, if_neg (by omega), s3, if_neg (by omega), bj j (by omega)]
  rw [if_neg (fun q => h43 (c43.mp q))]
  by_cases h61 : cN ls p = 61
  · obtain ⟨s1, s2, s3, s4, s5⟩ := step (by omega) 0
    rw [if_pos (c61.mpr h61), wrf_eq, Option.bind_some, wrf_eq, Option.bind_some, if_pos h61, if_pos h61]
    refine RDt.pre (RDt.eta (RDt.imp (X6_readNumber hl s1) (fun M2 g => ?_))) s2
    obtain ⟨g1, g2, g3⟩ := g
    refine ⟨⟨?_, ?_, ?_, itm _ (fun j hj => ?_)⟩, fun j hj => ?_⟩
    · rw [g1, if_neg (by decide)]; exact s3 6
    · rw [g1]; rfl
    · rw [g1, if_neg (by decide), s3, if_neg (by decide)]; exact b8
    · rw [g1, if_neg (by omega), s3, if_neg (by omega)]
    · rw [g1, if_neg (by omega), s3, if_neg (by omega), bj j (by omega)]
  rw [if_neg (fun q => h61 (c61.mp q)), if_neg h61, if_neg h33, if_neg h61, if_neg h33]
  by_cases h64 : cN ls p = 64
  · obtain ⟨s1, s2, s3, s4, s5⟩ := step (by omega) 2
    rw [if_pos (c64.mpr h64), wrf_eq, Option.bind_some, wrf_eq, Option.bind_some, if_pos h64, if_pos h64]
    refine RDt.pre (RDt.eta (RDt.imp (X6_readOther hl s1) (fun M2 g => ?_))) s2
    obtain ⟨g1, g2, g3⟩ := g
    refine ⟨⟨?_, ?_, ?_, itm _ (fun j hj => ?_)⟩, fun j hj => ?_⟩
    · rw [g1, if_neg (by decide)]; exact s3 6
    · rw [g1, if_neg (by decide), s3, if_neg (by decide)]; exact b7
    · rw [g1]; rfl
    · rw [g1, if_neg (by omega), s3, if_neg (by omega)]
    · rw [g1, if_neg (by omega), s3, if_neg (by omega), bj j (by omega)]
  rw [if_neg (fun q => h64 (c64.mp q)), if_neg h64, if_neg h43, if_neg h64, if_neg h43]
  by_cases h91 : cN ls p = 91
  · obtain ⟨s1, s2, s3, s4, s5⟩ := step (by omega) 1
    rw [if_pos (c91.mpr h91), wrf_eq, Option.bind_some, wrf_eq, Option.bind_some, if_pos h91]
    refine RDt.pre ?_ s2
    have hit := itm (wr (wr B 97 2 (B 97 2 + 1)) 99 6 1) (fun j hj => by rw [s3, if_neg (show ¬ j = 6 by omega)])
    have hl1 := hl.1
    have hp1 := s1.2.1
    have hR := X6_readItems_2 hl 100 (p + 1) 0 1000 _ [] (by omega) (by omega) (by decide) s1 hit (by simp)
    have hR2 : RDt (f_X6_readItems (wr (wr B 97 2 (B 97 2 + 1)) 99 6 1)) (wr (wr B 97 2 (B 97 2 + 1)) 99 6 1) ls (itG ls 100 (.inr (p + 1)) []).2 (fun M' => ITM M' (itG ls 100 (.inr (p + 1)) []).1 ∧ ∀ j, j < 9 → M' 99 j = wr (wr B 97 2 (B 97 2 + 1)) 99 6 1 99 j) := by
      revert hR
      unfold f_X6_readItems
      generalize itG ls 100 (.inr (p + 1)) [] = G
      rcases G with ⟨its, t | t⟩
      · rintro ⟨M', a, b, c⟩; exact ⟨M', a, b, c⟩
      · rintro ⟨M', a, b, c, d, e⟩; exact ⟨M', a, b, c, d, e⟩
    refine RDt.bind (g := fun s => sg ls 93 s) (Y := fun A => Option.bind (f_X6_readSign A 93) fun z26 => if z26.1 = 0 then bret 0 z26.2 else bret 1 z26.2) hR2 (fun q => rfl) (fun M1 q e1 e2 e3 e4 => ?_)
    refine X6_sign (c := 93) hl (by decide) e2 (fun M2 hS => ?_)
    obtain ⟨i1, i2⟩ := e4
    refine ⟨⟨?_, ?_, ?_, ?_⟩, fun j hj => ?_⟩
    · rw [hS.1, i2 6 (by decide)]; exact s3 6
    · rw [hS.1, i2 7 (by decide), s3, if_neg (by decide)]; exact b7
    · rw [hS.1, i2 8 (by decide), s3, if_neg (by decide)]; exact b8
    · unfold ITM at *; rw [hS.1, hS.2.1, hS.2.2]; exact i1
    · rw [hS.1, i2 j (by omega), s3, if_neg (by omega), bj j (by omega)]
  rw [if_neg (fun q => h91 (c91.mp q)), if_neg h91]
  exact ⟨B, rfl, bA, FX.rf⟩
