/-! a Scene's own methods while the world is being made: cells before it as they are, its own by M -/
def HS (C : DD) (a s : Nat) (E0 : Nat → va_E) (M : Mem) (H : Heap) : Prop := HN C a (s + 10) (fun i => if i < s then E0 i else EC C a i (M i)) H
abbrev wS (k : KT) (s : Nat) (E0 : Nat → va_E) (M : Mem) : WW := (HS (kC k) (kh k) s E0 M, kcn k, ksn k)
theorem HS_at {C : DD} {a s o : Nat} {E0 : Nat → va_E} {M : Mem} {H : Heap} (h : HS C a s E0 M H) (h1 : s ≤ o) (h2 : o < s + 10) : va_at C.1 vwCl (a + o, EC C a o (M o)) H := by
  have := h.1 o _ (Wo_at h2)
  rwa [if_neg (by omega)] at this
theorem HS_put {C : DD} {a s o : Nat} {E0 : Nat → va_E} {M : Mem} {r : Nat → Int32} {H H1 : Heap} (h : HS C a s E0 M H) (h1 : s ≤ o) (h2 : o < s + 10) (z : H1.size = H.size) (oq : ∀ q, q ≠ a + o → H1[q]? = H[q]?) (he : va_at C.1 vwCl (a + o, EC C a o r) H1) : HS C a s E0 (rset M o r) H1 := by
  refine HN.congr (HN.put h h2 z oq he) (fun i hi => ?_)
  by_cases e : i = o
  · subst e
    rw [eu_self, if_neg (by omega)]
    simp [rset]
  · rw [eu_ne e]
    simp [rset, e]
def CIS (l : Launch) (C : DD) (a s : Nat) (E0 : Nat → va_E) (y : MethodName) (b : ByteArray) (nL : Nat) (ret : FieldType) (h : Nat) (av : List Value) (M : Mem) (t : Option (Int32 × Mem)) : Prop := ∀ q, t = some q → Met l y (.code y b nL (some ret) :: tblG) (rmH h) (va_Pc av (fun U => HS C a s E0 M U.heap ∧ WT C U)) (va_Qi (fun r (_ : Unit) => r = q.1) (fun _ t => HS C a s E0 q.2 t.heap) (AW a)) 0 0 (AW a)
def CVS (l : Launch) (C : DD) (a s : Nat) (E0 : Nat → va_E) (y : MethodName) (b : ByteArray) (nL : Nat) (h : Nat) (av : List Value) (M : Mem) (t : Option Mem) : Prop := ∀ q, t = some q → Met l y (.code y b nL none :: tblG) (rmH h) (va_Pc av (fun U => HS C a s E0 M U.heap ∧ WT C U)) (va_Qv (fun (_ : Unit) => True) (fun _ t => HS C a s E0 q t.heap) (AW a)) 0 0 (AW a)
def RIS (k : KT) (s : Nat) (E0 : Nat → va_E) (q : Int32 × Mem) : Prop := kQ k = MQ (kb k) (va_Qi (fun r (_ : Unit) => r = q.1) (fun _ t => HS (kC k) (kh k) s E0 q.2 t.heap) (AW (kh k))) (ka k) (ks k) 0 0 (AW (kh k)) ∧ kcn k = 0 ∧ ksn k = 0
def RVS (k : KT) (s : Nat) (E0 : Nat → va_E) (q : Mem) : Prop := kQ k = MQ (kb k) (va_Qv (fun (_ : Unit) => True) (fun _ t => HS (kC k) (kh k) s E0 q t.heap) (AW (kh k))) (ka k) (ks k) 0 0 (AW (kh k)) ∧ kcn k = 0 ∧ ksn k = 0
section SROWS
variable {α : Type} {k : KT} {q : α} {pc pc' : Nat} {L L' : List (Nat × Value)} {st : List Value} {t : Option α} {cc : ByteArray} {own : String} {nL h : Nat} {ret : Option FieldType} {M : Mem} {s : Nat} {E0 : Nat → va_E}
theorem HG_get (hk : CX k cc own nL ret h) (hs : okS s) {ix : Nat} (kx : Nat) {v : Value} (hw : Cond.fieldLink own ix "SettingsInLayers$Scene" (TX4 kx).2.1 (TX4 kx).2.2.1 ∈ tblG) (href : (TX4 kx).1 = "SettingsInLayers$Scene") (hkx : kx < 10) (hv : (flds (kh k) s (M s) 4)[kx]? = some v) (hd : decode cc pc = .ok (.getfield ix, 3)) (hp : pc + 3 = pc') (x : GG k q (wS k s E0 M) pc' L (v :: st) t) : GG k q (wS k s E0 M) pc L (.ref (kh k + s) :: st) t := by
  subst hp
  intro ht H locs hP hS ls hl
  obtain ⟨l1, l2, l3, l4, l5⟩ := LC4
  have he := HS_at hP (Nat.le_refl _) (by omega)
  refine va_get (D := (kC k).1) (cl := vwCl) (ws := [(kh k + s, EC (kC k) (kh k) s (M s))]) hk.1 hk.2.1 hk.ts l3 hk.ow hk.K ?_ 0 (ci := 4) (fs := flds (kh k) s (M s) 4) (by rw [EC_o (kdS hs) (by decide)]; rfl) l2 kx hkx (hk.ts _ hw) (fun y hy => by rw [← href]; exact hy) hv hd (x ht H locs hP hS ls hl)
  intro i y hy
  have h1 : i < 1 := (List.getElem?_eq_some_iff.mp hy).1
  have h2 : i = 0 := by omega
  subst h2
  cases hy
  exact he
theorem HG_iald (hk : CX k cc own nL ret h) (hs : okS s) {j n pc' : Nat} (hj : j < 9) (hn : lnL.getD j 0 = n) {i : Int32} {g : Int32 → Option α} (hd : decode cc pc = .ok (.iaload, 1)) (hp : pc + 1 = pc') (x : ∀ v, rd n (M (s + (j + 1))) i = some v → GG k q (wS k s E0 M) pc' L (.int v :: st) (g v)) : GG k q (wS k s E0 M) pc L (.int i :: .ref (kh k + (s + (j + 1))) :: st) (Option.bind (rd n (M (s + (j + 1))) i) g) := by
  subst hp
  have hln := lnSa hs j hj hn
  subst hln
  intro ht H locs hP hS ls hl
  by_cases hb : i < 0 ∨ ln (s + (j + 1)) ≤ i.toNatClampNeg
  · simp [rd, hb] at ht
  · have e : rd (ln (s + (j + 1))) (M (s + (j + 1))) i = some _ := if_neg hb
    rw [e] at ht
    have he := HS_at hP (show s ≤ s + (j + 1) by omega) (by omega)
    rw [EC_11 (kdSa hs j hj)] at he
    refine va_iald (D := (kC k).1) (cl := vwCl) (ws := [(kh k + (s + (j + 1)), .inl ((kC k).2.1, ln (s + (j + 1)), .inl (M (s + (j + 1)))))]) hk.1 hk.2.1 hk.K ?_ 0 0 rfl rfl hb hd (x _ e ht H locs hP hS ls hl)
    intro i y hy
    have h1 : i < 1 := (List.getElem?_eq_some_iff.mp hy).1
    have h2 : i = 0 := by omega
    subst h2
    cases hy
    exact he
theorem HG_iast (hk : CX k cc own nL ret h) (hs : okS s) {j n pc' : Nat} (hj : j < 9) (hn : lnL.getD j 0 = n) {i y : Int32} {g : Mem → Option α} (hd : decode cc pc = .ok (.iastore, 1)) (hp : pc + 1 = pc') (x : ∀ M', wra n M (s + (j + 1)) i y = some M' → GG k q (wS k s E0 M') pc' L st (g M')) : GG k q (wS k s E0 M) pc L (.int y :: .int i :: .ref (kh k + (s + (j + 1))) :: st) (Option.bind (wra n M (s + (j + 1)) i y) g) := by
  subst hp
  have hln := lnSa hs j hj hn
  subst hln
  intro ht H locs hP hS ls hl
  by_cases hb : i < 0 ∨ ln (s + (j + 1)) ≤ i.toNatClampNeg
  · simp [wra, hb] at ht
  · have e : wra (ln (s + (j + 1))) M (s + (j + 1)) i y = some _ := if_neg hb
    rw [e] at ht
    have he := HS_at hP (show s ≤ s + (j + 1) by omega) (by omega)
    rw [EC_11 (kdSa hs j hj)] at he
    refine W.iast hk.1 hk.2.1 he ((hk.K.2 0 _ rfl).1 (ln (s + (j + 1))) (fun z => .int (M (s + (j + 1)) z))) (fun q => by cases q) (by show ¬ (i < 0 ∨ (arrV _ _ _).slots.size ≤ _); rw [arrV_size]; exact hb) rfl rfl hd fun H1 e1 z1 oq => ?_
    refine x _ e ht H1 _ (HS_put hP (by omega) (by omega) z1 oq ?_) (hS.put z1 oq (Nat.le_add_right _ _)) ls hl
    rw [EC_11 (kdSa hs j hj)]
    show H1[kh k + (s + (j + 1))]? = some (vp_cell _ _)
    rw [e1]
    show some ((vp_cell _ _).setSlot _ _) = _
    rw [vp_cell_i, vp_cell_i, arrV_store]
    congr 2
    funext y'
    by_cases hy : y' = i.toNatClampNeg
    · subst hy
      simp [updV, upd]
    · simp [updV, upd, hy]
theorem HS_pre (hk : CX k cc own nL ret h) {H : Heap} (hP : HS (kC k) (kh k) s E0 M H) (av : List Value) : PreS (ks k) H (va_Pc av (fun U => HS (kC k) (kh k) s E0 M U.heap ∧ WT (kC k) U)) av :=
  ⟨fun a U g mk z => ⟨z.1, z.2.1, z.2.2.call⟩, fun U hU hW => ⟨rfl, by rw [hU]; exact hP, hk.wt.warm hW⟩⟩
theorem recv_S (hk : CX k cc own nL ret h) (hs : okS s) {H : Heap} (hP : HS (kC k) (kh k) s E0 M H) : ∃ cell : Cell, H[kh k + s]? = some cell ∧ cell.vm.isStatics = false ∧ (ks k).vm.findClass RX4 = some cell.cls := by
  have he := HS_at hP (Nat.le_refl _) (by omega)
  rw [EC_o (kdS hs) (by decide)] at he
  obtain ⟨q', h1, cell, g1, g2, g3, -⟩ := he
  exact ⟨cell, g1, by rw [g3]; rfl, by rw [g2]; exact (hk.K.1 4 _ LC4.2.1).2.1⟩
theorem HG_callVi (hk : CX k cc own nL ret h) (hs : okS s) {ix n mL h' : Nat} {y : MethodName} {b : ByteArray} {r : FieldType} {As st0 : List Value} {t0 : Option (Int32 × Mem)} {g : Int32 × Mem → Option α} (mf : MF y b mL (some r) n) (mv : MFv y) (hC : y.cls = RX4) (hM : CIS (kl k) (kC k) (kh k) s E0 y b mL r h' (.ref (kh k + s) :: As) M t0) (hh : h' + 1 ≤ h) (hw : Cond.methodLink own ix y ∈ tblG) (hn : As.length = n) (hst0 : st0 = As.reverse ++ .ref (kh k + s) :: st) (hst : (st.map fun v => v.category).sum ≤ 8) (hd : decode cc pc = .ok (.invokevirtual ix, 3)) (hp : pc + 3 = pc') (x : ∀ z, t0 = some z → GG k q (wS k s E0 z.2) pc' L (.int z.1 :: st) (g z)) : GG k q (wS k s E0 M) pc L st0 (Option.bind t0 g) := by
  subst hp
  intro ht H locs hP hS ls hl
  cases hz : t0 with
  | none => rw [hz] at ht; simp at ht
  | some z =>
    rw [hz] at ht
    refine va_calli (va_runV (C := RX4) (As := As) (rest := st) ⟨hk.1, hk.2.1, hk.2.2.1, hk.ow, hk.ts⟩ (hM z hz) ⟨CallB_G hk mf hh hw, hk.ts _ mv.1, by rw [← hC]; exact hk.ts _ mv.2⟩ ⟨(HS_pre hk hP _).1, recv_S hk hs hP, (HS_pre hk hP _).2⟩ rfl hn (by rw [← hk.2.2.1]; exact hl.1) hst0 (lv_room hst) hd ⟨hk.2.2.2.2.2.2.2.2.2.2.1, hk.2.2.2.2.2.2.2.2.2.2.2⟩) hS (fun q _ e => e) (fun q e => e) (fun rr u tt H1 locs1 e1 e2 e3 e4 e5 e6 hS1 => ?_)
    subst e3; subst e1
    exact x z hz ht tt.heap locs1 e4 hS1 ls hl
theorem HG_callVv (hk : CX k cc own nL ret h) (hs : okS s) {ix n mL h' : Nat} {y : MethodName} {b : ByteArray} {As st0 : List Value} {t0 : Option Mem} {g : Mem → Option α} (mf : MF y b mL none n) (mv : MFv y) (hC : y.cls = RX4) (hM : CVS (kl k) (kC k) (kh k) s E0 y b mL h' (.ref (kh k + s) :: As) M t0) (hh : h' + 1 ≤ h) (hw : Cond.methodLink own ix y ∈ tblG) (hn : As.length = n) (hst0 : st0 = As.reverse ++ .ref (kh k + s) :: st) (hst : (st.map fun v => v.category).sum ≤ 8) (hd : decode cc pc = .ok (.invokevirtual ix, 3)) (hp : pc + 3 = pc') (x : ∀ z, t0 = some z → GG k q (wS k s E0 z) pc' L st (g z)) : GG k q (wS k s E0 M) pc L st0 (Option.bind t0 g) := by
  subst hp
  intro ht H locs hP hS ls hl
  cases hz : t0 with
  | none => rw [hz] at ht; simp at ht
  | some z =>
    rw [hz] at ht
    refine va_callv (va_runV (C := RX4) (As := As) (rest := st) ⟨hk.1, hk.2.1, hk.2.2.1, hk.ow, hk.ts⟩ (hM z hz) ⟨CallB_G hk mf hh hw, hk.ts _ mv.1, by rw [← hC]; exact hk.ts _ mv.2⟩ ⟨(HS_pre hk hP _).1, recv_S hk hs hP, (HS_pre hk hP _).2⟩ rfl hn (by rw [← hk.2.2.1]; exact hl.1) hst0 (lv_room hst) hd ⟨hk.2.2.2.2.2.2.2.2.2.2.1, hk.2.2.2.2.2.2.2.2.2.2.2⟩) hS (fun q _ e => e) (fun q e => e) (fun u tt H1 locs1 e1 e2 e3 e4 e5 e6 hS1 => ?_)
    subst e1
    exact x z hz ht tt.heap locs1 e4 hS1 ls hl
theorem HG_iret {q : Int32 × Mem} {x : Int32} (hk : CX k cc own nL (some .int) h) (hq : RIS k s E0 q) (hd : decode cc pc = .ok (.ireturn, 1)) : GG k q (wS k s E0 M) pc L [.int x] (some (x, M)) := by
  intro ht H locs hP hS ls hl
  have e : q = (x, M) := (Option.some.inj ht).symm
  subst e
  obtain ⟨h1, h2, h3⟩ := hq
  show W (kp k) (kl k) (ke k) (kR k) (ks k) (km k) (ka k) (kb k) (kme k) (kc k) H locs (kcn k) (ksn k) (kQ k) (F0 (km k) pc ls [.int x])
  rw [h1, h2, h3]
  exact W.iret hk.1 hk.2.1 hk.2.2.2.2.2.2.1 (fun t' e hW => ⟨⟨x, (), rfl, rfl, by subst e; exact hP⟩, hS.F e⟩) hS.2.2 hd hk.2.2.2.2.2.2.2.1
theorem HG_vret {q : Mem} (hk : CX k cc own nL none h) (hq : RVS k s E0 q) (hd : decode cc pc = .ok (.return_, 1)) : GG k q (wS k s E0 M) pc L [] (some M) := by
  intro ht H locs hP hS ls hl
  have e : q = M := (Option.some.inj ht).symm
  subst e
  obtain ⟨h1, h2, h3⟩ := hq
  show W (kp k) (kl k) (ke k) (kR k) (ks k) (km k) (ka k) (kb k) (kme k) (kc k) H locs (kcn k) (ksn k) (kQ k) (F0 (km k) pc ls [])
  rw [h1, h2, h3]
  exact W.vret hk.1 hk.2.1 hk.2.2.2.2.2.2.1 (fun t' e hW => ⟨⟨(), rfl, trivial, by subst e; exact hP⟩, hS.F e⟩) hS.2.2 hd hk.2.2.2.2.2.2.2.1
end SROWS
section SOFS
variable {l : Launch} {C : DD} {a s : Nat} {E0 : Nat → va_E} {y : MethodName} {b : ByteArray} {nL h : Nat} {r : FieldType} {av : List Value} {M : Mem}
theorem CIS_of {t : Option (Int32 × Mem)} (own : String) (hy : plainName y.cls = true) (ho : y.cls = own) (hn : (lg_sl av).length ≤ nL) (B : ∀ (k : KT) (q : Int32 × Mem), CX k b own nL (some r) h → RIS k s E0 q → kl k = l → kC k = C → kh k = a → GG k q (wS k s E0 M) 0 (lv_args 0 av) [] t) : CIS l C a s E0 y b nL r h av M t := by
  intro q hq
  refine Met.ofW (cc := b) (maxL := nL) (ret := some r) hy rfl ?_
  intro p e st m args below meth c s₁ Bd hml hv
  obtain ⟨rfl, hP, hT⟩ := hv
  have hts := atoms_spec (ws := .code y b nL (some r) :: tblG) Bd.pre
  have hl := lv_entry av (n := nL) hn
  rw [lg_entry_eq]
  refine B (p, l, e, rmH h, st, m, av.toArray, below, meth, c, MQ below (va_Qi (fun r (_ : Unit) => r = q.1) (fun _ t => HS C a s E0 q.2 t.heap) (AW a)) av.toArray st 0 0 (AW a), a, C, 0, 0) q ⟨Bd.exec, Bd.bytes, hml, by rw [← ho]; exact findClass_of_methodNamed Bd.named, fun w hw => hts w (List.mem_cons_of_mem _ hw), hT, Bd.returns, Bd.notSynchronized, Nat.le_refl _, Nat.le_refl _, Nat.zero_le _, Nat.zero_le _⟩ ⟨rfl, rfl, rfl⟩ rfl rfl rfl hq st.heap [] hP va_S.rf _ ?_
  show lv_has _ c.maxLocals _
  rw [hml]
  exact hl
theorem CVS_of {t : Option Mem} (own : String) (hy : plainName y.cls = true) (ho : y.cls = own) (hn : (lg_sl av).length ≤ nL) (B : ∀ (k : KT) (q : Mem), CX k b own nL none h → RVS k s E0 q → kl k = l → kC k = C → kh k = a → GG k q (wS k s E0 M) 0 (lv_args 0 av) [] t) : CVS l C a s E0 y b nL h av M t := by
  intro q hq
  refine Met.ofW (cc := b) (maxL := nL) (ret := none) hy rfl ?_
  intro p e st m args below meth c s₁ Bd hml hv
  obtain ⟨rfl, hP, hT⟩ := hv
  have hts := atoms_spec (ws := .code y b nL none :: tblG) Bd.pre
  have hl := lv_entry av (n := nL) hn
  rw [lg_entry_eq]
  refine B (p, l, e, rmH h, st, m, av.toArray, below, meth, c, MQ below (va_Qv (fun (_ : Unit) => True) (fun _ t => HS C a s E0 q t.heap) (AW a)) av.toArray st 0 0 (AW a), a, C, 0, 0) q ⟨Bd.exec, Bd.bytes, hml, by rw [← ho]; exact findClass_of_methodNamed Bd.named, fun w hw => hts w (List.mem_cons_of_mem _ hw), hT, Bd.returns, Bd.notSynchronized, Nat.le_refl _, Nat.le_refl _, Nat.zero_le _, Nat.zero_le _⟩ ⟨rfl, rfl, rfl⟩ rfl rfl rfl hq st.heap [] hP va_S.rf _ ?_
  show lv_has _ c.maxLocals _
  rw [hml]
  exact hl
end SOFS
