/-! constructors: contracts over the world in the making -/
def CN (l : Launch) (C : DD) (a : Nat) (y : MethodName) (b : ByteArray) (nL h mc ms : Nat) (av : List Value) (n0 : Nat) (E : Nat → va_E) (n1 : Nat) (E' : Nat → va_E) : Prop := Met l y (.code y b nL none :: tblG) { frames := h, cells := mc, slots := ms, locals := 64 * h } (va_Pc av (fun U => HN C a n0 E U.heap ∧ WT C U)) (va_Qv (fun (_ : Unit) => True) (fun _ t => HN C a n1 E' t.heap) (AW a)) mc ms (AW a)
def CNr (l : Launch) (C : DD) (a : Nat) (y : MethodName) (b : ByteArray) (nL h mc ms : Nat) (av : List Value) (n0 : Nat) (E : Nat → va_E) (n1 : Nat) (E' : Nat → va_E) : Prop := Met l y (.code y b nL (some (.array (.object RX1))) :: tblG) { frames := h, cells := mc, slots := ms, locals := 64 * h } (va_Pc av (fun U => HN C a n0 E U.heap ∧ WT C U)) (va_Qr (fun (_ : Unit) => True) (fun _ r t => r = a + n0 ∧ HN C a n1 E' t.heap) (AW a)) mc ms (AW a)
def RN (k : KT) (n1 : Nat) (E' : Nat → va_E) : Prop := kQ k = MQ (kb k) (va_Qv (fun (_ : Unit) => True) (fun _ t => HN (kC k) (kh k) n1 E' t.heap) (AW (kh k))) (ka k) (ks k) (kcn k) (ksn k) (AW (kh k))
def RNr (k : KT) (n0 n1 : Nat) (E' : Nat → va_E) : Prop := kQ k = MQ (kb k) (va_Qr (fun (_ : Unit) => True) (fun _ r t => r = kh k + n0 ∧ HN (kC k) (kh k) n1 E' t.heap) (AW (kh k))) (ka k) (ks k) (kcn k) (ksn k) (AW (kh k))
section CTR
variable {α : Type} {k : KT} {q : α} {pc pc' : Nat} {L L' : List (Nat × Value)} {st : List Value} {t : Option α} {cc : ByteArray} {own : String} {nL h N cn sn : Nat} {ret : Option FieldType} {E : Nat → va_E}
theorem NG_vret {n1 : Nat} {E' : Nat → va_E} (hk : CX k cc own nL none h) (hq : RN k n1 E') (hd : decode cc pc = .ok (.return_, 1)) (hc : cn = kcn k) (hs : sn = ksn k) : GG k q (wN k n1 E' cn sn) pc L [] t := by
  subst hc; subst hs
  intro ht H locs hP hS ls hl
  show W (kp k) (kl k) (ke k) (kR k) (ks k) (km k) (ka k) (kb k) (kme k) (kc k) H locs (kcn k) (ksn k) (kQ k) (F0 (km k) pc ls [])
  rw [hq]
  exact W.vret hk.1 hk.2.1 hk.2.2.2.2.2.2.1 (fun t' e hW => ⟨⟨(), rfl, trivial, by subst e; exact hP⟩, hS.F e⟩) hS.2.2 hd hk.2.2.2.2.2.2.2.1
theorem NG_aret {n0 n1 : Nat} {E' : Nat → va_E} {rt : FieldType} (hk : CX k cc own nL (some (.array rt)) h) (hq : RNr k n0 n1 E') (hd : decode cc pc = .ok (.areturn, 1)) (hc : cn = kcn k) (hs : sn = ksn k) : GG k q (wN k n1 E' cn sn) pc L [.ref (kh k + n0)] t := by
  subst hc; subst hs
  intro ht H locs hP hS ls hl
  show W (kp k) (kl k) (ke k) (kR k) (ks k) (km k) (ka k) (kb k) (kme k) (kc k) H locs (kcn k) (ksn k) (kQ k) (F0 (km k) pc ls [.ref (kh k + n0)])
  rw [hq]
  exact W.aret hk.1 hk.2.1 hk.2.2.2.2.2.2.1 (Or.inr ⟨_, rfl⟩) (Or.inr ⟨_, rfl⟩) (fun t' e hW => ⟨⟨(), _, rfl, trivial, rfl, by subst e; exact hP⟩, hS.F e⟩) hS.2.2 hd hk.2.2.2.2.2.2.2.1
theorem HN_pre (hk : CX k cc own nL ret h) {H : Heap} (hP : HN (kC k) (kh k) N E H) (av : List Value) : PreS (ks k) H (va_Pc av (fun U => HN (kC k) (kh k) N E U.heap ∧ WT (kC k) U)) av :=
  ⟨fun a U g mk z => ⟨z.1, z.2.1, z.2.2.call⟩, fun U hU hW => ⟨rfl, by rw [hU]; exact hP, hk.wt.warm hW⟩⟩
theorem NG_callI (hk : CX k cc own nL ret h) {ix mL h' mc ms o n1 : Nat} {y : MethodName} {b : ByteArray} {E' : Nat → va_E} (mf : MF y b mL none 0) (wi : Cond.instanceMethod y ∈ tblG) (hname : y.name = "<init>") (hM : CN (kl k) (kC k) (kh k) y b mL h' mc ms [.ref (kh k + o)] N E n1 E') (hh : h' + 1 ≤ h) (hw : Cond.methodLink own ix y ∈ tblG) (hf : cn + mc ≤ (kR k).cells ∧ sn + ms ≤ (kR k).slots) (hst : (st.map fun v => v.category).sum ≤ 8) (hd : decode cc pc = .ok (.invokespecial ix, 3)) (hp : pc + 3 = pc') (x : GG k q (wN k n1 E' (cn + mc) (sn + ms)) pc' L st t) : GG k q (wN k N E cn sn) pc L (.ref (kh k + o) :: st) t := by
  subst hp
  intro ht H locs hP hS ls hl
  have hfr := hk.2.2.2.2.2.2.2.2.1
  have hlo := hk.2.2.2.2.2.2.2.2.2.1
  obtain ⟨m1, m2, m3, m4, m5, m6⟩ := mf
  refine va_callv (va_runI (As := []) (rest := st) ⟨hk.1, hk.2.1, hk.2.2.1, hk.ow, hk.ts⟩ hM ⟨⟨rfl, rfl, by show h' + 1 ≤ _; omega, by show 8 + (mL + 11) + 64 * h' ≤ _; omega, pay_in hk.ts (tblG_in m1), List.mem_cons_self, hk.ts _ m1, hk.ts _ m2, ⟨m4, m5⟩, fun sig e => (by rw [e] at m6; exact (Option.some.inj m6).symm), hk.ts _ hw⟩, hname, hk.ts _ wi⟩ (HN_pre hk hP _) rfl rfl (by rw [← hk.2.2.1]; exact hl.1) rfl (lv_room hst) hd hf) hS (fun q _ e => e) (fun q e => e) (fun u tt H1 locs1 e1 e2 e3 e4 e5 e6 hS1 => ?_)
  subst e1
  exact x ht tt.heap locs1 e4 hS1 ls hl
theorem NG_callIN (hk : CX k cc own nL ret h) {ix mL h' mc ms o n1 : Nat} {y : MethodName} {b : ByteArray} {E' : Nat → va_E} (mf : MF y b mL none 0) (wi : Cond.instanceMethod y ∈ tblG) (hname : y.name = "<init>") (hM : CN (kl k) (kC k) (kh k) y b mL h' mc ms [.ref (kh k + o)] N E n1 E') (hh : h' + 1 ≤ h) (hw : (own, ix, y) ∈ nwq) (hf : cn + mc ≤ (kR k).cells ∧ sn + ms ≤ (kR k).slots) (hst : (st.map fun v => v.category).sum ≤ 8) (hd : decode cc pc = .ok (.invokespecial ix, 3)) (hp : pc + 3 = pc') (x : GG k q (wN k n1 E' (cn + mc) (sn + ms)) pc' L st t) : GG k q (wN k N E cn sn) pc L (.ref (kh k + o) :: st) t := by
  subst hp
  intro ht H locs hP hS ls hl
  have hfr := hk.2.2.2.2.2.2.2.2.1
  have hlo := hk.2.2.2.2.2.2.2.2.2.1
  obtain ⟨m1, m2, m3, m4, m5, m6⟩ := mf
  refine va_callv (va_runIN (As := []) (rest := st) ⟨hk.1, hk.2.1, hk.2.2.1, hk.ow, hk.ts⟩ hM ⟨va_cnB 0 hk.ts (tblG_in m1) rfl rfl rfl (hk.wt.2.1 _ hw) (hk.ts _ m2) ⟨m4, m5, m6⟩ ⟨by show h' + 1 ≤ _; omega, by show 8 + (mL + 11) + 64 * h' ≤ _; omega⟩, hname, hk.ts _ wi⟩ (HN_pre hk hP _) rfl rfl (by rw [← hk.2.2.1]; exact hl.1) rfl (lv_room hst) hd hf) hS (fun q _ e => e) (fun q e => e) (fun u tt H1 locs1 e1 e2 e3 e4 e5 e6 hS1 => ?_)
  subst e1
  exact x ht tt.heap locs1 e4 hS1 ls hl
theorem NG_callS (hk : CX k cc own nL ret h) {ix mL h' mc ms n1 : Nat} {z : Int32} {y : MethodName} {b : ByteArray} {E' : Nat → va_E} (mf : MF y b mL (some (.array (.object RX1))) 1) (wi : Cond.static y ∈ tblG) (hM : CNr (kl k) (kC k) (kh k) y b mL h' mc ms [.int z] N E n1 E') (hh : h' + 1 ≤ h) (hw : Cond.methodLink own ix y ∈ tblG) (hf : cn + mc ≤ (kR k).cells ∧ sn + ms ≤ (kR k).slots) (hst : (st.map fun v => v.category).sum ≤ 8) (hd : decode cc pc = .ok (.invokestatic ix, 3)) (hp : pc + 3 = pc') (x : GG k q (wN k n1 E' (cn + mc) (sn + ms)) pc' L (.ref (kh k + N) :: st) t) : GG k q (wN k N E cn sn) pc L (.int z :: st) t := by
  subst hp
  intro ht H locs hP hS ls hl
  have hfr := hk.2.2.2.2.2.2.2.2.1
  have hlo := hk.2.2.2.2.2.2.2.2.2.1
  obtain ⟨m1, m2, m3, m4, m5, m6⟩ := mf
  refine va_callr (va_runS (As := [.int z]) (rest := st) ⟨hk.1, hk.2.1, hk.2.2.1, hk.ow, hk.ts⟩ hM ⟨⟨rfl, rfl, by show h' + 1 ≤ _; omega, by show 8 + (mL + 11) + 64 * h' ≤ _; omega, pay_in hk.ts (tblG_in m1), List.mem_cons_self, hk.ts _ m1, hk.ts _ m2, ⟨m4, m5⟩, fun sig e => (by rw [e] at m6; exact (Option.some.inj m6).symm), hk.ts _ hw⟩, hk.ts _ wi⟩ (HN_pre hk hP _) rfl rfl (by rw [← hk.2.2.1]; exact hl.1) rfl (lv_room hst) hd hf) hS (fun q _ e => e) (fun q e => e) (fun u rr tt H1 locs1 e1 e2 e3 e4 e5 e6 hS1 => ?_)
  obtain ⟨e7, e8⟩ := e4
  subst e1; subst e7
  exact x ht tt.heap locs1 e8 hS1 ls hl
theorem NG_callSN (hk : CX k cc own nL ret h) {ix mL h' mc ms n1 : Nat} {z : Int32} {y : MethodName} {b : ByteArray} {E' : Nat → va_E} (mf : MF y b mL (some (.array (.object RX1))) 1) (wi : Cond.static y ∈ tblG) (hM : CNr (kl k) (kC k) (kh k) y b mL h' mc ms [.int z] N E n1 E') (hh : h' + 1 ≤ h) (hw : (own, ix, y) ∈ nwq) (hf : cn + mc ≤ (kR k).cells ∧ sn + ms ≤ (kR k).slots) (hst : (st.map fun v => v.category).sum ≤ 8) (hd : decode cc pc = .ok (.invokestatic ix, 3)) (hp : pc + 3 = pc') (x : GG k q (wN k n1 E' (cn + mc) (sn + ms)) pc' L (.ref (kh k + N) :: st) t) : GG k q (wN k N E cn sn) pc L (.int z :: st) t := by
  subst hp
  intro ht H locs hP hS ls hl
  have hfr := hk.2.2.2.2.2.2.2.2.1
  have hlo := hk.2.2.2.2.2.2.2.2.2.1
  obtain ⟨m1, m2, m3, m4, m5, m6⟩ := mf
  refine va_callr (va_runSN (As := [.int z]) (rest := st) ⟨hk.1, hk.2.1, hk.2.2.1, hk.ow, hk.ts⟩ hM ⟨va_cnB 1 hk.ts (tblG_in m1) rfl rfl rfl (hk.wt.2.1 _ hw) (hk.ts _ m2) ⟨m4, m5, m6⟩ ⟨by show h' + 1 ≤ _; omega, by show 8 + (mL + 11) + 64 * h' ≤ _; omega⟩, hk.ts _ wi, trivial⟩ (HN_pre hk hP _) rfl rfl (by rw [← hk.2.2.1]; exact hl.1) rfl (lv_room hst) hd hf) hS (fun q _ e => e) (fun q e => e) (fun u rr tt H1 locs1 e1 e2 e3 e4 e5 e6 hS1 => ?_)
  obtain ⟨e7, e8⟩ := e4
  subst e1; subst e7
  exact x ht tt.heap locs1 e8 hS1 ls hl
theorem NG_iast (hk : CX k cc own nL ret h) {n o : Nat} {f : Nat → Int32} {i y : Int32} (hE : E o = .inl ((kC k).2.1, n, .inl f)) (ho : o < N) (hin : vp_in i n) (hd : decode cc pc = .ok (.iastore, 1)) (hp : pc + 1 = pc') (x : GG k q (wN k N (eu E o (.inl ((kC k).2.1, n, .inl (upd f i.toNatClampNeg y)))) cn sn) pc' L st t) : GG k q (wN k N E cn sn) pc L (.int y :: .int i :: .ref (kh k + o) :: st) t := by
  subst hp
  intro ht H locs hP hS ls hl
  have he := hP.1 o _ (Wo_at ho)
  rw [hE] at he
  refine W.iast hk.1 hk.2.1 he ((hk.K.2 0 _ rfl).1 n (fun z => .int (f z))) (fun q => by cases q) (by show ¬ (i < 0 ∨ (arrV _ _ _).slots.size ≤ _); rw [arrV_size]; exact hin) rfl rfl hd fun H1 e1 z1 oq => ?_
  refine x ht H1 _ (hP.put ho z1 oq ?_) (hS.put z1 oq (Nat.le_add_right _ _)) ls hl
  show H1[kh k + o]? = some (vp_cell _ _)
  rw [e1]
  show some ((vp_cell _ _).setSlot _ _) = _
  rw [vp_cell_i, vp_cell_i, arrV_store]
  congr 2
  funext y'
  by_cases hy : y' = i.toNatClampNeg
  · subst hy
    simp [updV, upd]
  · simp [updV, upd, hy]
theorem NG_getF (hk : CX k cc own nL ret h) {ci NN ix o : Nat} {C ref : String} {T : u_T} {ty : Nat → FieldType} (lc : LC ci C T NN ty) (kx : Nat) {v : Value} {fs : List Value} (hw : Cond.fieldLink own ix ref (T kx).2.1 (T kx).2.2.1 ∈ tblG) (href : (T kx).1 = ref) (hE : E o = .inr (ci, fs)) (ho : o < N) (hkx : kx < NN) (hv : fs[kx]? = some v) (hd : decode cc pc = .ok (.getfield ix, 3)) (hp : pc + 3 = pc') (x : GG k q (wN k N E cn sn) pc' L (v :: st) t) : GG k q (wN k N E cn sn) pc L (.ref (kh k + o) :: st) t := by
  subst hp
  intro ht H locs hP hS ls hl
  obtain ⟨l1, l2, l3, l4, l5⟩ := lc
  exact va_get hk.1 hk.2.1 hk.ts l3 hk.ow hk.K hP.1 o (ci := ci) (fs := fs) (by rw [Wo_at ho, hE]) l2 kx hkx (hk.ts _ hw) (fun y hy => by rw [← href]; exact hy) hv hd (x ht H locs hP hS ls hl)
end CTR
section COFS
variable {l : Launch} {C : DD} {a : Nat} {y : MethodName} {b : ByteArray} {nL h mc ms n0 n1 : Nat} {E E' : Nat → va_E} {av : List Value}
theorem CN_of (own : String) (hy : plainName y.cls = true) (ho : y.cls = own) (hni : y.name = "<init>") (hn : (lg_sl av).length ≤ nL) (B : ∀ (k : KT), CX k b own nL none h → RN k n1 E' → (kme k).name = "<init>" → kcn k = mc → ksn k = ms → (kR k).cells = mc → (kR k).slots = ms → kl k = l → kC k = C → kh k = a → GG k () (wN k n0 E 0 0) 0 (lv_args 0 av) [] (some ())) : CN l C a y b nL h mc ms av n0 E n1 E' := by
  refine Met.ofW (cc := b) (maxL := nL) (ret := none) hy rfl ?_
  intro p e st m args below meth c s₁ Bd hml hv
  obtain ⟨rfl, hP, hT⟩ := hv
  have hts := atoms_spec (ws := .code y b nL none :: tblG) Bd.pre
  have hl := lv_entry av (n := nL) hn
  rw [lg_entry_eq]
  refine B (p, l, e, { frames := h, cells := mc, slots := ms, locals := 64 * h }, st, m, av.toArray, below, meth, c, MQ below (va_Qv (fun (_ : Unit) => True) (fun _ t => HN C a n1 E' t.heap) (AW a)) av.toArray st mc ms (AW a), a, C, mc, ms) ⟨Bd.exec, Bd.bytes, hml, by rw [← ho]; exact findClass_of_methodNamed Bd.named, fun w hw => hts w (List.mem_cons_of_mem _ hw), hT, Bd.returns, Bd.notSynchronized, Nat.le_refl _, Nat.le_refl _, Nat.le_refl _, Nat.le_refl _⟩ rfl ((name_of_methodNamed Bd.named Bd.method).1.trans hni) rfl rfl rfl rfl rfl rfl rfl rfl st.heap [] hP va_S.rf _ ?_
  show lv_has _ c.maxLocals _
  rw [hml]
  exact hl
theorem CNr_of (own : String) (hy : plainName y.cls = true) (ho : y.cls = own) (hn : (lg_sl av).length ≤ nL) (B : ∀ (k : KT), CX k b own nL (some (.array (.object RX1))) h → RNr k n0 n1 E' → kcn k = mc → ksn k = ms → (kR k).cells = mc → (kR k).slots = ms → kl k = l → kC k = C → kh k = a → GG k () (wN k n0 E 0 0) 0 (lv_args 0 av) [] (some ())) : CNr l C a y b nL h mc ms av n0 E n1 E' := by
  refine Met.ofW (cc := b) (maxL := nL) (ret := some (.array (.object RX1))) hy rfl ?_
  intro p e st m args below meth c s₁ Bd hml hv
  obtain ⟨rfl, hP, hT⟩ := hv
  have hts := atoms_spec (ws := .code y b nL (some (.array (.object RX1))) :: tblG) Bd.pre
  have hl := lv_entry av (n := nL) hn
  rw [lg_entry_eq]
  refine B (p, l, e, { frames := h, cells := mc, slots := ms, locals := 64 * h }, st, m, av.toArray, below, meth, c, MQ below (va_Qr (fun (_ : Unit) => True) (fun _ r t => r = a + n0 ∧ HN C a n1 E' t.heap) (AW a)) av.toArray st mc ms (AW a), a, C, mc, ms) ⟨Bd.exec, Bd.bytes, hml, by rw [← ho]; exact findClass_of_methodNamed Bd.named, fun w hw => hts w (List.mem_cons_of_mem _ hw), hT, Bd.returns, Bd.notSynchronized, Nat.le_refl _, Nat.le_refl _, Nat.le_refl _, Nat.le_refl _⟩ rfl rfl rfl rfl rfl rfl rfl rfl rfl st.heap [] hP va_S.rf _ ?_
  show lv_has _ c.maxLocals _
  rw [hml]
  exact hl
end COFS
/-! worlds whose newest cells are a list -/
def EL (n0 : Nat) (E0 : Nat → va_E) (ls : List va_E) : Nat → va_E := fun i => if i < n0 then E0 i else ls.getD (i - n0) (.inr (0, []))
theorem EL_push {n0 m : Nat} {E0 : Nat → va_E} {ls : List va_E} {e : va_E} (hm : ls.length = m) : ∀ i, i < n0 + m + 1 → eu (EL n0 E0 ls) (n0 + m) e i = EL n0 E0 (ls ++ [e]) i := by
  intro i hi
  by_cases h : i = n0 + m
  · subst h
    rw [eu_self]
    simp only [EL]
    rw [if_neg (by omega), List.getD_eq_getElem?_getD, show n0 + m - n0 = m by omega, List.getElem?_append_right (by omega), show m - ls.length = 0 by omega]
    rfl
  · rw [eu_ne h]
    simp only [EL]
    by_cases h1 : i < n0
    · rw [if_pos h1, if_pos h1]
    · rw [if_neg h1, if_neg h1, List.getD_eq_getElem?_getD, List.getD_eq_getElem?_getD, List.getElem?_append_left (by omega)]
theorem EL_set {n0 j : Nat} {E0 : Nat → va_E} {ls : List va_E} {e : va_E} (hj : j < ls.length) : ∀ i, eu (EL n0 E0 ls) (n0 + j) e i = EL n0 E0 (ls.set j e) i := by
  intro i
  by_cases h : i = n0 + j
  · subst h
    rw [eu_self]
    simp only [EL]
    rw [if_neg (by omega), List.getD_eq_getElem?_getD, show n0 + j - n0 = j by omega, List.getElem?_set_self hj]
    rfl
  · rw [eu_ne h]
    simp only [EL]
    by_cases h1 : i < n0
    · rw [if_pos h1, if_pos h1]
    · rw [if_neg h1, if_neg h1, List.getD_eq_getElem?_getD, List.getD_eq_getElem?_getD, List.getElem?_set_ne (by omega)]
theorem EL_at {n0 j : Nat} {E0 : Nat → va_E} {ls : List va_E} {e : va_E} (h : ls[j]? = some e) : EL n0 E0 ls (n0 + j) = e := by
  simp only [EL]
  rw [if_neg (by omega), List.getD_eq_getElem?_getD, show n0 + j - n0 = j by omega, h]
  rfl
