/-! the world while it is being made: cells 0 .. N-1, and no more -/
def HN (C : DD) (a N : Nat) (E : Nat → va_E) (H : Heap) : Prop := va_P C.1 vwCl (Wo a N E) H ∧ H.size = a + N
def eu (E : Nat → va_E) (i : Nat) (e : va_E) : Nat → va_E := fun j => if j = i then e else E j
theorem eu_self {E : Nat → va_E} {i : Nat} {e : va_E} : eu E i e i = e := by simp [eu]
theorem eu_ne {E : Nat → va_E} {i j : Nat} {e : va_E} (h : j ≠ i) : eu E i e j = E j := by simp [eu, h]
theorem HN.congr {C : DD} {a N : Nat} {E E' : Nat → va_E} {H : Heap} (h : HN C a N E H) (e : ∀ i, i < N → E i = E' i) : HN C a N E' H := by
  refine ⟨fun i q hq => ?_, h.2⟩
  obtain ⟨hi, rfl⟩ := Wo_inv hq
  have := h.1 i (a + i, E i) (Wo_at hi)
  rw [e i hi] at this
  exact this
theorem HN.push {C : DD} {a N : Nat} {E : Nat → va_E} {H H1 : Heap} {e : va_E} (h : HN C a N E H) (z : H1.size = a + N + 1) (o : ∀ q, q < a + N → H1[q]? = H[q]?) (he : va_at C.1 vwCl (a + N, e) H1) : HN C a (N + 1) (eu E N e) H1 := by
  refine ⟨fun i q hq => ?_, z⟩
  obtain ⟨hi, rfl⟩ := Wo_inv hq
  by_cases hN : i = N
  · subst hN
    rw [eu_self]
    exact he
  · rw [eu_ne hN]
    exact (h.1 i (a + i, E i) (Wo_at (by omega))).kept (o _ (by show a + i < a + N; omega))
theorem HN.put {C : DD} {a N o : Nat} {E : Nat → va_E} {H H1 : Heap} {e : va_E} (h : HN C a N E H) (ho : o < N) (z : H1.size = H.size) (oq : ∀ q, q ≠ a + o → H1[q]? = H[q]?) (he : va_at C.1 vwCl (a + o, e) H1) : HN C a N (eu E o e) H1 := by
  refine ⟨fun i q hq => ?_, z.trans h.2⟩
  obtain ⟨hi, rfl⟩ := Wo_inv hq
  by_cases hN : i = o
  · subst hN
    rw [eu_self]
    exact he
  · rw [eu_ne hN]
    exact (h.1 i (a + i, E i) (Wo_at hi)).kept (oq _ (by show a + i ≠ a + o; omega))
abbrev wN (k : KT) (N : Nat) (E : Nat → va_E) (cn sn : Nat) : WW := (HN (kC k) (kh k) N E, cn, sn)
section NROWS
variable {α : Type} {k : KT} {q : α} {pc pc' : Nat} {L L' : List (Nat × Value)} {st : List Value} {t : Option α} {cc : ByteArray} {own : String} {nL h N cn sn : Nat} {ret : Option FieldType} {E : Nat → va_E}
theorem NG_congr {E' : Nat → va_E} (e : ∀ i, i < N → E i = E' i) (x : GG k q (wN k N E' cn sn) pc L st t) : GG k q (wN k N E cn sn) pc L st t :=
  fun ht H locs hP hS ls hl => x ht H locs (HN.congr hP e) hS ls hl
theorem NG_new (hk : CX k cc own nL ret h) {ci NN ix : Nat} {C : String} {T : u_T} {ty : Nat → FieldType} (lc : LC ci C T NN ty) (fs : List Value) (w1 : Cond.classLink own ix C ∈ tblG) (w2 : Cond.instantiable C NN ∈ tblG) (w3 : Cond.initialized C ∈ tblG) (hfs : ∀ j, j < NN → defaultValue (ty j) = vp_V fs j) (hc : cn + 1 ≤ (kR k).cells) (hs : sn + NN ≤ (kR k).slots) (hd : decode cc pc = .ok (.new ix, 3)) (hp : pc + 3 = pc') (x : GG k q (wN k (N + 1) (eu E N (.inr (ci, fs))) (cn + 1) (sn + NN)) pc' L (.ref (kh k + N) :: st) t) : GG k q (wN k N E cn sn) pc L st t := by
  subst hp
  intro ht H locs hP hS ls hl
  obtain ⟨l1, l2, l3, l4, l5⟩ := lc
  have hKn := hk.K.1 ci _ l2
  refine W.newcK hk.1 hk.2.1 hk.ow (hk.ts _ w1) (hk.ts _ w2) (hk.ts _ w3) rfl hd hc hs hKn.2.1 hP.2 fun H1 kC' hkC e1 z1 o1 => ?_
  refine x ht H1 locs (hP.push z1 o1 ⟨_, l2, (u_born ty hk.ts l3 hKn hkC e1 l4).to hfs⟩) ⟨Nat.le_trans hS.1 (by rw [z1, hP.2]; omega), fun y h1 h2 => ?_, hS.2.2⟩ ls hl
  rw [o1 y (by have := hS.1; rw [hP.2] at this; omega)]
  exact hS.2.1 y h1 h2
theorem NG_newa (hk : CX k cc own nL ret h) {n : Int32} (N' : Nat) (w1 : Cond.arrayClass .int ∈ tblG) (hn : ¬ n < 0) (hN : n.toNatClampNeg = N') (hb : N' * componentBytes (newarray.typeOf .int) ≤ 536870912) (hc : cn + 1 ≤ (kR k).cells) (hs : sn + N' ≤ (kR k).slots) (hd : decode cc pc = .ok (.newarray .int, 2)) (hp : pc + 2 = pc') (x : GG k q (wN k (N + 1) (eu E N (.inl ((kC k).2.1, N', .inl (fun _ => 0)))) (cn + 1) (sn + N')) pc' L (.ref (kh k + N) :: st) t) : GG k q (wN k N E cn sn) pc L (.int n :: st) t := by
  subst hp
  intro ht H locs hP hS ls hl
  refine va_newaK hk.1 hk.2.1 (atype := .int) (hk.ts _ w1) rfl hd rfl hn hN hb hc hs hP.2 fun H1 cA e1 z1 o1 hAr hNm => ?_
  have hcA : cA = (kC k).2.1 := by
    have h1 : (ks k).vm.findClass ("[" ++ FieldType.int.toString) = some (kC k).2.1 := (hk.K.2 0 _ rfl).2
    have h2 : (ks k).vm.findClass ("[" ++ FieldType.int.toString) = some cA := hNm
    exact Option.some.inj (h2.symm.trans h1)
  subst hcA
  refine x ht H1 locs (hP.push z1 o1 ?_) ⟨Nat.le_trans hS.1 (by rw [z1, hP.2]; omega), fun y h1 h2 => ?_, hS.2.2⟩ ls hl
  · exact e1
  · rw [o1 y (by have := hS.1; rw [hP.2] at this; omega)]
    exact hS.2.1 y h1 h2
theorem NG_newz (hk : CX k cc own nL ret h) {n : Int32} (N' : Nat) (w1 : Cond.arrayClass .boolean ∈ tblG) (hn : ¬ n < 0) (hN : n.toNatClampNeg = N') (hb : N' * componentBytes (newarray.typeOf .boolean) ≤ 536870912) (hc : cn + 1 ≤ (kR k).cells) (hs : sn + N' ≤ (kR k).slots) (hd : decode cc pc = .ok (.newarray .boolean, 2)) (hp : pc + 2 = pc') (x : GG k q (wN k (N + 1) (eu E N (.inl ((kC k).2.2.1, N', .inl (fun _ => 0)))) (cn + 1) (sn + N')) pc' L (.ref (kh k + N) :: st) t) : GG k q (wN k N E cn sn) pc L (.int n :: st) t := by
  subst hp
  intro ht H locs hP hS ls hl
  refine va_newaK hk.1 hk.2.1 (atype := .boolean) (hk.ts _ w1) rfl hd rfl hn hN hb hc hs hP.2 fun H1 cA e1 z1 o1 hAr hNm => ?_
  have hcA : cA = (kC k).2.2.1 := by
    have h1 : (ks k).vm.findClass ("[" ++ FieldType.boolean.toString) = some (kC k).2.2.1 := (hk.K.2 1 _ rfl).2
    have h2 : (ks k).vm.findClass ("[" ++ FieldType.boolean.toString) = some cA := hNm
    exact Option.some.inj (h2.symm.trans h1)
  subst hcA
  refine x ht H1 locs (hP.push z1 o1 ?_) ⟨Nat.le_trans hS.1 (by rw [z1, hP.2]; omega), fun y h1 h2 => ?_, hS.2.2⟩ ls hl
  · exact e1
  · rw [o1 y (by have := hS.1; rw [hP.2] at this; omega)]
    exact hS.2.1 y h1 h2
theorem NG_newq (hk : CX k cc own nL ret h) {n : Int32} (N' : Nat) {ix : Nat} (w1 : Cond.classLink own ix RX1 ∈ tblG) (hn : ¬ n < 0) (hN : n.toNatClampNeg = N') (hb : N' * 4 ≤ 536870912) (hc : cn + 1 ≤ (kR k).cells) (hs : sn + N' ≤ (kR k).slots) (hd : decode cc pc = .ok (.anewarray ix, 3)) (hp : pc + 3 = pc') (x : GG k q (wN k (N + 1) (eu E N (.inl ((kC k).2.2.2, N', .inr (.inr (.inr (.inr (fun _ => none))))))) (cn + 1) (sn + N')) pc' L (.ref (kh k + N) :: st) t) : GG k q (wN k N E cn sn) pc L (.int n :: st) t := by
  subst hp
  subst hN
  intro ht H locs hP hS ls hl
  refine W.anew hk.1 hk.2.1 hk.ow (hk.ts _ w1) (va_AO.use hk.wt.2.2) rfl hd rfl hn hb hc hs fun cA kA comp f1 f2 f3 f4 => ?_
  have hcA : cA = (kC k).2.2.2 := by
    obtain ⟨kA', comp', -, -, -, h1⟩ := (hk.K.2 2 _ rfl).2
    exact Option.some.inj (f1.symm.trans h1)
  subst hcA
  rw [hP.2]
  have z1 : (H.push ({ cls := (kC k).2.2.2, slots := Array.replicate n.toNatClampNeg .null, vm := .none } : Cell)).size = kh k + N + 1 := by rw [Array.size_push, hP.2]
  have o1 : ∀ y, y < kh k + N → (H.push ({ cls := (kC k).2.2.2, slots := Array.replicate n.toNatClampNeg .null, vm := .none } : Cell))[y]? = H[y]? := fun y hy => by rw [Array.getElem?_push, if_neg (by rw [hP.2]; omega)]
  refine x ht _ locs (hP.push z1 o1 ?_) ⟨Nat.le_trans hS.1 (by rw [z1, hP.2]; omega), fun y h1 h2 => ?_, hS.2.2⟩ ls hl
  · show _ = some (vp_cell _ _)
    rw [vp_cell_q, ← hP.2, Array.getElem?_push_size]
    exact congrArg some (arrV_new _ _ _)
  · rw [o1 y (by have := hS.1; rw [hP.2] at this; omega)]
    exact hS.2.1 y h1 h2
theorem NG_objInit (hk : CX k cc own nL ret h) {a ix : Nat} (hw : Cond.methodLink own ix Lib.objectInit ∈ tblG) (w1 : Cond.instanceMethod Lib.objectInit ∈ tblG) (w2 : Cond.code Lib.objectInit ⟨#[0xb1]⟩ 1 none ∈ tblG) {w : WW} (hh : 1 ≤ h) (hst : (st.map fun v => v.category).sum ≤ 8) (hd : decode cc pc = .ok (.invokespecial ix, 3)) (hp : pc + 3 = pc') (x : GG k q w pc' L st t) : GG k q w pc L (.ref a :: st) t := by
  subst hp
  intro ht H locs hP hS ls hl
  have hfr := hk.2.2.2.2.2.2.2.2.1
  have hlo := hk.2.2.2.2.2.2.2.2.2.1
  exact W.objInit hk.1 hk.2.1 hk.ow (hk.ts _ hw) (hk.ts _ w1) (hk.ts _ w2) rfl hl.1 rfl hd (by omega) (by show 2 * 0 + _ + 12 ≤ _; omega) (x ht H locs hP hS ls hl)
theorem NG_putF (hk : CX k cc own nL ret h) (hin : (kme k).name = "<init>") {ci NN ix o : Nat} {C ref : String} {T : u_T} {ty : Nat → FieldType} (lc : LC ci C T NN ty) (kx : Nat) {v : Nat} {fs : List Value} (fs' : List Value) (hw : Cond.fieldLink own ix ref (T kx).2.1 (T kx).2.2.1 ∈ tblG) (href : (T kx).1 = ref) (hE : E o = .inr (ci, fs)) (ho : o < N) (hkx : kx < NN) (hfin : (T kx).2.2.2 = true) (hdecl : (T kx).1 = own) (hnar : narrow (ty kx) (.ref v) = .ref v) (hfit : fits (ty kx) (.ref v) = true) (hln : kx < fs.length) (hfs : fs.set kx (.ref v) = fs') (hd : decode cc pc = .ok (.putfield ix, 3)) (hp : pc + 3 = pc') (x : GG k q (wN k N (eu E o (.inr (ci, fs'))) cn sn) pc' L st t) : GG k q (wN k N E cn sn) pc L (.ref v :: .ref (kh k + o) :: st) t := by
  subst hp; subst hfs
  intro ht H locs hP hS ls hl
  obtain ⟨l1, l2, l3, l4, l5⟩ := lc
  have hap := va_apart (own := own) hk.ts l3 ty l4 l5 hk.K l2
  have he := hP.1 o _ (Wo_at ho)
  rw [hE] at he
  obtain ⟨r, h1, cell, q1, q2, q3, q4⟩ := he
  have hr : r = (C, T, NN) := Option.some.inj (h1.symm.trans l2)
  subst hr
  obtain ⟨hSs, hfc, kC', hkC, hkind⟩ := hk.K.1 ci _ l2
  obtain ⟨cf, kf, fi, f, hi, hsl⟩ := hSs kx hkx
  have hlay := hk.ts _ (l3 _ (u_in_lay hkx))
  unfold u_lay at hlay
  rw [if_pos hfin] at hlay
  have hst := (u_facts hfc hkC (u_lays hk.ts l3 hkx) hi).1
  have hcf : (km k).cls = cf := by
    obtain ⟨_, _, c', _, _, _, -, -, hf', -, -, -, hown2, -⟩ := Cond.laysFinal_spec hlay
    have e1 : c' = cf := by have := hi.symm.trans hf'; simp at this; exact this.1.symm
    rw [hdecl] at hown2
    rw [← e1]; exact Option.some.inj (hk.ow.symm.trans hown2)
  have h6 := u_fits hfc hkC hkind (Or.inr hlay) hi (l4 kx hkx) hnar hfit
  refine W.putFinK hk.1 hk.2.1 hk.ow (hk.ts _ hw) (by rw [← href]; exact hi) hst hcf hin (by rw [q2]; exact h6) q1 q3 (by rw [hsl]; exact k2_hasslot (q4 kx hkx)) rfl rfl hd fun H' e1 e2 e3 => ?_
  rw [hsl] at e1
  refine x ht H' _ (hP.put ho e2 e3 ⟨_, l2, t_OB.to (V := updV (vp_V fs) kx (.ref v)) ⟨_, e1, q2, q3, t_set q4 hap hkx _⟩ (fun j _ => vp_updV_set hln _ j)⟩) (hS.put e2 e3 (Nat.le_add_right _ _)) ls hl
theorem NG_aast (hk : CX k cc own nL ret h) {n o v : Nat} {vs : List Value} {f : Nat → Option Nat} {i : Int32} (hEo : E o = .inl ((kC k).2.2.2, n, .inr (.inr (.inr (.inr f))))) (hEv : E v = .inr (1, vs)) (ho : o < N) (hv : v < N) (hin : vp_in i n) (hd : decode cc pc = .ok (.aastore, 1)) (hp : pc + 1 = pc') (x : GG k q (wN k N (eu E o (.inl ((kC k).2.2.2, n, .inr (.inr (.inr (.inr (va_up f i.toNatClampNeg (some (kh k + v))))))))) cn sn) pc' L st t) : GG k q (wN k N E cn sn) pc L (.ref (kh k + v) :: .int i :: .ref (kh k + o) :: st) t := by
  subst hp
  intro ht H locs hP hS ls hl
  have hlt : i.toNatClampNeg < n := Nat.not_le.mp fun q => hin (Or.inr q)
  have h0 : ¬ i < 0 := fun q => hin (Or.inl q)
  have heo := hP.1 o _ (Wo_at ho)
  rw [hEo] at heo
  have hev := hP.1 v _ (Wo_at hv)
  rw [hEv] at hev
  obtain ⟨r', hr', cellV, g1, g2, g3, -⟩ := hev
  have hcls := (hk.K.1 1 _ LC1.2.1).2
  obtain ⟨kA, comp, k1, k2, k3, -⟩ := (hk.K.2 2 _ rfl).2
  have hcomp : comp = (kC k).1.1 1 := Option.some.inj (k3.symm.trans hcls.1)
  subst hcomp
  obtain ⟨kC', hkC, -⟩ := hcls.2
  refine W.aast hk.1 hk.2.1 heo (fun q h => by cases h) (fun h => by cases h) k1 k2 rfl hkC ⟨h0, by show _ < (arrV _ _ _).slots.size; rw [arrV_size]; exact hlt⟩ g1 (fun q h => by rw [g3] at h; cases h) (by rw [g2]; exact hkC) (by rw [g2]; exact va_assign hcls) rfl rfl hd fun H1 e z oq => ?_
  refine x ht H1 _ (hP.put ho z oq ?_) (hS.put z oq (Nat.le_add_right _ _)) ls hl
  show H1[kh k + o]? = some (vp_cell _ _)
  rw [e]
  show some ((vp_cell _ _).setSlot _ _) = _
  rw [vp_cell_q, vp_cell_q, arrV_store]
  congr 2
  funext y
  by_cases hy : y = i.toNatClampNeg
  · subst hy
    simp [updV, va_up, va_rf]
  · simp [updV, va_up, hy]
end NROWS
