/-! rows over the memory -/
/-- a class of the tables, by its place in vwCl -/
def LC (ci : Nat) (C : String) (T : u_T) (N : Nat) (ty : Nat → FieldType) : Prop := ci < 9 ∧ vwCl[ci]? = some (C, T, N) ∧ (∀ w ∈ u_ws C T N, w ∈ tblG) ∧ (∀ k, k < N → parseFieldDescriptor (T k).2.2.1 = some (ty k)) ∧ (∀ a, a < N → ∀ b, b < N → a ≠ b → (T a).2.1 ≠ (T b).2.1)
theorem LC0 : LC 0 RX0 TX0 1 tyX0 := ⟨by decide, rfl, lyX0, tyX0_ok, nmX0⟩
theorem LC1 : LC 1 RX1 TX1 14 tyX1 := ⟨by decide, rfl, lyX1, tyX1_ok, nmX1⟩
theorem LC2 : LC 2 RX2 TX2 6 tyX2 := ⟨by decide, rfl, lyX2, tyX2_ok, nmX2⟩
theorem LC3 : LC 3 RX3 TX3 2 tyX3 := ⟨by decide, rfl, lyX3, tyX3_ok, nmX3⟩
theorem LC4 : LC 4 RX4 TX4 10 tyX4 := ⟨by decide, rfl, lyX4, tyX4_ok, nmX4⟩
theorem LC5 : LC 5 RX5 TX5 14 tyX5 := ⟨by decide, rfl, lyX5, tyX5_ok, nmX5⟩
theorem LC6 : LC 6 RX6 TX6 4 tyX6 := ⟨by decide, rfl, lyX6, tyX6_ok, nmX6⟩
theorem LC7 : LC 7 RX7 TX7 10 tyX7 := ⟨by decide, rfl, lyX7, tyX7_ok, nmX7⟩
theorem LC8 : LC 8 RX8 TX8 28 tyX8 := ⟨by decide, rfl, lyX8, tyX8_ok, nmX8⟩
/-- a method: its words -/
def MF (y : MethodName) (b : ByteArray) (nL : Nat) (ret : Option FieldType) (n : Nat) : Prop := Cond.code y b nL ret ∈ tblG ∧ Cond.initialized y.cls ∈ tblG ∧ nL ≤ 40 ∧ y.cls ≠ "java/lang/invoke/MethodHandle" ∧ y.cls ≠ "java/lang/invoke/VarHandle" ∧ (parseMethodDescriptor y.desc).map (fun d => d.parameters.length) = some n
def MFv (y : MethodName) : Prop := Cond.instanceMethod y ∈ tblG ∧ Cond.selects y.cls y y ∈ tblG
abbrev rmH (h : Nat) : Room := { frames := h, cells := 0, slots := 0, locals := 64 * h }
abbrev PcW (C : DD) (a : Nat) (av : List Value) (M : Mem) : Array Value → State → Prop := va_Pc av (fun U => WF C a M U.heap ∧ WT C U)
abbrev QcI (C : DD) (a : Nat) (q : Int32 × Mem) : Array Value → State → Outcome → State → Prop := va_Qi (fun r (_ : Unit) => r = q.1) (fun _ t => WF C a q.2 t.heap) (AW a)
abbrev QcL (C : DD) (a : Nat) (q : Int64 × Mem) : Array Value → State → Outcome → State → Prop := va_Ql (fun r (_ : Unit) => r = q.1) (fun _ t => WF C a q.2 t.heap) (AW a)
abbrev QcV (C : DD) (a : Nat) (q : Mem) : Array Value → State → Outcome → State → Prop := va_Qv (fun (_ : Unit) => True) (fun _ t => WF C a q t.heap) (AW a)
abbrev QcR (C : DD) (a : Nat) (q : Mem) : Array Value → State → Outcome → State → Prop := va_Qr (fun (_ : Unit) => True) (fun _ r t => r = a + 34 ∧ WF C a q t.heap) (AW a)
/-- contracts: with the memory M, these arguments, if the function t comes to q, the method answers q.1, and the memory is q.2 -/
def CI (l : Launch) (C : DD) (a : Nat) (y : MethodName) (b : ByteArray) (nL : Nat) (ret : FieldType) (h : Nat) (av : List Value) (M : Mem) (t : Option (Int32 × Mem)) : Prop := ∀ q, t = some q → Met l y (.code y b nL (some ret) :: tblG) (rmH h) (PcW C a av M) (QcI C a q) 0 0 (AW a)
def CL (l : Launch) (C : DD) (a : Nat) (y : MethodName) (b : ByteArray) (nL : Nat) (h : Nat) (av : List Value) (M : Mem) (t : Option (Int64 × Mem)) : Prop := ∀ q, t = some q → Met l y (.code y b nL (some .long) :: tblG) (rmH h) (PcW C a av M) (QcL C a q) 0 0 (AW a)
def CV (l : Launch) (C : DD) (a : Nat) (y : MethodName) (b : ByteArray) (nL : Nat) (h : Nat) (av : List Value) (M : Mem) (t : Option Mem) : Prop := ∀ q, t = some q → Met l y (.code y b nL none :: tblG) (rmH h) (PcW C a av M) (QcV C a q) 0 0 (AW a)
def CR (l : Launch) (C : DD) (a : Nat) (y : MethodName) (b : ByteArray) (nL : Nat) (ret : FieldType) (h : Nat) (av : List Value) (M : Mem) (t : Option Mem) : Prop := ∀ q, t = some q → Met l y (.code y b nL (some ret) :: tblG) (rmH h) (PcW C a av M) (QcR C a q) 0 0 (AW a)
section HROWS
variable {α : Type} {k : KT} {q : α} {pc pc' : Nat} {L L' : List (Nat × Value)} {st : List Value} {t : Option α} {cc : ByteArray} {own : String} {nL h : Nat} {ret : Option FieldType} {M : Mem}
theorem WF_at {C : DD} {a i : Nat} (h : kd i ≠ 12) : (Wo a 183 (fun j => EC C a j (M j)))[i]? = some (a + i, EC C a i (M i)) := Wo_at (kd_lt h)
theorem GG_get (hk : CX k cc own nL ret h) {ci N ix o : Nat} {C ref : String} {T : u_T} {ty : Nat → FieldType} (lc : LC ci C T N ty) (kx : Nat) {v : Value} (hw : Cond.fieldLink own ix ref (T kx).2.1 (T kx).2.2.1 ∈ tblG) (href : (T kx).1 = ref) (ho : kd o = ci) (hkx : kx < N) (hv : (flds (kh k) o (M o) ci)[kx]? = some v) (hd : decode cc pc = .ok (.getfield ix, 3)) (hp : pc + 3 = pc') (x : GG k q (wM k M) pc' L (v :: st) t) : GG k q (wM k M) pc L (.ref (kh k + o) :: st) t := by
  subst hp
  intro ht H locs hP hS ls hl
  obtain ⟨l1, l2, l3, l4, l5⟩ := lc
  refine va_get hk.1 hk.2.1 hk.ts l3 hk.ow hk.K hP o (fs := flds (kh k) o (M o) ci) ?_ l2 kx hkx (hk.ts _ hw) (fun y hy => by rw [← href]; exact hy) hv hd (x ht H locs hP hS ls hl)
  rw [WF_at (by omega), EC_o ho l1]
theorem GG_put (hk : CX k cc own nL ret h) {ci N ix o : Nat} {C ref : String} {T : u_T} {ty : Nat → FieldType} {g : Mem → Option α} (lc : LC ci C T N ty) (kx : Nat) {y : Int32} (hw : Cond.fieldLink own ix ref (T kx).2.1 (T kx).2.2.1 ∈ tblG) (href : (T kx).1 = ref) (ho : kd o = ci) (hkx : kx < N) (hty : ty kx = .int) (hfin : (T kx).2.2.2 = false) (hln : kx < (flds (kh k) o (M o) ci).length) (hv : flds (kh k) o (upd (M o) kx y) ci = (flds (kh k) o (M o) ci).set kx (.int y)) (hd : decode cc pc = .ok (.putfield ix, 3)) (hp : pc + 3 = pc') (x : ∀ M', wrf M o kx y = some M' → GG k q (wM k M') pc' L st (g M')) : GG k q (wM k M) pc L (.int y :: .ref (kh k + o) :: st) (Option.bind (wrf M o kx y) g) := by
  subst hp
  intro ht H locs hP hS ls hl
  obtain ⟨l1, l2, l3, l4, l5⟩ := lc
  refine va_put hk.1 hk.2.1 hk.ts l3 ty l4 l5 hk.ow hk.K hP Wo_D hS o (fs := flds (kh k) o (M o) ci) (ci := ci) ?_ l2 kx hkx (hk.ts _ hw) (fun y hy => by rw [← href]; exact hy) hfin (l4 kx hkx) (by rw [hty]; rfl) (by rw [hty]; rfl) hln hd (fun H1 locs1 hP1 _ hS1 => ?_)
  · rw [WF_at (by omega), EC_o ho l1]
  · rw [WF_set (r := upd (M o) kx y) (by rw [EC_o ho l1, hv])] at hP1
    exact x _ rfl ht H1 locs1 hP1 hS1 ls hl
theorem GG_putz (hk : CX k cc own nL ret h) {ci N ix o : Nat} {C ref : String} {T : u_T} {ty : Nat → FieldType} {g : Mem → Option α} (lc : LC ci C T N ty) (kx : Nat) {y : Int32} (hw : Cond.fieldLink own ix ref (T kx).2.1 (T kx).2.2.1 ∈ tblG) (href : (T kx).1 = ref) (ho : kd o = ci) (hkx : kx < N) (hty : ty kx = .boolean) (hfin : (T kx).2.2.2 = false) (hln : kx < (flds (kh k) o (M o) ci).length) (hv : flds (kh k) o (upd (M o) kx y) ci = (flds (kh k) o (M o) ci).set kx (.int y)) (hd : decode cc pc = .ok (.putfield ix, 3)) (hp : pc + 3 = pc') (x : ∀ M', wrz M o kx y = some M' → GG k q (wM k M') pc' L st (g M')) : GG k q (wM k M) pc L (.int y :: .ref (kh k + o) :: st) (Option.bind (wrz M o kx y) g) := by
  subst hp
  intro ht H locs hP hS ls hl
  obtain ⟨l1, l2, l3, l4, l5⟩ := lc
  by_cases hy : y = 0 ∨ y = 1
  · have e : wrz M o kx y = some _ := if_pos hy
    rw [e] at ht
    refine va_put hk.1 hk.2.1 hk.ts l3 ty l4 l5 hk.ow hk.K hP Wo_D hS o (fs := flds (kh k) o (M o) ci) (ci := ci) ?_ l2 kx hkx (hk.ts _ hw) (fun y hy => by rw [← href]; exact hy) hfin (l4 kx hkx) (by rw [hty]; rcases hy with rfl | rfl <;> rfl) (by rw [hty]; rcases hy with rfl | rfl <;> rfl) hln hd (fun H1 locs1 hP1 _ hS1 => ?_)
    · rw [WF_at (by omega), EC_o ho l1]
    · rw [WF_set (r := upd (M o) kx y) (by rw [EC_o ho l1, hv])] at hP1
      exact x _ e ht H1 locs1 hP1 hS1 ls hl
  · simp [wrz, hy] at ht
theorem GG_scene (hk : CX k cc own nL ret h) {g : Nat → Option α} {pc' ix : Nat} (hw : Cond.fieldLink own ix "SettingsInLayers$Resolver" "scene" "LSettingsInLayers$Scene;" ∈ tblG) (hd : decode cc pc = .ok (.getfield ix, 3)) (hp : pc + 3 = pc') (x : ∀ s, okS s → rsc (M 31 0) = some s → GG k q (wM k M) pc' L (.ref (kh k + s) :: st) (g s)) : GG k q (wM k M) pc L (.ref (kh k + 31) :: st) (Option.bind (rsc (M 31 0)) g) := by
  intro ht H locs hP hS ls hl
  by_cases hy : M 31 0 = 1 ∨ M 31 0 = 11 ∨ M 31 0 = 21
  · have e : rsc (M 31 0) = some (M 31 0).toNatClampNeg := if_pos hy
    rw [e] at ht
    refine GG_get hk LC2 0 (v := .ref (kh k + (M 31 0).toNatClampNeg)) hw rfl rfl (by decide) ?_ hd hp (x _ (by unfold okS; rcases hy with h | h | h <;> rw [h] <;> decide) e) ht H locs hP hS ls hl
    show some (if M 31 0 = 0 then Value.null else _) = _
    rw [if_neg (by rcases hy with h | h | h <;> rw [h] <;> decide)]
  · simp [rsc, hy] at ht
theorem GG_putscene (hk : CX k cc own nL ret h) {g : Mem → Option α} {pc' ix s : Nat} (hs : okS s) (hw : Cond.fieldLink own ix "SettingsInLayers$Resolver" "scene" "LSettingsInLayers$Scene;" ∈ tblG) (hd : decode cc pc = .ok (.putfield ix, 3)) (hp : pc + 3 = pc') (x : ∀ M', wrf M 31 0 (Int32.ofNat s) = some M' → GG k q (wM k M') pc' L st (g M')) : GG k q (wM k M) pc L (.ref (kh k + s) :: .ref (kh k + 31) :: st) (Option.bind (wrf M 31 0 (Int32.ofNat s)) g) := by
  subst hp
  intro ht H locs hP hS ls hl
  refine va_put hk.1 hk.2.1 hk.ts lyX2 tyX2 tyX2_ok nmX2 hk.ow hk.K hP Wo_D hS 31 (fs := flds (kh k) 31 (M 31) 2) (ci := 2) ?_ rfl 0 (by decide) (hk.ts _ hw) (fun y hy => hy) rfl (tyX2_ok 0 (by decide)) rfl rfl (Nat.zero_lt_succ _) hd (fun H1 locs1 hP1 _ hS1 => ?_)
  · rw [WF_at (by decide), EC_o (c := 2) rfl (by decide)]
  · rw [WF_set (r := upd (M 31) 0 (Int32.ofNat s)) (by
      rw [EC_o (c := 2) rfl (by decide)]
      rcases hs with rfl | rfl | rfl <;> rfl)] at hP1
    exact x _ rfl ht H1 locs1 hP1 hS1 ls hl
theorem GG_iald (hk : CX k cc own nL ret h) {a n pc' : Nat} {i : Int32} {g : Int32 → Option α} (ha : kd a = 11) (hn : ln a = n) (hd : decode cc pc = .ok (.iaload, 1)) (hp : pc + 1 = pc') (x : ∀ v, rd n (M a) i = some v → GG k q (wM k M) pc' L (.int v :: st) (g v)) : GG k q (wM k M) pc L (.int i :: .ref (kh k + a) :: st) (Option.bind (rd n (M a) i) g) := by
  subst hp; subst hn
  intro ht H locs hP hS ls hl
  by_cases hb : i < 0 ∨ ln a ≤ i.toNatClampNeg
  · simp [rd, hb] at ht
  · have e : rd (ln a) (M a) i = some _ := if_neg hb
    rw [e] at ht
    exact va_iald hk.1 hk.2.1 hk.K hP a 0 (cA := (kC k).2.1) (n := ln a) (f := M a) (by rw [WF_at (by omega), EC_11 ha]) rfl hb hd (x _ e ht H locs hP hS ls hl)
theorem GG_bald (hk : CX k cc own nL ret h) {a n pc' : Nat} {i : Int32} {g : Int32 → Option α} (ha : kd a = 10) (hn : ln a = n) (hd : decode cc pc = .ok (.baload, 1)) (hp : pc + 1 = pc') (x : ∀ v, rd n (M a) i = some v → GG k q (wM k M) pc' L (.int v :: st) (g v)) : GG k q (wM k M) pc L (.int i :: .ref (kh k + a) :: st) (Option.bind (rd n (M a) i) g) := by
  subst hp; subst hn
  intro ht H locs hP hS ls hl
  by_cases hb : i < 0 ∨ ln a ≤ i.toNatClampNeg
  · simp [rd, hb] at ht
  · have e : rd (ln a) (M a) i = some _ := if_neg hb
    rw [e] at ht
    exact va_zald hk.1 hk.2.1 hk.K hP a 1 (cA := (kC k).2.2.1) (n := ln a) (f := M a) (by rw [WF_at (by omega), EC_10 ha]) rfl hb hd (x _ e ht H locs hP hS ls hl)
theorem GG_aald (hk : CX k cc own nL ret h) {a n b pc' : Nat} {i : Int32} {g : Nat → Option α} (ha : kd a = 9) (hn : ln a = n) (hb' : fo a = b) (hok : ∀ d, d < n → okO (b + 7 * d)) (hd : decode cc pc = .ok (.aaload, 1)) (hp : pc + 1 = pc') (x : ∀ v, okO v → rdO n b i = some v → GG k q (wM k M) pc' L (.ref (kh k + v) :: st) (g v)) : GG k q (wM k M) pc L (.int i :: .ref (kh k + a) :: st) (Option.bind (rdO n b i) g) := by
  subst hp; subst hn; subst hb'
  intro ht H locs hP hS ls hl
  by_cases hb : i < 0 ∨ ln a ≤ i.toNatClampNeg
  · simp [rdO, hb] at ht
  · have e : rdO (ln a) (fo a) i = some _ := if_neg hb
    rw [e] at ht
    exact va_aldq hk.1 hk.2.1 hk.K hP a 2 (C := RX1) (cA := (kC k).2.2.2) (n := ln a) (f := fun j => some (kh k + (fo a + 7 * j))) (by rw [WF_at (by omega), EC_9 ha]) rfl hb hd (x _ (hok _ (by omega)) e ht H locs hP hS ls hl)
theorem GG_iast (hk : CX k cc own nL ret h) {a n pc' : Nat} {i y : Int32} {g : Mem → Option α} (ha : kd a = 11) (hn : ln a = n) (hd : decode cc pc = .ok (.iastore, 1)) (hp : pc + 1 = pc') (x : ∀ M', wra n M a i y = some M' → GG k q (wM k M') pc' L st (g M')) : GG k q (wM k M) pc L (.int y :: .int i :: .ref (kh k + a) :: st) (Option.bind (wra n M a i y) g) := by
  subst hp; subst hn
  intro ht H locs hP hS ls hl
  by_cases hb : i < 0 ∨ ln a ≤ i.toNatClampNeg
  · simp [wra, hb] at ht
  · have e : wra (ln a) M a i y = some _ := if_neg hb
    rw [e] at ht
    refine va_iast hk.1 hk.2.1 hk.K hP Wo_D hS a 0 (cA := (kC k).2.1) (n := ln a) (f := M a) (by rw [WF_at (by omega), EC_11 ha]) rfl hb hd (fun H1 locs1 hP1 _ hS1 => ?_)
    rw [WF_set (r := upd (M a) i.toNatClampNeg y) (by rw [EC_11 ha])] at hP1
    exact x _ e ht H1 locs1 hP1 hS1 ls hl
theorem GG_bast (hk : CX k cc own nL ret h) {a n pc' : Nat} {i y : Int32} {g : Mem → Option α} (ha : kd a = 10) (hn : ln a = n) (hd : decode cc pc = .ok (.bastore, 1)) (hp : pc + 1 = pc') (x : ∀ M', wrb n M a i y = some M' → GG k q (wM k M') pc' L st (g M')) : GG k q (wM k M) pc L (.int y :: .int i :: .ref (kh k + a) :: st) (Option.bind (wrb n M a i y) g) := by
  subst hp; subst hn
  intro ht H locs hP hS ls hl
  by_cases hy : y = 0 ∨ y = 1
  · by_cases hb : i < 0 ∨ ln a ≤ i.toNatClampNeg
    · simp [wrb, wra, hb] at ht
    · have e : wrb (ln a) M a i y = some (wr M a i.toNatClampNeg y) := by unfold wrb wra; rw [if_pos hy, if_neg hb]
      rw [e] at ht
      have en : vp_nar .boolean y = y := by rcases hy with rfl | rfl <;> rfl
      refine va_zast hk.1 hk.2.1 hk.K hP Wo_D hS a 1 (cA := (kC k).2.2.1) (n := ln a) (f := M a) (by rw [WF_at (by omega), EC_10 ha]) rfl hb hd (fun H1 locs1 hP1 _ hS1 => ?_)
      rw [en, WF_set (r := upd (M a) i.toNatClampNeg y) (by rw [EC_10 ha])] at hP1
      exact x _ e ht H1 locs1 hP1 hS1 ls hl
  · simp [wrb, hy] at ht
theorem GG_alen (hk : CX k cc own nL ret h) {a pc' : Nat} (ha : kd a = 11) (hd : decode cc pc = .ok (.arraylength, 1)) (hp : pc + 1 = pc') (x : GG k q (wM k M) pc' L (.int (Int32.ofNat (ln a)) :: st) t) : GG k q (wM k M) pc L (.ref (kh k + a) :: st) t := by
  subst hp
  intro ht H locs hP hS ls hl
  exact va_alen hk.1 hk.2.1 hk.K hP a 0 (cA := (kC k).2.1) (x := (ln a, .inl (M a))) (ty := .int) (by rw [WF_at (by omega), EC_11 ha]) rfl rfl hd (x ht H locs hP hS ls hl)
theorem GG_copy (hk : CX k cc own nL ret h) {ix a b na nb pc' : Nat} {sp dp n : Int32} {g : Mem → Option α} (hw : Cond.methodLink own ix arraycopyName ∈ tblG) (w1 : Cond.native arraycopyName ∈ tblG) (w2 : Cond.static arraycopyName ∈ tblG) (w3 : Cond.initialized "java/lang/System" ∈ tblG) (ha : kd a = 11) (hna : ln a = na) (hb : kd b = 11) (hnb : ln b = nb) (hh : 1 ≤ h) (hst : (st.map fun v => v.category).sum ≤ 8) (hd : decode cc pc = .ok (.invokestatic ix, 3)) (hp : pc + 3 = pc') (x : ∀ M', acp na nb M a sp b dp n = some M' → GG k q (wM k M') pc' L st (g M')) : GG k q (wM k M) pc L (.int n :: .int dp :: .ref (kh k + b) :: .int sp :: .ref (kh k + a) :: st) (Option.bind (acp na nb M a sp b dp n) g) := by
  subst hp; subst hna; subst hnb
  intro ht H locs hP hS ls hl
  by_cases hc : sp < 0 ∨ dp < 0 ∨ n < 0 ∨ ln a < sp.toNatClampNeg + n.toNatClampNeg ∨ ln b < dp.toNatClampNeg + n.toNatClampNeg
  · simp [acp, hc] at ht
  · have e : acp (ln a) (ln b) M a sp b dp n = some _ := if_neg hc
    rw [e] at ht
    have hfr := hk.2.2.2.2.2.2.2.2.1
    have hlo := hk.2.2.2.2.2.2.2.2.2.1
    have hnf : nativeFrameWords "java/lang/System" "arraycopy" 5 + 11 ≤ 56 := by decide +kernel
    refine va_copyi hk.1 hk.2.1 hl.1.symm hk.ow (hk.ts _ hw) (hk.ts _ w1) (hk.ts _ w2) (hk.ts _ w3) hk.K hP Wo_D hS a b 0 0 (c0 := (kC k).2.1) (c1 := (kC k).2.1) (n0 := ln a) (n1 := ln b) (f := M a) (g := M b) (ty := .int) (by rw [WF_at (by omega), EC_11 ha]) (by rw [WF_at (by omega), EC_11 hb]) rfl rfl rfl (fun z => hc (Or.inl z)) (fun z => hc (Or.inr (Or.inl z))) (fun z => hc (Or.inr (Or.inr (Or.inl z)))) (Nat.not_lt.mp fun z => hc (Or.inr (Or.inr (Or.inr (Or.inl z))))) (Nat.not_lt.mp fun z => hc (Or.inr (Or.inr (Or.inr (Or.inr z))))) (fun i _ => rfl) (by omega) (by omega) hd (fun H1 locs1 hP1 _ hS1 => ?_)
    rw [WF_set (r := va_cpy (M a) (M b) sp.toNatClampNeg dp.toNatClampNeg n.toNatClampNeg) (by rw [EC_11 hb])] at hP1
    exact x _ e ht H1 locs1 hP1 hS1 ls hl
/-! calls -/
theorem PcW_pre (hk : CX k cc own nL ret h) {H : Heap} (hP : WF (kC k) (kh k) M H) (av : List Value) : PreS (ks k) H (PcW (kC k) (kh k) av M) av :=
  ⟨fun a U g mk z => ⟨z.1, z.2.1, z.2.2.call⟩, fun U hU hW => ⟨rfl, by rw [hU]; exact hP, hk.wt.warm hW⟩⟩
theorem CallB_G (hk : CX k cc own nL ret h) {ix n mL h' : Nat} {y : MethodName} {b : ByteArray} {r : Option FieldType} (mf : MF y b mL r n) (hh : h' + 1 ≤ h) (hw : Cond.methodLink own ix y ∈ tblG) : CallB (kR k) (ks k) (ka k) own ix y b mL r (.code y b mL r :: tblG) (rmH h') 0 0 n := by
  obtain ⟨m1, m2, m3, m4, m5, m6⟩ := mf
  have hfr := hk.2.2.2.2.2.2.2.2.1
  have hlo := hk.2.2.2.2.2.2.2.2.2.1
  refine ⟨rfl, rfl, by show h' + 1 ≤ _; omega, by show 8 + (mL + 11) + 64 * h' ≤ _; omega, pay_in hk.ts (tblG_in m1), List.mem_cons_self, hk.ts _ m1, hk.ts _ m2, ⟨m4, m5⟩, fun sig e => ?_, hk.ts _ hw⟩
  rw [e] at m6
  exact (Option.some.inj m6).symm
theorem recv_G (hk : CX k cc own nL ret h) {H : Heap} (hP : WF (kC k) (kh k) M H) {ci N o : Nat} {C : String} {T : u_T} {ty : Nat → FieldType} (lc : LC ci C T N ty) (ho : kd o = ci) : ∃ cell : Cell, H[kh k + o]? = some cell ∧ cell.vm.isStatics = false ∧ (ks k).vm.findClass C = some cell.cls := by
  obtain ⟨l1, l2, l3, l4, l5⟩ := lc
  exact va_recv hk.K hP l2 (q0 := o) (fs := flds (kh k) o (M o) ci) (by rw [WF_at (by omega), EC_o ho l1])
theorem sub_A {a : Nat} : ∀ q : Nat, AW a q → AW a q := fun _ h => h
theorem GG_callVi (hk : CX k cc own nL ret h) {ix n mL h' ci N o : Nat} {y : MethodName} {b : ByteArray} {r : FieldType} {C : String} {T : u_T} {ty : Nat → FieldType} {As st0 : List Value} {t0 : Option (Int32 × Mem)} {g : Int32 × Mem → Option α} (mf : MF y b mL (some r) n) (mv : MFv y) (lc : LC ci C T N ty) (hC : y.cls = C) (hM : CI (kl k) (kC k) (kh k) y b mL r h' (.ref (kh k + o) :: As) M t0) (hh : h' + 1 ≤ h) (hw : Cond.methodLink own ix y ∈ tblG) (ho : kd o = ci) (hn : As.length = n) (hs : st0 = As.reverse ++ .ref (kh k + o) :: st) (hst : (st.map fun v => v.category).sum ≤ 8) (hd : decode cc pc = .ok (.invokevirtual ix, 3)) (hp : pc + 3 = pc') (x : ∀ z, t0 = some z → GG k q (wM k z.2) pc' L (.int z.1 :: st) (g z)) : GG k q (wM k M) pc L st0 (Option.bind t0 g) := by
  subst hp
  intro ht H locs hP hS ls hl
  cases hz : t0 with
  | none => rw [hz] at ht; simp at ht
  | some z =>
    rw [hz] at ht
    refine va_calli (va_runV (C := C) (As := As) (rest := st) ⟨hk.1, hk.2.1, hk.2.2.1, hk.ow, hk.ts⟩ (hM z hz) ⟨CallB_G hk mf hh hw, hk.ts _ mv.1, by rw [← hC]; exact hk.ts _ mv.2⟩ ⟨(PcW_pre hk hP _).1, recv_G hk hP lc ho, (PcW_pre hk hP _).2⟩ rfl hn (by rw [← hk.2.2.1]; exact hl.1) hs (lv_room hst) hd ⟨hk.2.2.2.2.2.2.2.2.2.2.1, hk.2.2.2.2.2.2.2.2.2.2.2⟩) hS (fun q _ e => e) (fun q e => e) (fun rr u tt H1 locs1 e1 e2 e3 e4 e5 e6 hS1 => ?_)
    subst e3; subst e1
    exact x z hz ht tt.heap locs1 e4 hS1 ls hl
theorem GG_callVl (hk : CX k cc own nL ret h) {ix n mL h' ci N o : Nat} {y : MethodName} {b : ByteArray} {C : String} {T : u_T} {ty : Nat → FieldType} {As st0 : List Value} {t0 : Option (Int64 × Mem)} {g : Int64 × Mem → Option α} (mf : MF y b mL (some .long) n) (mv : MFv y) (lc : LC ci C T N ty) (hC : y.cls = C) (hM : CL (kl k) (kC k) (kh k) y b mL h' (.ref (kh k + o) :: As) M t0) (hh : h' + 1 ≤ h) (hw : Cond.methodLink own ix y ∈ tblG) (ho : kd o = ci) (hn : As.length = n) (hs : st0 = As.reverse ++ .ref (kh k + o) :: st) (hst : (st.map fun v => v.category).sum ≤ 8) (hd : decode cc pc = .ok (.invokevirtual ix, 3)) (hp : pc + 3 = pc') (x : ∀ z, t0 = some z → GG k q (wM k z.2) pc' L (.long z.1 :: st) (g z)) : GG k q (wM k M) pc L st0 (Option.bind t0 g) := by
  subst hp
  intro ht H locs hP hS ls hl
  cases hz : t0 with
  | none => rw [hz] at ht; simp at ht
  | some z =>
    rw [hz] at ht
    refine va_calll (va_runV (C := C) (As := As) (rest := st) ⟨hk.1, hk.2.1, hk.2.2.1, hk.ow, hk.ts⟩ (hM z hz) ⟨CallB_G hk mf hh hw, hk.ts _ mv.1, by rw [← hC]; exact hk.ts _ mv.2⟩ ⟨(PcW_pre hk hP _).1, recv_G hk hP lc ho, (PcW_pre hk hP _).2⟩ rfl hn (by rw [← hk.2.2.1]; exact hl.1) hs (lv_room hst) hd ⟨hk.2.2.2.2.2.2.2.2.2.2.1, hk.2.2.2.2.2.2.2.2.2.2.2⟩) hS (fun q _ e => e) (fun q e => e) (fun rr u tt H1 locs1 e1 e2 e3 e4 e5 e6 hS1 => ?_)
    subst e3; subst e1
    exact x z hz ht tt.heap locs1 e4 hS1 ls hl
theorem GG_callVv (hk : CX k cc own nL ret h) {ix n mL h' ci N o : Nat} {y : MethodName} {b : ByteArray} {C : String} {T : u_T} {ty : Nat → FieldType} {As st0 : List Value} {t0 : Option Mem} {g : Mem → Option α} (mf : MF y b mL none n) (mv : MFv y) (lc : LC ci C T N ty) (hC : y.cls = C) (hM : CV (kl k) (kC k) (kh k) y b mL h' (.ref (kh k + o) :: As) M t0) (hh : h' + 1 ≤ h) (hw : Cond.methodLink own ix y ∈ tblG) (ho : kd o = ci) (hn : As.length = n) (hs : st0 = As.reverse ++ .ref (kh k + o) :: st) (hst : (st.map fun v => v.category).sum ≤ 8) (hd : decode cc pc = .ok (.invokevirtual ix, 3)) (hp : pc + 3 = pc') (x : ∀ z, t0 = some z → GG k q (wM k z) pc' L st (g z)) : GG k q (wM k M) pc L st0 (Option.bind t0 g) := by
  subst hp
  intro ht H locs hP hS ls hl
  cases hz : t0 with
  | none => rw [hz] at ht; simp at ht
  | some z =>
    rw [hz] at ht
    refine va_callv (va_runV (C := C) (As := As) (rest := st) ⟨hk.1, hk.2.1, hk.2.2.1, hk.ow, hk.ts⟩ (hM z hz) ⟨CallB_G hk mf hh hw, hk.ts _ mv.1, by rw [← hC]; exact hk.ts _ mv.2⟩ ⟨(PcW_pre hk hP _).1, recv_G hk hP lc ho, (PcW_pre hk hP _).2⟩ rfl hn (by rw [← hk.2.2.1]; exact hl.1) hs (lv_room hst) hd ⟨hk.2.2.2.2.2.2.2.2.2.2.1, hk.2.2.2.2.2.2.2.2.2.2.2⟩) hS (fun q _ e => e) (fun q e => e) (fun u tt H1 locs1 e1 e2 e3 e4 e5 e6 hS1 => ?_)
    subst e1
    exact x z hz ht tt.heap locs1 e4 hS1 ls hl
theorem GG_callVr (hk : CX k cc own nL ret h) {ix n mL h' ci N o : Nat} {y : MethodName} {b : ByteArray} {r : FieldType} {C : String} {T : u_T} {ty : Nat → FieldType} {As st0 : List Value} {t0 : Option Mem} {g : Mem → Option α} (mf : MF y b mL (some r) n) (mv : MFv y) (lc : LC ci C T N ty) (hC : y.cls = C) (hM : CR (kl k) (kC k) (kh k) y b mL r h' (.ref (kh k + o) :: As) M t0) (hh : h' + 1 ≤ h) (hw : Cond.methodLink own ix y ∈ tblG) (ho : kd o = ci) (hn : As.length = n) (hs : st0 = As.reverse ++ .ref (kh k + o) :: st) (hst : (st.map fun v => v.category).sum ≤ 8) (hd : decode cc pc = .ok (.invokevirtual ix, 3)) (hp : pc + 3 = pc') (x : ∀ z, t0 = some z → GG k q (wM k z) pc' L (.ref (kh k + 34) :: st) (g z)) : GG k q (wM k M) pc L st0 (Option.bind t0 g) := by
  subst hp
  intro ht H locs hP hS ls hl
  cases hz : t0 with
  | none => rw [hz] at ht; simp at ht
  | some z =>
    rw [hz] at ht
    refine va_callr (va_runV (C := C) (As := As) (rest := st) ⟨hk.1, hk.2.1, hk.2.2.1, hk.ow, hk.ts⟩ (hM z hz) ⟨CallB_G hk mf hh hw, hk.ts _ mv.1, by rw [← hC]; exact hk.ts _ mv.2⟩ ⟨(PcW_pre hk hP _).1, recv_G hk hP lc ho, (PcW_pre hk hP _).2⟩ rfl hn (by rw [← hk.2.2.1]; exact hl.1) hs (lv_room hst) hd ⟨hk.2.2.2.2.2.2.2.2.2.2.1, hk.2.2.2.2.2.2.2.2.2.2.2⟩) hS (fun q _ e => e) (fun q e => e) (fun u rr tt H1 locs1 e1 e2 e3 e4 e5 e6 hS1 => ?_)
    obtain ⟨e7, e8⟩ := e4
    subst e1; subst e7
    exact x z hz ht tt.heap locs1 e8 hS1 ls hl
theorem GG_callSi (hk : CX k cc own nL ret h) {ix n mL h' : Nat} {y : MethodName} {b : ByteArray} {r : FieldType} {As st0 : List Value} {t0 : Option (Int32 × Mem)} {g : Int32 × Mem → Option α} (mf : MF y b mL (some r) n) (ms : Cond.static y ∈ tblG) (hM : CI (kl k) (kC k) (kh k) y b mL r h' As M t0) (hh : h' + 1 ≤ h) (hw : Cond.methodLink own ix y ∈ tblG) (hn : As.length = n) (hs : st0 = As.reverse ++ st) (hst : (st.map fun v => v.category).sum ≤ 8) (hd : decode cc pc = .ok (.invokestatic ix, 3)) (hp : pc + 3 = pc') (x : ∀ z, t0 = some z → GG k q (wM k z.2) pc' L (.int z.1 :: st) (g z)) : GG k q (wM k M) pc L st0 (Option.bind t0 g) := by
  subst hp
  intro ht H locs hP hS ls hl
  cases hz : t0 with
  | none => rw [hz] at ht; simp at ht
  | some z =>
    rw [hz] at ht
    refine va_calli (va_runS (As := As) (rest := st) ⟨hk.1, hk.2.1, hk.2.2.1, hk.ow, hk.ts⟩ (hM z hz) ⟨CallB_G hk mf hh hw, hk.ts _ ms⟩ (PcW_pre hk hP _) rfl hn (by rw [← hk.2.2.1]; exact hl.1) hs (lv_room hst) hd ⟨hk.2.2.2.2.2.2.2.2.2.2.1, hk.2.2.2.2.2.2.2.2.2.2.2⟩) hS (fun q _ e => e) (fun q e => e) (fun rr u tt H1 locs1 e1 e2 e3 e4 e5 e6 hS1 => ?_)
    subst e3; subst e1
    exact x z hz ht tt.heap locs1 e4 hS1 ls hl
theorem GG_callSl (hk : CX k cc own nL ret h) {ix n mL h' : Nat} {y : MethodName} {b : ByteArray} {As st0 : List Value} {t0 : Option (Int64 × Mem)} {g : Int64 × Mem → Option α} (mf : MF y b mL (some .long) n) (ms : Cond.static y ∈ tblG) (hM : CL (kl k) (kC k) (kh k) y b mL h' As M t0) (hh : h' + 1 ≤ h) (hw : Cond.methodLink own ix y ∈ tblG) (hn : As.length = n) (hs : st0 = As.reverse ++ st) (hst : (st.map fun v => v.category).sum ≤ 8) (hd : decode cc pc = .ok (.invokestatic ix, 3)) (hp : pc + 3 = pc') (x : ∀ z, t0 = some z → GG k q (wM k z.2) pc' L (.long z.1 :: st) (g z)) : GG k q (wM k M) pc L st0 (Option.bind t0 g) := by
  subst hp
  intro ht H locs hP hS ls hl
  cases hz : t0 with
  | none => rw [hz] at ht; simp at ht
  | some z =>
    rw [hz] at ht
    refine va_calll (va_runS (As := As) (rest := st) ⟨hk.1, hk.2.1, hk.2.2.1, hk.ow, hk.ts⟩ (hM z hz) ⟨CallB_G hk mf hh hw, hk.ts _ ms⟩ (PcW_pre hk hP _) rfl hn (by rw [← hk.2.2.1]; exact hl.1) hs (lv_room hst) hd ⟨hk.2.2.2.2.2.2.2.2.2.2.1, hk.2.2.2.2.2.2.2.2.2.2.2⟩) hS (fun q _ e => e) (fun q e => e) (fun rr u tt H1 locs1 e1 e2 e3 e4 e5 e6 hS1 => ?_)
    subst e3; subst e1
    exact x z hz ht tt.heap locs1 e4 hS1 ls hl
theorem GG_callSv (hk : CX k cc own nL ret h) {ix n mL h' : Nat} {y : MethodName} {b : ByteArray} {As st0 : List Value} {t0 : Option Mem} {g : Mem → Option α} (mf : MF y b mL none n) (ms : Cond.static y ∈ tblG) (hM : CV (kl k) (kC k) (kh k) y b mL h' As M t0) (hh : h' + 1 ≤ h) (hw : Cond.methodLink own ix y ∈ tblG) (hn : As.length = n) (hs : st0 = As.reverse ++ st) (hst : (st.map fun v => v.category).sum ≤ 8) (hd : decode cc pc = .ok (.invokestatic ix, 3)) (hp : pc + 3 = pc') (x : ∀ z, t0 = some z → GG k q (wM k z) pc' L st (g z)) : GG k q (wM k M) pc L st0 (Option.bind t0 g) := by
  subst hp
  intro ht H locs hP hS ls hl
  cases hz : t0 with
  | none => rw [hz] at ht; simp at ht
  | some z =>
    rw [hz] at ht
    refine va_callv (va_runS (As := As) (rest := st) ⟨hk.1, hk.2.1, hk.2.2.1, hk.ow, hk.ts⟩ (hM z hz) ⟨CallB_G hk mf hh hw, hk.ts _ ms⟩ (PcW_pre hk hP _) rfl hn (by rw [← hk.2.2.1]; exact hl.1) hs (lv_room hst) hd ⟨hk.2.2.2.2.2.2.2.2.2.2.1, hk.2.2.2.2.2.2.2.2.2.2.2⟩) hS (fun q _ e => e) (fun q e => e) (fun u tt H1 locs1 e1 e2 e3 e4 e5 e6 hS1 => ?_)
    subst e1
    exact x z hz ht tt.heap locs1 e4 hS1 ls hl
/-- a static method of a nest mate -/
theorem GG_callNi (hk : CX k cc own nL ret h) {ix n mL h' : Nat} {y : MethodName} {b : ByteArray} {r : FieldType} {As st0 : List Value} {t0 : Option (Int32 × Mem)} {g : Int32 × Mem → Option α} (mf : MF y b mL (some r) n) (ms : Cond.static y ∈ tblG) (hM : CI (kl k) (kC k) (kh k) y b mL r h' As M t0) (hh : h' + 1 ≤ h) (hw : (own, ix, y) ∈ nwq) (hn : As.length = n) (hs : st0 = As.reverse ++ st) (hst : (st.map fun v => v.category).sum ≤ 8) (hd : decode cc pc = .ok (.invokestatic ix, 3)) (hp : pc + 3 = pc') (x : ∀ z, t0 = some z → GG k q (wM k z.2) pc' L (.int z.1 :: st) (g z)) : GG k q (wM k M) pc L st0 (Option.bind t0 g) := by
  subst hp
  intro ht H locs hP hS ls hl
  cases hz : t0 with
  | none => rw [hz] at ht; simp at ht
  | some z =>
    rw [hz] at ht
    have hfr := hk.2.2.2.2.2.2.2.2.1
    have hlo := hk.2.2.2.2.2.2.2.2.2.1
    have m3 := mf.2.2.1
    refine va_calli (va_runSN (As := As) (rest := st) ⟨hk.1, hk.2.1, hk.2.2.1, hk.ow, hk.ts⟩ (hM z hz) ⟨va_cnB n hk.ts (tblG_in mf.1) rfl rfl rfl (hk.wt.2.1 _ hw) (hk.ts _ mf.2.1) ⟨mf.2.2.2.1, mf.2.2.2.2.1, mf.2.2.2.2.2⟩ ⟨by show h' + 1 ≤ _; omega, by show 8 + (mL + 11) + 64 * h' ≤ _; omega⟩, hk.ts _ ms, trivial⟩ (PcW_pre hk hP _) rfl hn (by rw [← hk.2.2.1]; exact hl.1) hs (lv_room hst) hd ⟨hk.2.2.2.2.2.2.2.2.2.2.1, hk.2.2.2.2.2.2.2.2.2.2.2⟩) hS (fun q _ e => e) (fun q e => e) (fun rr u tt H1 locs1 e1 e2 e3 e4 e5 e6 hS1 => ?_)
    subst e3; subst e1
    exact x z hz ht tt.heap locs1 e4 hS1 ls hl
end HROWS
