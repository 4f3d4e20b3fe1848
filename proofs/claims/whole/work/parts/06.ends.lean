/-! ends of methods, and contracts out of walks -/
def RI (k : KT) (q : Int32 × Mem) : Prop := kQ k = MQ (kb k) (QcI (kC k) (kh k) q) (ka k) (ks k) 0 0 (AW (kh k)) ∧ kcn k = 0 ∧ ksn k = 0
def RL_ (k : KT) (q : Int64 × Mem) : Prop := kQ k = MQ (kb k) (QcL (kC k) (kh k) q) (ka k) (ks k) 0 0 (AW (kh k)) ∧ kcn k = 0 ∧ ksn k = 0
def RV (k : KT) (q : Mem) : Prop := kQ k = MQ (kb k) (QcV (kC k) (kh k) q) (ka k) (ks k) 0 0 (AW (kh k)) ∧ kcn k = 0 ∧ ksn k = 0
def RR (k : KT) (q : Mem) : Prop := kQ k = MQ (kb k) (QcR (kC k) (kh k) q) (ka k) (ks k) 0 0 (AW (kh k)) ∧ kcn k = 0 ∧ ksn k = 0
section ENDS
variable {k : KT} {pc pc' : Nat} {L L' : List (Nat × Value)} {st : List Value} {cc : ByteArray} {own : String} {nL h : Nat} {M : Mem}
theorem GG_iret {q : Int32 × Mem} {x : Int32} (hk : CX k cc own nL (some .int) h) (hq : RI k q) (hd : decode cc pc = .ok (.ireturn, 1)) : GG k q (wM k M) pc L [.int x] (some (x, M)) := by
  intro ht H locs hP hS ls hl
  have e : q = (x, M) := (Option.some.inj ht).symm
  subst e
  obtain ⟨h1, h2, h3⟩ := hq
  show W (kp k) (kl k) (ke k) (kR k) (ks k) (km k) (ka k) (kb k) (kme k) (kc k) H locs (kcn k) (ksn k) (kQ k) (F0 (km k) pc ls [.int x])
  rw [h1, h2, h3]
  exact W.iret hk.1 hk.2.1 hk.2.2.2.2.2.2.1 (fun t' e hW => ⟨⟨x, (), rfl, rfl, by subst e; exact hP⟩, hS.F e⟩) hS.2.2 hd hk.2.2.2.2.2.2.2.1
theorem GG_zret {q : Int32 × Mem} {x : Int32} (hk : CX k cc own nL (some .boolean) h) (hq : RI k q) (hd : decode cc pc = .ok (.ireturn, 1)) : GG k q (wM k M) pc L [.int x] (bret x M) := by
  intro ht H locs hP hS ls hl
  by_cases hx : x = 0 ∨ x = 1
  · rw [bret, if_pos hx] at ht
    have e : q = (x, M) := (Option.some.inj ht).symm
    subst e
    obtain ⟨h1, h2, h3⟩ := hq
    show W (kp k) (kl k) (ke k) (kR k) (ks k) (km k) (ka k) (kb k) (kme k) (kc k) H locs (kcn k) (ksn k) (kQ k) (F0 (km k) pc ls [.int x])
    rw [h1, h2, h3]
    exact W.zret hk.1 hk.2.1 hk.2.2.2.2.2.2.1 (by rcases hx with rfl | rfl <;> rfl) (fun t' e hW => ⟨⟨x, (), rfl, rfl, by subst e; exact hP⟩, hS.F e⟩) hS.2.2 hd hk.2.2.2.2.2.2.2.1
  · simp [bret, hx] at ht
theorem GG_lret {q : Int64 × Mem} {x : Int64} (hk : CX k cc own nL (some .long) h) (hq : RL_ k q) (hd : decode cc pc = .ok (.lreturn, 1)) : GG k q (wM k M) pc L [.long x] (some (x, M)) := by
  intro ht H locs hP hS ls hl
  have e : q = (x, M) := (Option.some.inj ht).symm
  subst e
  obtain ⟨h1, h2, h3⟩ := hq
  show W (kp k) (kl k) (ke k) (kR k) (ks k) (km k) (ka k) (kb k) (kme k) (kc k) H locs (kcn k) (ksn k) (kQ k) (F0 (km k) pc ls [.long x])
  rw [h1, h2, h3]
  exact W.lret hk.1 hk.2.1 hk.2.2.2.2.2.2.1 (fun t' e hW => ⟨⟨x, (), rfl, rfl, by subst e; exact hP⟩, hS.F e⟩) hS.2.2 hd hk.2.2.2.2.2.2.2.1
theorem GG_vret {q : Mem} (hk : CX k cc own nL none h) (hq : RV k q) (hd : decode cc pc = .ok (.return_, 1)) : GG k q (wM k M) pc L [] (some M) := by
  intro ht H locs hP hS ls hl
  have e : q = M := (Option.some.inj ht).symm
  subst e
  obtain ⟨h1, h2, h3⟩ := hq
  show W (kp k) (kl k) (ke k) (kR k) (ks k) (km k) (ka k) (kb k) (kme k) (kc k) H locs (kcn k) (ksn k) (kQ k) (F0 (km k) pc ls [])
  rw [h1, h2, h3]
  exact W.vret hk.1 hk.2.1 hk.2.2.2.2.2.2.1 (fun t' e hW => ⟨⟨(), rfl, trivial, by subst e; exact hP⟩, hS.F e⟩) hS.2.2 hd hk.2.2.2.2.2.2.2.1
theorem GG_aret {q : Mem} {C : String} (hk : CX k cc own nL (some (.object C)) h) (hq : RR k q) (hd : decode cc pc = .ok (.areturn, 1)) : GG k q (wM k M) pc L [.ref (kh k + 34)] (some M) := by
  intro ht H locs hP hS ls hl
  have e : q = M := (Option.some.inj ht).symm
  subst e
  obtain ⟨h1, h2, h3⟩ := hq
  show W (kp k) (kl k) (ke k) (kR k) (ks k) (km k) (ka k) (kb k) (kme k) (kc k) H locs (kcn k) (ksn k) (kQ k) (F0 (km k) pc ls [.ref (kh k + 34)])
  rw [h1, h2, h3]
  exact W.aret hk.1 hk.2.1 hk.2.2.2.2.2.2.1 (Or.inl ⟨_, rfl⟩) (Or.inr ⟨_, rfl⟩) (fun t' e hW => ⟨⟨(), _, rfl, trivial, rfl, by subst e; exact hP⟩, hS.F e⟩) hS.2.2 hd hk.2.2.2.2.2.2.2.1
end ENDS
section OFS
variable {l : Launch} {C : DD} {a : Nat} {y : MethodName} {b : ByteArray} {nL h : Nat} {r : FieldType} {av : List Value} {M : Mem}
theorem CI_of {t : Option (Int32 × Mem)} (own : String) (hy : plainName y.cls = true) (ho : y.cls = own) (hn : (lg_sl av).length ≤ nL) (B : ∀ (k : KT) (q : Int32 × Mem), CX k b own nL (some r) h → RI k q → kl k = l → kC k = C → kh k = a → GG k q (wM k M) 0 (lv_args 0 av) [] t) : CI l C a y b nL r h av M t := by
  intro q hq
  refine Met.ofW (cc := b) (maxL := nL) (ret := some r) hy rfl ?_
  intro p e s m args below meth c s₁ Bd hml hv
  obtain ⟨rfl, hP, hT⟩ := hv
  have hts := atoms_spec (ws := .code y b nL (some r) :: tblG) Bd.pre
  have hl := lv_entry av (n := nL) hn
  rw [lg_entry_eq]
  refine B (p, l, e, rmH h, s, m, av.toArray, below, meth, c, MQ below (QcI C a q) av.toArray s 0 0 (AW a), a, C, 0, 0) q ⟨Bd.exec, Bd.bytes, hml, by rw [← ho]; exact findClass_of_methodNamed Bd.named, fun w hw => hts w (List.mem_cons_of_mem _ hw), hT, Bd.returns, Bd.notSynchronized, Nat.le_refl _, Nat.le_refl _, Nat.zero_le _, Nat.zero_le _⟩ ⟨rfl, rfl, rfl⟩ rfl rfl rfl hq s.heap [] hP va_S.rf _ ?_
  show lv_has _ c.maxLocals _
  rw [hml]
  exact hl
theorem CL_of {t : Option (Int64 × Mem)} (own : String) (hy : plainName y.cls = true) (ho : y.cls = own) (hn : (lg_sl av).length ≤ nL) (B : ∀ (k : KT) (q : Int64 × Mem), CX k b own nL (some .long) h → RL_ k q → kl k = l → kC k = C → kh k = a → GG k q (wM k M) 0 (lv_args 0 av) [] t) : CL l C a y b nL h av M t := by
  intro q hq
  refine Met.ofW (cc := b) (maxL := nL) (ret := some .long) hy rfl ?_
  intro p e s m args below meth c s₁ Bd hml hv
  obtain ⟨rfl, hP, hT⟩ := hv
  have hts := atoms_spec (ws := .code y b nL (some .long) :: tblG) Bd.pre
  have hl := lv_entry av (n := nL) hn
  rw [lg_entry_eq]
  refine B (p, l, e, rmH h, s, m, av.toArray, below, meth, c, MQ below (QcL C a q) av.toArray s 0 0 (AW a), a, C, 0, 0) q ⟨Bd.exec, Bd.bytes, hml, by rw [← ho]; exact findClass_of_methodNamed Bd.named, fun w hw => hts w (List.mem_cons_of_mem _ hw), hT, Bd.returns, Bd.notSynchronized, Nat.le_refl _, Nat.le_refl _, Nat.zero_le _, Nat.zero_le _⟩ ⟨rfl, rfl, rfl⟩ rfl rfl rfl hq s.heap [] hP va_S.rf _ ?_
  show lv_has _ c.maxLocals _
  rw [hml]
  exact hl
theorem CV_of {t : Option Mem} (own : String) (hy : plainName y.cls = true) (ho : y.cls = own) (hn : (lg_sl av).length ≤ nL) (B : ∀ (k : KT) (q : Mem), CX k b own nL none h → RV k q → kl k = l → kC k = C → kh k = a → GG k q (wM k M) 0 (lv_args 0 av) [] t) : CV l C a y b nL h av M t := by
  intro q hq
  refine Met.ofW (cc := b) (maxL := nL) (ret := none) hy rfl ?_
  intro p e s m args below meth c s₁ Bd hml hv
  obtain ⟨rfl, hP, hT⟩ := hv
  have hts := atoms_spec (ws := .code y b nL none :: tblG) Bd.pre
  have hl := lv_entry av (n := nL) hn
  rw [lg_entry_eq]
  refine B (p, l, e, rmH h, s, m, av.toArray, below, meth, c, MQ below (QcV C a q) av.toArray s 0 0 (AW a), a, C, 0, 0) q ⟨Bd.exec, Bd.bytes, hml, by rw [← ho]; exact findClass_of_methodNamed Bd.named, fun w hw => hts w (List.mem_cons_of_mem _ hw), hT, Bd.returns, Bd.notSynchronized, Nat.le_refl _, Nat.le_refl _, Nat.zero_le _, Nat.zero_le _⟩ ⟨rfl, rfl, rfl⟩ rfl rfl rfl hq s.heap [] hP va_S.rf _ ?_
  show lv_has _ c.maxLocals _
  rw [hml]
  exact hl
theorem CR_of {t : Option Mem} (own : String) (hy : plainName y.cls = true) (ho : y.cls = own) (hn : (lg_sl av).length ≤ nL) (B : ∀ (k : KT) (q : Mem), CX k b own nL (some r) h → RR k q → kl k = l → kC k = C → kh k = a → GG k q (wM k M) 0 (lv_args 0 av) [] t) : CR l C a y b nL r h av M t := by
  intro q hq
  refine Met.ofW (cc := b) (maxL := nL) (ret := some r) hy rfl ?_
  intro p e s m args below meth c s₁ Bd hml hv
  obtain ⟨rfl, hP, hT⟩ := hv
  have hts := atoms_spec (ws := .code y b nL (some r) :: tblG) Bd.pre
  have hl := lv_entry av (n := nL) hn
  rw [lg_entry_eq]
  refine B (p, l, e, rmH h, s, m, av.toArray, below, meth, c, MQ below (QcR C a q) av.toArray s 0 0 (AW a), a, C, 0, 0) q ⟨Bd.exec, Bd.bytes, hml, by rw [← ho]; exact findClass_of_methodNamed Bd.named, fun w hw => hts w (List.mem_cons_of_mem _ hw), hT, Bd.returns, Bd.notSynchronized, Nat.le_refl _, Nat.le_refl _, Nat.zero_le _, Nat.zero_le _⟩ ⟨rfl, rfl, rfl⟩ rfl rfl rfl hq s.heap [] hP va_S.rf _ ?_
  show lv_has _ c.maxLocals _
  rw [hml]
  exact hl
end OFS
section SW
variable {α : Type} {k : KT} {q : α} {w : WW} {pc : Nat} {L : List (Nat × Value)} {st : List Value} {t : Option α} {cc : ByteArray} {own : String} {nL h : Nat} {ret : Option FieldType}
theorem GG_tabIn (hk : CX k cc own nL ret h) {dflt lo hi : Int} {offs : Array Int} {len : Nat} {x : Int32} {off : Int} (tgt : Nat) (v : Int32) (hx : x = v) (hd : decode cc pc = .ok (.tableswitch dflt lo hi offs, len)) (h1 : ¬ v.toInt < lo) (h2 : ¬ hi < v.toInt) (ho : offs[(v.toInt - lo).toNat]? = some off) (hto : (pc : Int) + off = (tgt : Int)) (g : GG k q w tgt L st t) : GG k q w pc L (.int x :: st) t := by
  subst hx
  exact fun ht H locs hP hS ls hl => lv_tableIn hk.1 hk.2.1 hd h1 h2 ho hto (g ht H locs hP hS ls hl)
theorem GG_tabOut (hk : CX k cc own nL ret h) {dflt lo hi : Int} {offs : Array Int} {len : Nat} {x : Int32} (tgt : Nat) (hd : decode cc pc = .ok (.tableswitch dflt lo hi offs, len)) (ho : x.toInt < lo ∨ hi < x.toInt) (hto : (pc : Int) + dflt = (tgt : Int)) (g : GG k q w tgt L st t) : GG k q w pc L (.int x :: st) t :=
  fun ht H locs hP hS ls hl => lv_tableOut hk.1 hk.2.1 hd ho hto (g ht H locs hP hS ls hl)
theorem GG_look (hk : CX k cc own nL ret h) {dflt : Int} {ps : Array (Int × Int)} {len : Nat} {x : Int32} {off : Int} (tgt : Nat) (hd : decode cc pc = .ok (.lookupswitch dflt ps, len)) (hps : (ps.toList.zip (ps.toList.drop 1)).all (fun (a, next) => a.1 < next.1) = true) (ho : Op.lookupswitch.offset ps.toList dflt x.toInt = off) (hto : (pc : Int) + off = (tgt : Int)) (g : GG k q w tgt L st t) : GG k q w pc L (.int x :: st) t :=
  fun ht H locs hP hS ls hl => lv_lookup hk.1 hk.2.1 hd hps ho hto (g ht H locs hP hS ls hl)
theorem sw_ne {x v : Int32} (h : ¬ x = v) : x.toInt ≠ v.toInt := fun e => h (Int32.toInt_inj.mp e)
end SW
