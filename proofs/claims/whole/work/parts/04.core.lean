/-! THE WORLD AS ONE MEMORY: the class's and the reference's cells are numbered as the law makes them (0 .. 182); cell i lies at h0 + i; M i k is what its place k holds -/
abbrev Mem : Type := Nat → Nat → Int32
def rset (M : Mem) (i : Nat) (r : Nat → Int32) : Mem := fun a => if a = i then r else M a
def wr (M : Mem) (i k : Nat) (x : Int32) : Mem := rset M i (upd (M i) k x)
def wrf (M : Mem) (i k : Nat) (x : Int32) : Option Mem := some (wr M i k x)
def wrz (M : Mem) (i k : Nat) (x : Int32) : Option Mem := if x = 0 ∨ x = 1 then some (wr M i k x) else none
def rd (n : Nat) (r : Nat → Int32) (i : Int32) : Option Int32 := if i < 0 ∨ n ≤ i.toNatClampNeg then none else some (r i.toNatClampNeg)
def rdO (n : Nat) (b : Nat) (i : Int32) : Option Nat := if i < 0 ∨ n ≤ i.toNatClampNeg then none else some (b + 7 * i.toNatClampNeg)
def wra (n : Nat) (M : Mem) (a : Nat) (i x : Int32) : Option Mem := if i < 0 ∨ n ≤ i.toNatClampNeg then none else some (wr M a i.toNatClampNeg x)
def wrb (n : Nat) (M : Mem) (a : Nat) (i x : Int32) : Option Mem := if x = 0 ∨ x = 1 then wra n M a i x else none
def acp (na nb : Nat) (M : Mem) (a : Nat) (sp : Int32) (b : Nat) (dp n : Int32) : Option Mem :=
  if sp < 0 ∨ dp < 0 ∨ n < 0 ∨ na < sp.toNatClampNeg + n.toNatClampNeg ∨ nb < dp.toNatClampNeg + n.toNatClampNeg then none
  else some (rset M b (va_cpy (M a) (M b) sp.toNatClampNeg dp.toNatClampNeg n.toNatClampNeg))
def bret (x : Int32) (M : Mem) : Option (Int32 × Mem) := if x = 0 ∨ x = 1 then some (x, M) else none
def dvI (x y : Int32) : Option Int32 := if y = 0 then none else some (x / y)
def rmI (x y : Int32) : Option Int32 := if y = 0 then none else some (x - x / y * y)
def dvL (x y : Int64) : Option Int64 := if y = 0 then none else some (x / y)
def rmL (x y : Int64) : Option Int64 := if y = 0 then none else some (x - x / y * y)
def rsc (x : Int32) : Option Nat := if x = 1 ∨ x = 11 ∨ x = 21 then some x.toNatClampNeg else none
/-- what kind of cell: 0 .. 8 an object of that class of vwCl; 9 a row of Outcomes; 10 of booleans; 11 of ints -/
def kd (i : Nat) : Nat :=
  if i < 31 then (if i = 0 then 7 else if (i - 1) % 10 = 0 then 4 else 11)
  else if i < 34 then (if i = 31 then 2 else if i = 32 then 11 else 9)
  else if i < 97 then (if (i - 34) % 7 = 0 then 1 else 11)
  else if i < 107 then (if i = 97 then 6 else if i = 99 then 5 else if i = 102 then 3 else if i = 104 then 0 else if i = 105 then 9 else 11)
  else if i < 163 then (if (i - 107) % 7 = 0 then 1 else 11)
  else if i < 183 then (if i = 163 then 8 else if i = 179 then 10 else 11)
  else 12
def lnL : List Nat := [6, 6, 8, 6, 48, 48, 48, 192, 192]
def lnO : List Nat := [10, 10, 10, 9, 9, 6]
def lnM : List Nat := [640, 640, 640, 640, 8, 96, 8, 12, 12, 12, 12, 12, 120, 120, 120, 8, 80, 80, 880]
def ln (i : Nat) : Nat :=
  if i < 31 then lnL.getD ((i - 1) % 10 - 1) 0
  else if i < 34 then 9
  else if i < 97 then lnO.getD ((i - 34) % 7 - 1) 0
  else if i < 107 then (if i = 98 then 96 else if i = 100 then 4 else if i = 101 then 4 else if i = 106 then 7 else 8)
  else if i < 163 then lnO.getD ((i - 107) % 7 - 1) 0
  else lnM.getD (i - 164) 0
/-- a Scene, an Outcome -/
def okS (s : Nat) : Prop := s = 1 ∨ s = 11 ∨ s = 21
def okO (o : Nat) : Prop := (∃ d, d < 9 ∧ o = 34 + 7 * d) ∨ (∃ d, d < 8 ∧ o = 107 + 7 * d)
theorem okS_1 : okS 1 := Or.inl rfl
theorem okS_11 : okS 11 := Or.inr (Or.inl rfl)
theorem okS_21 : okS 21 := Or.inr (Or.inr rfl)
theorem kdS_b : ∀ s, s < 22 → (s = 1 ∨ s = 11 ∨ s = 21) → kd s = 4 ∧ (∀ j, j < 9 → kd (s + (j + 1)) = 11 ∧ ln (s + (j + 1)) = lnL.getD j 0) := by decide +kernel
theorem kdO_b1 : ∀ d, d < 9 → kd (34 + 7 * d) = 1 ∧ (∀ j, j < 6 → kd (34 + 7 * d + (j + 1)) = 11 ∧ ln (34 + 7 * d + (j + 1)) = lnO.getD j 0) := by decide +kernel
theorem kdO_b2 : ∀ d, d < 8 → kd (107 + 7 * d) = 1 ∧ (∀ j, j < 6 → kd (107 + 7 * d + (j + 1)) = 11 ∧ ln (107 + 7 * d + (j + 1)) = lnO.getD j 0) := by decide +kernel
theorem kdS {s : Nat} (h : okS s) : kd s = 4 := (kdS_b s (by rcases h with h | h | h <;> omega) h).1
theorem kdSa {s : Nat} (h : okS s) (j : Nat) (hj : j < 9) : kd (s + (j + 1)) = 11 := ((kdS_b s (by rcases h with h | h | h <;> omega) h).2 j hj).1
theorem lnSa {s : Nat} (h : okS s) (j : Nat) (hj : j < 9) {n : Nat} (hn : lnL.getD j 0 = n) : ln (s + (j + 1)) = n := hn ▸ ((kdS_b s (by rcases h with h | h | h <;> omega) h).2 j hj).2
theorem kdO {o : Nat} (h : okO o) : kd o = 1 := by
  rcases h with ⟨d, hd, rfl⟩ | ⟨d, hd, rfl⟩
  · exact (kdO_b1 d hd).1
  · exact (kdO_b2 d hd).1
theorem kdOa {o : Nat} (h : okO o) (j : Nat) (hj : j < 6) : kd (o + (j + 1)) = 11 := by
  rcases h with ⟨d, hd, rfl⟩ | ⟨d, hd, rfl⟩
  · exact ((kdO_b1 d hd).2 j hj).1
  · exact ((kdO_b2 d hd).2 j hj).1
theorem lnOa {o : Nat} (h : okO o) (j : Nat) (hj : j < 6) {n : Nat} (hn : lnO.getD j 0 = n) : ln (o + (j + 1)) = n := by
  rcases h with ⟨d, hd, rfl⟩ | ⟨d, hd, rfl⟩
  · exact hn ▸ ((kdO_b1 d hd).2 j hj).2
  · exact hn ▸ ((kdO_b2 d hd).2 j hj).2
theorem kd_lt {i : Nat} (h : kd i ≠ 12) : i < 183 := by
  by_cases hi : i < 183
  · exact hi
  · exact absurd (by unfold kd; rw [if_neg (by omega), if_neg (by omega), if_neg (by omega), if_neg (by omega), if_neg (by omega), if_neg hi]) h
def flds (a i : Nat) (r : Nat → Int32) : Nat → List Value
  | 0 => [.int (r 0)]
  | 1 => [.int (r 0), .int (r 1), .ref (a + (i + 1)), .ref (a + (i + 2)), .ref (a + (i + 3)), .int (r 5), .ref (a + (i + 4)), .ref (a + (i + 5)), .int (r 8), .int (r 9), .ref (a + (i + 6)), .int (r 11), .int (r 12), .int (r 13)]
  | 2 => [if r 0 = 0 then .null else .ref (a + (r 0).toNatClampNeg), .int (r 1), .int (r 2), .int (r 3), .ref (a + 32), .ref (a + 33)]
  | 3 => [.ref (a + 103), .int (r 1)]
  | 4 => [.int (r 0), .ref (a + (i + 1)), .ref (a + (i + 2)), .ref (a + (i + 3)), .ref (a + (i + 4)), .ref (a + (i + 5)), .ref (a + (i + 6)), .ref (a + (i + 7)), .ref (a + (i + 8)), .ref (a + (i + 9))]
  | 5 => [.int (r 0), .int (r 1), .int (r 2), .int (r 3), .int (r 4), .int (r 5), .int (r 6), .int (r 7), .int (r 8), .int (r 9), .int (r 10), .int (r 11), .ref (a + 100), .ref (a + 101)]
  | 6 => [.ref (a + 98), .int (r 1), .int (r 2), .ref (a + 99)]
  | 7 => [.ref (a + 1), .ref (a + 11), .ref (a + 21), .ref (a + 31), .ref (a + 97), .ref (a + 102), .ref (a + 104), .ref (a + 105), .ref (a + 106), .int (r 9)]
  | 8 => [.ref (a + 164), .ref (a + 165), .ref (a + 166), .ref (a + 167), .ref (a + 168), .ref (a + 169), .ref (a + 170), .int (r 7), .int (r 8), .int (r 9), .int (r 10), .int (r 11), .int (r 12), .ref (a + 171), .ref (a + 172), .ref (a + 173), .ref (a + 174), .ref (a + 175), .ref (a + 176), .ref (a + 177), .ref (a + 178), .ref (a + 179), .ref (a + 180), .ref (a + 181), .int (r 24), .int (r 25), .int (r 26), .ref (a + 182)]
  | _ => []
/-- where the Outcomes of a row of them begin -/
def fo (i : Nat) : Nat := if i = 33 then 34 else 107
abbrev DD : Type := va_G × ClassId × ClassId × ClassId
def EC (C : DD) (a i : Nat) (r : Nat → Int32) : va_E := match kd i with
  | 9 => .inl (C.2.2.2, ln i, .inr (.inr (.inr (.inr (fun j => some (a + (fo i + 7 * j)))))))
  | 10 => .inl (C.2.2.1, ln i, .inl r)
  | 11 => .inl (C.2.1, ln i, .inl r)
  | c => .inr (c, flds a i r c)
theorem EC_9 {C : DD} {a i : Nat} {r : Nat → Int32} (h : kd i = 9) : EC C a i r = .inl (C.2.2.2, ln i, .inr (.inr (.inr (.inr (fun j => some (a + (fo i + 7 * j))))))) := by unfold EC; rw [h]; rfl
theorem EC_10 {C : DD} {a i : Nat} {r : Nat → Int32} (h : kd i = 10) : EC C a i r = .inl (C.2.2.1, ln i, .inl r) := by unfold EC; rw [h]; rfl
theorem EC_11 {C : DD} {a i : Nat} {r : Nat → Int32} (h : kd i = 11) : EC C a i r = .inl (C.2.1, ln i, .inl r) := by unfold EC; rw [h]; rfl
theorem EC_o {C : DD} {a i c : Nat} {r : Nat → Int32} (h : kd i = c) (hc : c < 9) : EC C a i r = .inr (c, flds a i r c) := by
  unfold EC
  rw [h]
  match c, hc with
  | 0, _ => rfl
  | 1, _ => rfl
  | 2, _ => rfl
  | 3, _ => rfl
  | 4, _ => rfl
  | 5, _ => rfl
  | 6, _ => rfl
  | 7, _ => rfl
  | 8, _ => rfl
/-- the cells 0 .. N-1 from a on -/
def Wo (a N : Nat) (E : Nat → va_E) : va_W := (List.range N).map (fun i => (a + i, E i))
theorem Wo_at {a N i : Nat} {E : Nat → va_E} (h : i < N) : (Wo a N E)[i]? = some (a + i, E i) := by
  simp [Wo, h]
theorem Wo_inv {a N i : Nat} {E : Nat → va_E} {q : Nat × va_E} (h : (Wo a N E)[i]? = some q) : i < N ∧ q = (a + i, E i) := by
  have h1 := (List.getElem?_eq_some_iff.mp h).1
  have hi : i < N := by simpa [Wo] using h1
  rw [Wo_at hi] at h
  exact ⟨hi, (Option.some.inj h).symm⟩
theorem Wo_set {a N i : Nat} {E E' : Nat → va_E} {e : va_E} (hi : E' i = e) (hj : ∀ j, j ≠ i → E' j = E j) : (Wo a N E).set i (a + i, e) = Wo a N E' := by
  apply List.ext_getElem?
  intro k
  by_cases hk : k = i
  · subst hk
    by_cases hl : k < N
    · rw [Wo_at hl, List.getElem?_set_self (by simpa [Wo] using hl), hi]
    · rw [List.getElem?_eq_none (by simp [Wo]; omega), List.getElem?_eq_none (by simp [Wo]; omega)]
  · rw [List.getElem?_set_ne (Ne.symm hk)]
    by_cases hl : k < N
    · rw [Wo_at hl, Wo_at hl, hj k hk]
    · rw [List.getElem?_eq_none (by simp [Wo]; omega), List.getElem?_eq_none (by simp [Wo]; omega)]
abbrev AW (a : Nat) : Nat → Prop := fun q => a ≤ q
theorem Wo_D {a N : Nat} {E : Nat → va_E} : va_D (AW a) (Wo a N E) := by
  refine ⟨fun i j p q hi hj hpq => ?_, fun k q hk => ?_⟩
  · obtain ⟨-, rfl⟩ := Wo_inv hi
    obtain ⟨-, rfl⟩ := Wo_inv hj
    simp at hpq
    exact hpq
  · obtain ⟨-, rfl⟩ := Wo_inv hk
    exact Nat.le_add_right _ _
/-- the final world -/
def WF (C : DD) (a : Nat) (M : Mem) (H : Heap) : Prop := va_P C.1 vwCl (Wo a 183 (fun i => EC C a i (M i))) H
theorem WF_set {C : DD} {a i : Nat} {M : Mem} {r : Nat → Int32} {e : va_E} (he : EC C a i r = e) : (Wo a 183 (fun j => EC C a j (M j))).set i (a + i, e) = Wo a 183 (fun j => EC C a j (rset M i r j)) := by
  refine Wo_set ?_ (fun j hj => ?_)
  · simp [rset, he]
  · simp [rset, hj]
/-- what the tables say, and keep on saying -/
def nwq : List (String × Nat × MethodName) := [("SettingsInLayers", 31, yX6_init), ("SettingsInLayers", 38, yX3_init), ("SettingsInLayers", 45, yX0_init), ("SettingsInLayers", 60, yX1_init), ("SettingsInLayers$Resolver", 21, yX1_init), ("SettingsInLayers$Resolver", 79, yX7_slotOf), ("SettingsInLayers$Scene", 64, yX7_slotOf), ("SettingsInLayers$Statement", 57, yX7_noLayer), ("SettingsInLayers$Statement", 80, yX7_slotOf), ("SettingsInLayers$Told", 17, yX5_init), ("SettingsInLayers$Told", 111, yX7_noKey)]
def WT (C : DD) (U : State) : Prop := va_K C.1 vwCl [(C.2.1, .int), (C.2.2.1, .boolean), (C.2.2.2, .object RX1)] U ∧ (∀ q ∈ nwq, va_Nw (.methodLinkNest q.1 q.2.1 q.2.2 "SettingsInLayers") U) ∧ va_AO RX1 U
theorem WT.call {C : DD} {U : State} {g : JFrame} {mk : MethodId} {a : Array Value} (h : WT C U) : WT C (U.calling g mk a) :=
  ⟨va_K.moved (u := U) (U := U.calling g mk a) (Vm.Alike.refl U.vm) h.1, fun q hq => va_Nw.same (u := U) (U := U.calling g mk a) rfl rfl (h.2.1 q hq), va_AO.moved (u := U) (U := U.calling g mk a) (Vm.Alike.refl U.vm) h.2.2⟩
theorem WT.warm {C : DD} {s U : State} (hW : s.WarmedH U.vm) (h : WT C s) : WT C U :=
  ⟨va_K.moved hW.alike h.1, fun q hq => va_Nw.warmM hW (h.2.1 q hq), va_AO.moved hW.alike h.2.2⟩
/-- where a walk stands: the machine, the place of the world, its class ids, what was made -/
abbrev KT : Type := Program × Launch × Env × Room × State × MethodId × Array Value × List Frame × Method × Code × (State → Prop) × Nat × DD × Nat × Nat
abbrev kp (k : KT) : Program := k.1
abbrev kl (k : KT) : Launch := k.2.1
abbrev ke (k : KT) : Env := k.2.2.1
abbrev kR (k : KT) : Room := k.2.2.2.1
abbrev ks (k : KT) : State := k.2.2.2.2.1
abbrev km (k : KT) : MethodId := k.2.2.2.2.2.1
abbrev ka (k : KT) : Array Value := k.2.2.2.2.2.2.1
abbrev kb (k : KT) : List Frame := k.2.2.2.2.2.2.2.1
abbrev kme (k : KT) : Method := k.2.2.2.2.2.2.2.2.1
abbrev kc (k : KT) : Code := k.2.2.2.2.2.2.2.2.2.1
abbrev kQ (k : KT) : State → Prop := k.2.2.2.2.2.2.2.2.2.2.1
abbrev kh (k : KT) : Nat := k.2.2.2.2.2.2.2.2.2.2.2.1
abbrev kC (k : KT) : DD := k.2.2.2.2.2.2.2.2.2.2.2.2.1
abbrev kcn (k : KT) : Nat := k.2.2.2.2.2.2.2.2.2.2.2.2.2.1
abbrev ksn (k : KT) : Nat := k.2.2.2.2.2.2.2.2.2.2.2.2.2.2
abbrev WW : Type := (Heap → Prop) × Nat × Nat
abbrev wM (k : KT) (M : Mem) : WW := (WF (kC k) (kh k) M, kcn k, ksn k)
/-- from here, with this world, these locals, this stack, if the function's rest t comes to q, the machine comes to its goal -/
def GG {α : Type} (k : KT) (q : α) (w : WW) (pc : Nat) (L : List (Nat × Value)) (st : List Value) (t : Option α) : Prop :=
  t = some q → ∀ (H : Heap) (locs : List Loc), w.1 H → va_S (AW (kh k)) (ks k).heap H locs → ∀ ls : Array Slot, lv_has ls (kc k).maxLocals L →
    W (kp k) (kl k) (ke k) (kR k) (ks k) (km k) (ka k) (kb k) (kme k) (kc k) H locs w.2.1 w.2.2 (kQ k) (F0 (km k) pc ls st)
def CX (k : KT) (cc : ByteArray) (own : String) (nL : Nat) (ret : Option FieldType) (h : Nat) : Prop :=
  (kp k).tables.exec = Jvm.exec ∧ (kc k).code = cc ∧ (kc k).maxLocals = nL ∧ (ks k).vm.findClass own = some (km k).cls ∧ (∀ w ∈ tblG, w.before (ka k) (ks k) = true) ∧ WT (kC k) (ks k) ∧ (kme k).sig.returnType = ret ∧ (kme k).locks = false ∧ h ≤ (kR k).frames ∧ 64 * h ≤ (kR k).locals ∧ kcn k ≤ (kR k).cells ∧ ksn k ≤ (kR k).slots
section ROWS
variable {α : Type} {k : KT} {q : α} {w : WW} {pc : Nat} {L L' : List (Nat × Value)} {st : List Value} {t : Option α} {cc : ByteArray} {own : String} {nL h : Nat} {ret : Option FieldType}
theorem CX.wt (hk : CX k cc own nL ret h) : WT (kC k) (ks k) := hk.2.2.2.2.2.1
theorem CX.ts (hk : CX k cc own nL ret h) : ∀ w ∈ tblG, w.before (ka k) (ks k) = true := hk.2.2.2.2.1
theorem CX.K (hk : CX k cc own nL ret h) : va_K (kC k).1 vwCl [((kC k).2.1, .int), ((kC k).2.2.1, .boolean), ((kC k).2.2.2, .object RX1)] (ks k) := hk.2.2.2.2.2.1.1
theorem CX.ow (hk : CX k cc own nL ret h) : (ks k).vm.findClass own = some (km k).cls := hk.2.2.2.1
theorem GG_none : GG k q w pc L st none := fun ht => nomatch ht
theorem GG_eq {t' : Option α} (e : t = t') (x : GG k q w pc L st t') : GG k q w pc L st t := e ▸ x
theorem GG_sub (ps : List Nat) (hl : lv_pick L ps = L') (x : GG k q w pc L' st t) : GG k q w pc L st t := fun ht H locs hP hS ls hh => x ht H locs hP hS ls (lv_sub hh ps hl)
theorem GG_if {c : Prop} [d : Decidable c] {A B : Option α} (a : c → GG k q w pc L st A) (b : ¬ c → GG k q w pc L st B) : GG k q w pc L st (if c then A else B) := by
  by_cases hc : c
  · rw [if_pos hc]; exact a hc
  · rw [if_neg hc]; exact b hc
theorem GG_iconst (hk : CX k cc own nL ret h) {n : Int} {pc' : Nat} (v : Int32) (hd : decode cc pc = .ok (.iconst n, 1)) (hp : pc + 1 = pc') (hv : Int32.ofInt n = v) (x : GG k q w pc' L (.int v :: st) t) : GG k q w pc L st t :=
  fun ht H locs hP hS ls hl => lv_iconst hk.1 hk.2.1 hd hv (by subst hp; exact x ht H locs hP hS ls hl)
theorem GG_bipush (hk : CX k cc own nL ret h) {n : Int} {pc' : Nat} (v : Int32) (hd : decode cc pc = .ok (.bipush n, 2)) (hp : pc + 2 = pc') (hv : (Int8.ofInt n).toInt32 = v) (x : GG k q w pc' L (.int v :: st) t) : GG k q w pc L st t :=
  fun ht H locs hP hS ls hl => lv_bipush hk.1 hk.2.1 hd hv (by subst hp; exact x ht H locs hP hS ls hl)
theorem GG_sipush (hk : CX k cc own nL ret h) {n : Int} {pc' : Nat} (v : Int32) (hd : decode cc pc = .ok (.sipush n, 3)) (hp : pc + 3 = pc') (hv : (Int16.ofInt n).toInt32 = v) (x : GG k q w pc' L (.int v :: st) t) : GG k q w pc L st t :=
  fun ht H locs hP hS ls hl => lv_sipush hk.1 hk.2.1 hd hv (by subst hp; exact x ht H locs hP hS ls hl)
theorem GG_lconst (hk : CX k cc own nL ret h) {n : Fin 2} {pc' : Nat} (v : Int64) (hd : decode cc pc = .ok (.lconst n, 1)) (hp : pc + 1 = pc') (hv : Int64.ofNat (n : Nat) = v) (x : GG k q w pc' L (.long v :: st) t) : GG k q w pc L st t :=
  fun ht H locs hP hS ls hl => lv_lconst hk.1 hk.2.1 hd hv (by subst hp; exact x ht H locs hP hS ls hl)
theorem GG_ldc (hk : CX k cc own nL ret h) {ix pc' : Nat} {v : Int32} (hw : Cond.constant own ix v ∈ tblG) (hd : decode cc pc = .ok (.ldc ix, 2)) (hp : pc + 2 = pc') (x : GG k q w pc' L (.int v :: st) t) : GG k q w pc L st t :=
  fun ht H locs hP hS ls hl => lv_ldc hk.1 hk.2.1 hk.ow (hk.ts _ hw) hd (by subst hp; exact x ht H locs hP hS ls hl)
theorem GG_ldcw (hk : CX k cc own nL ret h) {ix pc' : Nat} {v : Int32} (hw : Cond.constant own ix v ∈ tblG) (hd : decode cc pc = .ok (.ldc_w ix, 3)) (hp : pc + 3 = pc') (x : GG k q w pc' L (.int v :: st) t) : GG k q w pc L st t :=
  fun ht H locs hP hS ls hl => lv_ldcw hk.1 hk.2.1 hk.ow (hk.ts _ hw) hd (by subst hp; exact x ht H locs hP hS ls hl)
theorem GG_ldc2 (hk : CX k cc own nL ret h) {ix pc' : Nat} {v : Int64} (hw : Cond.constantLong own ix v ∈ tblG) (hd : decode cc pc = .ok (.ldc2_w ix, 3)) (hp : pc + 3 = pc') (x : GG k q w pc' L (.long v :: st) t) : GG k q w pc L st t :=
  fun ht H locs hP hS ls hl => lv_ldc2 hk.1 hk.2.1 hk.ow (hk.ts _ hw) hd (by subst hp; exact x ht H locs hP hS ls hl)
theorem GG_iload_n (hk : CX k cc own nL ret h) {n : Fin 4} {i pc' : Nat} {v : Int32} (p : Nat) (hd : decode cc pc = .ok (.iload_n n, 1)) (hp : pc + 1 = pc') (hi : (n : Nat) = i) (hL : L[p]? = some (i, .int v)) (x : GG k q w pc' L (.int v :: st) t) : GG k q w pc L st t :=
  fun ht H locs hP hS ls hl => lv_iload_n hk.1 hk.2.1 hd hi (lv_at hl p hL) (by subst hp; exact x ht H locs hP hS ls hl)
theorem GG_iload (hk : CX k cc own nL ret h) {i pc' : Nat} {v : Int32} (p : Nat) (hd : decode cc pc = .ok (.iload i, 2)) (hp : pc + 2 = pc') (hL : L[p]? = some (i, .int v)) (x : GG k q w pc' L (.int v :: st) t) : GG k q w pc L st t :=
  fun ht H locs hP hS ls hl => lv_iload hk.1 hk.2.1 hd (lv_at hl p hL) (by subst hp; exact x ht H locs hP hS ls hl)
theorem GG_lload_n (hk : CX k cc own nL ret h) {n : Fin 4} {i pc' : Nat} {v : Int64} (p : Nat) (hd : decode cc pc = .ok (.lload_n n, 1)) (hp : pc + 1 = pc') (hi : (n : Nat) = i) (hL : L[p]? = some (i, .long v)) (x : GG k q w pc' L (.long v :: st) t) : GG k q w pc L st t :=
  fun ht H locs hP hS ls hl => lv_lload_n hk.1 hk.2.1 hd hi (lv_at hl p hL) (by subst hp; exact x ht H locs hP hS ls hl)
theorem GG_lload (hk : CX k cc own nL ret h) {i pc' : Nat} {v : Int64} (p : Nat) (hd : decode cc pc = .ok (.lload i, 2)) (hp : pc + 2 = pc') (hL : L[p]? = some (i, .long v)) (x : GG k q w pc' L (.long v :: st) t) : GG k q w pc L st t :=
  fun ht H locs hP hS ls hl => lv_lload hk.1 hk.2.1 hd (lv_at hl p hL) (by subst hp; exact x ht H locs hP hS ls hl)
theorem GG_aload_n (hk : CX k cc own nL ret h) {n : Fin 4} {i pc' : Nat} {v : Nat} (p : Nat) (hd : decode cc pc = .ok (.aload_n n, 1)) (hp : pc + 1 = pc') (hi : (n : Nat) = i) (hL : L[p]? = some (i, .ref v)) (x : GG k q w pc' L (.ref v :: st) t) : GG k q w pc L st t :=
  fun ht H locs hP hS ls hl => lv_aload_n hk.1 hk.2.1 hd hi (lv_at hl p hL) (by subst hp; exact x ht H locs hP hS ls hl)
theorem GG_aload (hk : CX k cc own nL ret h) {i pc' : Nat} {v : Nat} (p : Nat) (hd : decode cc pc = .ok (.aload i, 2)) (hp : pc + 2 = pc') (hL : L[p]? = some (i, .ref v)) (x : GG k q w pc' L (.ref v :: st) t) : GG k q w pc L st t :=
  fun ht H locs hP hS ls hl => lv_aload hk.1 hk.2.1 hd (lv_at hl p hL) (by subst hp; exact x ht H locs hP hS ls hl)
theorem GG_istore_n (hk : CX k cc own nL ret h) {n : Fin 4} {i pc' : Nat} {v : Int32} (L' : List (Nat × Value)) (hd : decode cc pc = .ok (.istore_n n, 1)) (hp : pc + 1 = pc') (hi : (n : Nat) = i) (hn : i < nL) (hl' : (i, Value.int v) :: L.filter (fun q => !(q.1 == i) && !(q.1 + 1 == i && q.2.category == 2)) = L') (x : GG k q w pc' L' st t) : GG k q w pc L (.int v :: st) t :=
  fun ht H locs hP hS ls hl => lv_istore_n hk.1 hk.2.1 hd hi hl (by rw [hk.2.2.1]; exact hn) hl' (fun ls' h' => by subst hp; exact x ht H locs hP hS ls' h')
theorem GG_istore (hk : CX k cc own nL ret h) {i pc' : Nat} {v : Int32} (L' : List (Nat × Value)) (hd : decode cc pc = .ok (.istore i, 2)) (hp : pc + 2 = pc') (hn : i < nL) (hl' : (i, Value.int v) :: L.filter (fun q => !(q.1 == i) && !(q.1 + 1 == i && q.2.category == 2)) = L') (x : GG k q w pc' L' st t) : GG k q w pc L (.int v :: st) t :=
  fun ht H locs hP hS ls hl => lv_istore hk.1 hk.2.1 hd hl (by rw [hk.2.2.1]; exact hn) hl' (fun ls' h' => by subst hp; exact x ht H locs hP hS ls' h')
theorem GG_lstore_n (hk : CX k cc own nL ret h) {n : Fin 4} {i pc' : Nat} {v : Int64} (L' : List (Nat × Value)) (hd : decode cc pc = .ok (.lstore_n n, 1)) (hp : pc + 1 = pc') (hi : (n : Nat) = i) (hn : i + 1 < nL) (hl' : (i, Value.long v) :: L.filter (fun q => !(q.1 == i) && (!(q.1 == i + 1) && !(q.1 + 1 == i && q.2.category == 2))) = L') (x : GG k q w pc' L' st t) : GG k q w pc L (.long v :: st) t :=
  fun ht H locs hP hS ls hl => lv_lstore_n hk.1 hk.2.1 hd hi hl (by rw [hk.2.2.1]; exact hn) hl' (fun ls' h' => by subst hp; exact x ht H locs hP hS ls' h')
theorem GG_lstore (hk : CX k cc own nL ret h) {i pc' : Nat} {v : Int64} (L' : List (Nat × Value)) (hd : decode cc pc = .ok (.lstore i, 2)) (hp : pc + 2 = pc') (hn : i + 1 < nL) (hl' : (i, Value.long v) :: L.filter (fun q => !(q.1 == i) && (!(q.1 == i + 1) && !(q.1 + 1 == i && q.2.category == 2))) = L') (x : GG k q w pc' L' st t) : GG k q w pc L (.long v :: st) t :=
  fun ht H locs hP hS ls hl => lv_lstore hk.1 hk.2.1 hd hl (by rw [hk.2.2.1]; exact hn) hl' (fun ls' h' => by subst hp; exact x ht H locs hP hS ls' h')
theorem GG_astore_n (hk : CX k cc own nL ret h) {n : Fin 4} {i pc' : Nat} {v : Nat} (L' : List (Nat × Value)) (hd : decode cc pc = .ok (.astore_n n, 1)) (hp : pc + 1 = pc') (hi : (n : Nat) = i) (hn : i < nL) (hl' : (i, Value.ref v) :: L.filter (fun q => !(q.1 == i) && !(q.1 + 1 == i && q.2.category == 2)) = L') (x : GG k q w pc' L' st t) : GG k q w pc L (.ref v :: st) t :=
  fun ht H locs hP hS ls hl => lv_astore_n hk.1 hk.2.1 hd hi hl (by rw [hk.2.2.1]; exact hn) hl' (fun ls' h' => by subst hp; exact x ht H locs hP hS ls' h')
theorem GG_astore (hk : CX k cc own nL ret h) {i pc' : Nat} {v : Nat} (L' : List (Nat × Value)) (hd : decode cc pc = .ok (.astore i, 2)) (hp : pc + 2 = pc') (hn : i < nL) (hl' : (i, Value.ref v) :: L.filter (fun q => !(q.1 == i) && !(q.1 + 1 == i && q.2.category == 2)) = L') (x : GG k q w pc' L' st t) : GG k q w pc L (.ref v :: st) t :=
  fun ht H locs hP hS ls hl => lv_astore hk.1 hk.2.1 hd hl (by rw [hk.2.2.1]; exact hn) hl' (fun ls' h' => by subst hp; exact x ht H locs hP hS ls' h')
theorem GG_iinc (hk : CX k cc own nL ret h) {i pc' : Nat} {n : Int} {v : Int32} (p : Nat) (v' : Int32) (L' : List (Nat × Value)) (hd : decode cc pc = .ok (.iinc i n, 3)) (hp : pc + 3 = pc') (hL : L[p]? = some (i, .int v)) (hv : v + Int32.ofInt n = v') (hn : i < nL) (hl' : (i, Value.int v') :: L.filter (fun q => !(q.1 == i) && !(q.1 + 1 == i && q.2.category == 2)) = L') (x : GG k q w pc' L' st t) : GG k q w pc L st t :=
  fun ht H locs hP hS ls hl => lv_iinc hk.1 hk.2.1 hd hl hL hv (by rw [hk.2.2.1]; exact hn) hl' (fun ls' h' => by subst hp; exact x ht H locs hP hS ls' h')
theorem GG_iadd (hk : CX k cc own nL ret h) {a b : Int32} {pc' : Nat} (hd : decode cc pc = .ok (.iadd, 1)) (hp : pc + 1 = pc') (x : GG k q w pc' L (.int (a + b) :: st) t) : GG k q w pc L (.int b :: .int a :: st) t :=
  fun ht H locs hP hS ls hl => lv_iadd hk.1 hk.2.1 hd (by subst hp; exact x ht H locs hP hS ls hl)
theorem GG_isub (hk : CX k cc own nL ret h) {a b : Int32} {pc' : Nat} (hd : decode cc pc = .ok (.isub, 1)) (hp : pc + 1 = pc') (x : GG k q w pc' L (.int (a - b) :: st) t) : GG k q w pc L (.int b :: .int a :: st) t :=
  fun ht H locs hP hS ls hl => lv_isub hk.1 hk.2.1 hd (by subst hp; exact x ht H locs hP hS ls hl)
theorem GG_imul (hk : CX k cc own nL ret h) {a b : Int32} {pc' : Nat} (hd : decode cc pc = .ok (.imul, 1)) (hp : pc + 1 = pc') (x : GG k q w pc' L (.int (a * b) :: st) t) : GG k q w pc L (.int b :: .int a :: st) t :=
  fun ht H locs hP hS ls hl => lv_imul hk.1 hk.2.1 hd (by subst hp; exact x ht H locs hP hS ls hl)
theorem GG_iand (hk : CX k cc own nL ret h) {a b : Int32} {pc' : Nat} (hd : decode cc pc = .ok (.iand, 1)) (hp : pc + 1 = pc') (x : GG k q w pc' L (.int (a &&& b) :: st) t) : GG k q w pc L (.int b :: .int a :: st) t :=
  fun ht H locs hP hS ls hl => lv_iand hk.1 hk.2.1 hd (by subst hp; exact x ht H locs hP hS ls hl)
theorem GG_ior (hk : CX k cc own nL ret h) {a b : Int32} {pc' : Nat} (hd : decode cc pc = .ok (.ior, 1)) (hp : pc + 1 = pc') (x : GG k q w pc' L (.int (a ||| b) :: st) t) : GG k q w pc L (.int b :: .int a :: st) t :=
  fun ht H locs hP hS ls hl => lv_ior hk.1 hk.2.1 hd (by subst hp; exact x ht H locs hP hS ls hl)
theorem GG_ixor (hk : CX k cc own nL ret h) {a b : Int32} {pc' : Nat} (hd : decode cc pc = .ok (.ixor, 1)) (hp : pc + 1 = pc') (x : GG k q w pc' L (.int (a ^^^ b) :: st) t) : GG k q w pc L (.int b :: .int a :: st) t :=
  fun ht H locs hP hS ls hl => lv_ixor hk.1 hk.2.1 hd (by subst hp; exact x ht H locs hP hS ls hl)
theorem GG_ishl (hk : CX k cc own nL ret h) {a b : Int32} {pc' : Nat} (hd : decode cc pc = .ok (.ishl, 1)) (hp : pc + 1 = pc') (x : GG k q w pc' L (.int (a <<< (b &&& 31)) :: st) t) : GG k q w pc L (.int b :: .int a :: st) t :=
  fun ht H locs hP hS ls hl => lv_ishl hk.1 hk.2.1 hd (by subst hp; exact x ht H locs hP hS ls hl)
theorem GG_ishr (hk : CX k cc own nL ret h) {a b : Int32} {pc' : Nat} (hd : decode cc pc = .ok (.ishr, 1)) (hp : pc + 1 = pc') (x : GG k q w pc' L (.int (a >>> (b &&& 31)) :: st) t) : GG k q w pc L (.int b :: .int a :: st) t :=
  fun ht H locs hP hS ls hl => lv_ishr hk.1 hk.2.1 hd (by subst hp; exact x ht H locs hP hS ls hl)
theorem GG_ladd (hk : CX k cc own nL ret h) {a b : Int64} {pc' : Nat} (hd : decode cc pc = .ok (.ladd, 1)) (hp : pc + 1 = pc') (x : GG k q w pc' L (.long (a + b) :: st) t) : GG k q w pc L (.long b :: .long a :: st) t :=
  fun ht H locs hP hS ls hl => lv_ladd hk.1 hk.2.1 hd (by subst hp; exact x ht H locs hP hS ls hl)
theorem GG_lsub (hk : CX k cc own nL ret h) {a b : Int64} {pc' : Nat} (hd : decode cc pc = .ok (.lsub, 1)) (hp : pc + 1 = pc') (x : GG k q w pc' L (.long (a - b) :: st) t) : GG k q w pc L (.long b :: .long a :: st) t :=
  fun ht H locs hP hS ls hl => lv_lsub hk.1 hk.2.1 hd (by subst hp; exact x ht H locs hP hS ls hl)
theorem GG_lmul (hk : CX k cc own nL ret h) {a b : Int64} {pc' : Nat} (hd : decode cc pc = .ok (.lmul, 1)) (hp : pc + 1 = pc') (x : GG k q w pc' L (.long (a * b) :: st) t) : GG k q w pc L (.long b :: .long a :: st) t :=
  fun ht H locs hP hS ls hl => lv_lmul hk.1 hk.2.1 hd (by subst hp; exact x ht H locs hP hS ls hl)
def ushr (a b : Int32) : Int32 := (a.toUInt32 >>> (b.toUInt32 &&& Int32.toUInt32 31)).toInt32
theorem GG_iushr (hk : CX k cc own nL ret h) {a b : Int32} {pc' : Nat} (hd : decode cc pc = .ok (.iushr, 1)) (hp : pc + 1 = pc') (x : GG k q w pc' L (.int (ushr a b) :: st) t) : GG k q w pc L (.int b :: .int a :: st) t :=
  fun ht H locs hP hS ls hl => lv_iushr hk.1 hk.2.1 hd rfl (by subst hp; exact x ht H locs hP hS ls hl)
theorem GG_ineg (hk : CX k cc own nL ret h) {a : Int32} {pc' : Nat} (hd : decode cc pc = .ok (.ineg, 1)) (hp : pc + 1 = pc') (x : GG k q w pc' L (.int (-a) :: st) t) : GG k q w pc L (.int a :: st) t :=
  fun ht H locs hP hS ls hl => lv_ineg hk.1 hk.2.1 hd (by subst hp; exact x ht H locs hP hS ls hl)
theorem GG_i2l (hk : CX k cc own nL ret h) {a : Int32} {pc' : Nat} (hd : decode cc pc = .ok (.i2l, 1)) (hp : pc + 1 = pc') (x : GG k q w pc' L (.long a.toInt64 :: st) t) : GG k q w pc L (.int a :: st) t :=
  fun ht H locs hP hS ls hl => lv_i2l hk.1 hk.2.1 hd rfl (by subst hp; exact x ht H locs hP hS ls hl)
theorem GG_lcmp (hk : CX k cc own nL ret h) {a b : Int64} {pc' : Nat} (hd : decode cc pc = .ok (.lcmp, 1)) (hp : pc + 1 = pc') (x : GG k q w pc' L (.int (lg_cmp a b) :: st) t) : GG k q w pc L (.long b :: .long a :: st) t :=
  fun ht H locs hP hS ls hl => W.lcmp hk.1 hk.2.1 hd (by subst hp; exact x ht H locs hP hS ls hl)
theorem GG_idiv (hk : CX k cc own nL ret h) {a b : Int32} {pc' : Nat} {g : Int32 → Option α} (hd : decode cc pc = .ok (.idiv, 1)) (hp : pc + 1 = pc') (x : ∀ v, dvI a b = some v → GG k q w pc' L (.int v :: st) (g v)) : GG k q w pc L (.int b :: .int a :: st) (Option.bind (dvI a b) g) := by
  intro ht H locs hP hS ls hl
  by_cases hb : b = 0
  · simp [dvI, hb] at ht
  · have e : dvI a b = some _ := if_neg hb
    rw [e] at ht
    exact lv_idiv hk.1 hk.2.1 hd hb (by subst hp; exact x _ e ht H locs hP hS ls hl)
theorem GG_irem (hk : CX k cc own nL ret h) {a b : Int32} {pc' : Nat} {g : Int32 → Option α} (hd : decode cc pc = .ok (.irem, 1)) (hp : pc + 1 = pc') (x : ∀ v, rmI a b = some v → GG k q w pc' L (.int v :: st) (g v)) : GG k q w pc L (.int b :: .int a :: st) (Option.bind (rmI a b) g) := by
  intro ht H locs hP hS ls hl
  by_cases hb : b = 0
  · simp [rmI, hb] at ht
  · have e : rmI a b = some _ := if_neg hb
    rw [e] at ht
    exact lv_irem hk.1 hk.2.1 hd hb (by subst hp; exact x _ e ht H locs hP hS ls hl)
theorem GG_ldiv (hk : CX k cc own nL ret h) {a b : Int64} {pc' : Nat} {g : Int64 → Option α} (hd : decode cc pc = .ok (.ldiv, 1)) (hp : pc + 1 = pc') (x : ∀ v, dvL a b = some v → GG k q w pc' L (.long v :: st) (g v)) : GG k q w pc L (.long b :: .long a :: st) (Option.bind (dvL a b) g) := by
  intro ht H locs hP hS ls hl
  by_cases hb : b = 0
  · simp [dvL, hb] at ht
  · have e : dvL a b = some _ := if_neg hb
    rw [e] at ht
    exact lv_ldiv hk.1 hk.2.1 hd hb (by subst hp; exact x _ e ht H locs hP hS ls hl)
theorem GG_lrem (hk : CX k cc own nL ret h) {a b : Int64} {pc' : Nat} {g : Int64 → Option α} (hd : decode cc pc = .ok (.lrem, 1)) (hp : pc + 1 = pc') (x : ∀ v, rmL a b = some v → GG k q w pc' L (.long v :: st) (g v)) : GG k q w pc L (.long b :: .long a :: st) (Option.bind (rmL a b) g) := by
  intro ht H locs hP hS ls hl
  by_cases hb : b = 0
  · simp [rmL, hb] at ht
  · have e : rmL a b = some _ := if_neg hb
    rw [e] at ht
    exact lv_lrem hk.1 hk.2.1 hd hb (by subst hp; exact x _ e ht H locs hP hS ls hl)
theorem GG_dup (hk : CX k cc own nL ret h) {a : Value} {pc' : Nat} (hd : decode cc pc = .ok (.dup, 1)) (hp : pc + 1 = pc') (ha : a.category = 1) (x : GG k q w pc' L (a :: a :: st) t) : GG k q w pc L (a :: st) t :=
  fun ht H locs hP hS ls hl => lv_dup hk.1 hk.2.1 hd ha (by subst hp; exact x ht H locs hP hS ls hl)
theorem GG_pop (hk : CX k cc own nL ret h) {a : Value} {pc' : Nat} (hd : decode cc pc = .ok (.pop, 1)) (hp : pc + 1 = pc') (ha : a.category = 1) (x : GG k q w pc' L st t) : GG k q w pc L (a :: st) t :=
  fun ht H locs hP hS ls hl => lv_pop hk.1 hk.2.1 hd ha (by subst hp; exact x ht H locs hP hS ls hl)
theorem GG_dup2 (hk : CX k cc own nL ret h) {a b : Value} {pc' : Nat} (hd : decode cc pc = .ok (.dup2, 1)) (hp : pc + 1 = pc') (ha : a.category = 1) (hb : b.category = 1) (x : GG k q w pc' L (a :: b :: a :: b :: st) t) : GG k q w pc L (a :: b :: st) t :=
  fun ht H locs hP hS ls hl => lv_dup2_11 hk.1 hk.2.1 hd ha hb (by subst hp; exact x ht H locs hP hS ls hl)
theorem GG_goto (hk : CX k cc own nL ret h) {off : Int} (tgt : Nat) (hd : decode cc pc = .ok (.goto off, 3)) (hto : (pc : Int) + off = (tgt : Int)) (x : GG k q w tgt L st t) : GG k q w pc L st t :=
  fun ht H locs hP hS ls hl => lv_goto hk.1 hk.2.1 hd hto (x ht H locs hP hS ls hl)
theorem GG_icmp_eq (hk : CX k cc own nL ret h) {a b : Int32} {off : Int} {A B : Option α} (tgt : Nat) {pc' : Nat} (hd : decode cc pc = .ok (.if_icmp .eq off, 3)) (hp : pc + 3 = pc') (hto : (pc : Int) + off = (tgt : Int)) (xa : a = b → GG k q w tgt L st A) (xb : ¬ (a = b) → GG k q w pc' L st B) : GG k q w pc L (.int b :: .int a :: st) (if a = b then A else B) := by
  subst hp
  intro ht H locs hP hS ls hl
  refine lv_icmp_eq hk.1 hk.2.1 hd hto (fun c => ?_) (fun c => ?_)
  · rw [if_pos c] at ht
    exact xa c ht H locs hP hS ls hl
  · rw [if_neg c] at ht
    exact xb c ht H locs hP hS ls hl
theorem GG_icmp_ne (hk : CX k cc own nL ret h) {a b : Int32} {off : Int} {A B : Option α} (tgt : Nat) {pc' : Nat} (hd : decode cc pc = .ok (.if_icmp .ne off, 3)) (hp : pc + 3 = pc') (hto : (pc : Int) + off = (tgt : Int)) (xa : ¬ a = b → GG k q w tgt L st A) (xb : ¬ (¬ a = b) → GG k q w pc' L st B) : GG k q w pc L (.int b :: .int a :: st) (if ¬ a = b then A else B) := by
  subst hp
  intro ht H locs hP hS ls hl
  refine lv_icmp_ne hk.1 hk.2.1 hd hto (fun c => ?_) (fun c => ?_)
  · rw [if_pos c] at ht
    exact xa c ht H locs hP hS ls hl
  · rw [if_neg (fun e => e c)] at ht
    exact xb (fun e => e c) ht H locs hP hS ls hl
theorem GG_icmp_lt (hk : CX k cc own nL ret h) {a b : Int32} {off : Int} {A B : Option α} (tgt : Nat) {pc' : Nat} (hd : decode cc pc = .ok (.if_icmp .lt off, 3)) (hp : pc + 3 = pc') (hto : (pc : Int) + off = (tgt : Int)) (xa : a < b → GG k q w tgt L st A) (xb : ¬ (a < b) → GG k q w pc' L st B) : GG k q w pc L (.int b :: .int a :: st) (if a < b then A else B) := by
  subst hp
  intro ht H locs hP hS ls hl
  refine lv_icmp_lt hk.1 hk.2.1 hd hto (fun c => ?_) (fun c => ?_)
  · rw [if_pos c] at ht
    exact xa c ht H locs hP hS ls hl
  · rw [if_neg c] at ht
    exact xb c ht H locs hP hS ls hl
theorem GG_icmp_ge (hk : CX k cc own nL ret h) {a b : Int32} {off : Int} {A B : Option α} (tgt : Nat) {pc' : Nat} (hd : decode cc pc = .ok (.if_icmp .ge off, 3)) (hp : pc + 3 = pc') (hto : (pc : Int) + off = (tgt : Int)) (xa : b ≤ a → GG k q w tgt L st A) (xb : ¬ (b ≤ a) → GG k q w pc' L st B) : GG k q w pc L (.int b :: .int a :: st) (if b ≤ a then A else B) := by
  subst hp
  intro ht H locs hP hS ls hl
  refine lv_icmp_ge hk.1 hk.2.1 hd hto (fun c => ?_) (fun c => ?_)
  · rw [if_pos c] at ht
    exact xa c ht H locs hP hS ls hl
  · rw [if_neg c] at ht
    exact xb c ht H locs hP hS ls hl
theorem GG_icmp_gt (hk : CX k cc own nL ret h) {a b : Int32} {off : Int} {A B : Option α} (tgt : Nat) {pc' : Nat} (hd : decode cc pc = .ok (.if_icmp .gt off, 3)) (hp : pc + 3 = pc') (hto : (pc : Int) + off = (tgt : Int)) (xa : b < a → GG k q w tgt L st A) (xb : ¬ (b < a) → GG k q w pc' L st B) : GG k q w pc L (.int b :: .int a :: st) (if b < a then A else B) := by
  subst hp
  intro ht H locs hP hS ls hl
  refine lv_icmp_gt hk.1 hk.2.1 hd hto (fun c => ?_) (fun c => ?_)
  · rw [if_pos c] at ht
    exact xa c ht H locs hP hS ls hl
  · rw [if_neg c] at ht
    exact xb c ht H locs hP hS ls hl
theorem GG_icmp_le (hk : CX k cc own nL ret h) {a b : Int32} {off : Int} {A B : Option α} (tgt : Nat) {pc' : Nat} (hd : decode cc pc = .ok (.if_icmp .le off, 3)) (hp : pc + 3 = pc') (hto : (pc : Int) + off = (tgt : Int)) (xa : a ≤ b → GG k q w tgt L st A) (xb : ¬ (a ≤ b) → GG k q w pc' L st B) : GG k q w pc L (.int b :: .int a :: st) (if a ≤ b then A else B) := by
  subst hp
  intro ht H locs hP hS ls hl
  refine lv_icmp_le hk.1 hk.2.1 hd hto (fun c => ?_) (fun c => ?_)
  · rw [if_pos c] at ht
    exact xa c ht H locs hP hS ls hl
  · rw [if_neg c] at ht
    exact xb c ht H locs hP hS ls hl
theorem GG_if_eq (hk : CX k cc own nL ret h) {a : Int32} {off : Int} {A B : Option α} (tgt : Nat) {pc' : Nat} (hd : decode cc pc = .ok (.ifCond .eq off, 3)) (hp : pc + 3 = pc') (hto : (pc : Int) + off = (tgt : Int)) (xa : a = 0 → GG k q w tgt L st A) (xb : ¬ (a = 0) → GG k q w pc' L st B) : GG k q w pc L (.int a :: st) (if a = 0 then A else B) := by
  subst hp
  intro ht H locs hP hS ls hl
  refine lv_if_eq hk.1 hk.2.1 hd hto (fun c => ?_) (fun c => ?_)
  · rw [if_pos c] at ht
    exact xa c ht H locs hP hS ls hl
  · rw [if_neg c] at ht
    exact xb c ht H locs hP hS ls hl
theorem GG_if_ne (hk : CX k cc own nL ret h) {a : Int32} {off : Int} {A B : Option α} (tgt : Nat) {pc' : Nat} (hd : decode cc pc = .ok (.ifCond .ne off, 3)) (hp : pc + 3 = pc') (hto : (pc : Int) + off = (tgt : Int)) (xa : ¬ a = 0 → GG k q w tgt L st A) (xb : ¬ (¬ a = 0) → GG k q w pc' L st B) : GG k q w pc L (.int a :: st) (if ¬ a = 0 then A else B) := by
  subst hp
  intro ht H locs hP hS ls hl
  refine lv_if_ne hk.1 hk.2.1 hd hto (fun c => ?_) (fun c => ?_)
  · rw [if_pos c] at ht
    exact xa c ht H locs hP hS ls hl
  · rw [if_neg (fun e => e c)] at ht
    exact xb (fun e => e c) ht H locs hP hS ls hl
theorem GG_if_lt (hk : CX k cc own nL ret h) {a : Int32} {off : Int} {A B : Option α} (tgt : Nat) {pc' : Nat} (hd : decode cc pc = .ok (.ifCond .lt off, 3)) (hp : pc + 3 = pc') (hto : (pc : Int) + off = (tgt : Int)) (xa : a < 0 → GG k q w tgt L st A) (xb : ¬ (a < 0) → GG k q w pc' L st B) : GG k q w pc L (.int a :: st) (if a < 0 then A else B) := by
  subst hp
  intro ht H locs hP hS ls hl
  refine lv_if_lt hk.1 hk.2.1 hd hto (fun c => ?_) (fun c => ?_)
  · rw [if_pos c] at ht
    exact xa c ht H locs hP hS ls hl
  · rw [if_neg c] at ht
    exact xb c ht H locs hP hS ls hl
theorem GG_if_ge (hk : CX k cc own nL ret h) {a : Int32} {off : Int} {A B : Option α} (tgt : Nat) {pc' : Nat} (hd : decode cc pc = .ok (.ifCond .ge off, 3)) (hp : pc + 3 = pc') (hto : (pc : Int) + off = (tgt : Int)) (xa : 0 ≤ a → GG k q w tgt L st A) (xb : ¬ (0 ≤ a) → GG k q w pc' L st B) : GG k q w pc L (.int a :: st) (if 0 ≤ a then A else B) := by
  subst hp
  intro ht H locs hP hS ls hl
  refine lv_if_ge hk.1 hk.2.1 hd hto (fun c => ?_) (fun c => ?_)
  · rw [if_pos c] at ht
    exact xa c ht H locs hP hS ls hl
  · rw [if_neg c] at ht
    exact xb c ht H locs hP hS ls hl
theorem GG_if_gt (hk : CX k cc own nL ret h) {a : Int32} {off : Int} {A B : Option α} (tgt : Nat) {pc' : Nat} (hd : decode cc pc = .ok (.ifCond .gt off, 3)) (hp : pc + 3 = pc') (hto : (pc : Int) + off = (tgt : Int)) (xa : 0 < a → GG k q w tgt L st A) (xb : ¬ (0 < a) → GG k q w pc' L st B) : GG k q w pc L (.int a :: st) (if 0 < a then A else B) := by
  subst hp
  intro ht H locs hP hS ls hl
  refine lv_if_gt hk.1 hk.2.1 hd hto (fun c => ?_) (fun c => ?_)
  · rw [if_pos c] at ht
    exact xa c ht H locs hP hS ls hl
  · rw [if_neg c] at ht
    exact xb c ht H locs hP hS ls hl
theorem GG_if_le (hk : CX k cc own nL ret h) {a : Int32} {off : Int} {A B : Option α} (tgt : Nat) {pc' : Nat} (hd : decode cc pc = .ok (.ifCond .le off, 3)) (hp : pc + 3 = pc') (hto : (pc : Int) + off = (tgt : Int)) (xa : a ≤ 0 → GG k q w tgt L st A) (xb : ¬ (a ≤ 0) → GG k q w pc' L st B) : GG k q w pc L (.int a :: st) (if a ≤ 0 then A else B) := by
  subst hp
  intro ht H locs hP hS ls hl
  refine lv_if_le hk.1 hk.2.1 hd hto (fun c => ?_) (fun c => ?_)
  · rw [if_pos c] at ht
    exact xa c ht H locs hP hS ls hl
  · rw [if_neg c] at ht
    exact xb c ht H locs hP hS ls hl
end ROWS
