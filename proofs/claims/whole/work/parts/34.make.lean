/-- the bits of the keys of a path -/
def pb (p : List Nat) : Nat := mskB (fun i => decide (i ∈ p)) 8
theorem pb_lt (p : List Nat) : pb p < 256 := mskB_lt _ 8 (by decide)
theorem pb_tb {p : List Nat} {k : Nat} (h : k < 8) : (pb p).testBit k = decide (k ∈ p) := by unfold pb; rw [mskB_tb]; simp [h]
theorem pb_app {p : List Nat} {k : Nat} (h : k < 8) : pb (p ++ [k]) = pb p ||| 2 ^ k := by
  apply Nat.eq_of_testBit_eq
  intro j
  rw [tb_or]
  unfold pb
  rw [mskB_tb, mskB_tb]
  by_cases hj : j = k
  · subst hj; simp [h]
  · have : ¬ k = j := fun q => hj q.symm
    simp [hj, this]
def RS (M : Mem) (s : Nat) (σ : Sc) (p : List Nat) (cu : CU) : Prop := M 31 0 = nI s ∧ SCr M s σ ∧ M 31 1 = nI cu.1 ∧ M 31 2 = nI (pb p) ∧ M 31 3 = nI cu.2 ∧ PTH M p ∧ cu.1 ≤ 60 ∧ cu.2 < 256
/-- the fields of the first level that a later fault leaves -/
def KP (M M' : Mem) : Prop := M' 34 8 = M 34 8 ∧ M' 34 9 = M 34 9 ∧ M' 40 = M 40
theorem KP.rf {M : Mem} : KP M M := ⟨rfl, rfl, rfl⟩
theorem KP.tr {A B C : Mem} (h : KP A B) (g : KP B C) : KP A C := ⟨g.1.trans h.1, g.2.1.trans h.2.1, g.2.2.trans h.2.2⟩
def FAIL (M M' : Mem) (p : List Nat) (r : Int32) (fs : Flt) (cu' : CU) : Prop := r = 0 ∧ FLT M' (p.map (fun x => (5, x)) ++ fs) ∧ M' 31 3 = nI cu'.2 ∧ cu'.2 < 256 ∧ FRr M M'
/-- levels below d are left -/
def FRl (d : Nat) (M M' : Mem) : Prop := ∀ i, (i < 31 ∨ 97 ≤ i ∨ (34 ≤ i ∧ i < 34 + 7 * d)) → M' i = M i
theorem FRl.rf {d : Nat} {M : Mem} : FRl d M M := fun _ _ => rfl
theorem FRl.tr {d : Nat} {A B C : Mem} (h : FRl d A B) (g : FRl d B C) : FRl d A C := fun i hi => (g i hi).trans (h i hi)
theorem FRl.dn {d d' : Nat} {A B : Mem} (h : FRl d A B) (hd : d' ≤ d) : FRl d' A B := fun i hi => h i (by omega)
theorem FRl.r {d : Nat} {A B : Mem} (h : FRl d A B) : FRr A B := fun i hi => h i (by omega)
theorem FRl.kp {d : Nat} {A B : Mem} (h : FRl d A B) (hd : 0 < d) : KP A B := by
  have e1 := h 34 (by omega)
  exact ⟨by rw [e1], by rw [e1], h 40 (by omega)⟩
def RRes (M M' : Mem) (s : Nat) (σ : Sc) (p : List Nat) (k : Nat) (r : Int32) : Rs × CU → Prop
  | (.inr (v, sr, d), cu') => r = 1 ∧ FRl p.length M M' ∧ OV M' (34 + 7 * p.length) v ∧ M' (34 + 7 * p.length) 11 = sr ∧ M' (34 + 7 * p.length) 12 = d ∧ GA M' (34 + 7 * p.length) (offS σ k) ∧ RS M' s σ p cu'
  | (.inl fs, cu') => FAIL M M' p r fs cu'
def MKr (M M' : Mem) (s : Nat) (σ : Sc) (p : List Nat) (k l : Nat) (r : Int32) : (Flt ⊕ (Vl × Int32)) × CU → Prop
  | (.inr (v, dd), cu') => r = 1 ∧ FRl (p.length + 1) M M' ∧ OVm M' (34 + 7 * (p.length + 1)) v ∧ AllSrc l v ∧ dd = M' (34 + 7 * (p.length + 1)) 12 ||| bitI l ∧ RS M' s σ (p ++ [k]) cu'
  | (.inl fs, cu') => FAIL M M' p r fs cu'
theorem RS.fr {M M' : Mem} {s : Nat} {σ : Sc} {p : List Nat} {cu : CU} (hs : okS s) (h : RS M s σ p cu) (hM : ∀ i, i ≤ 32 → M' i = M i) : RS M' s σ p cu := by
  obtain ⟨h1, h2, h3, h4, h5, h6, h7, h8⟩ := h
  refine ⟨?_, h2.fr (fun i a b => hM i (by have := okS_lt hs; omega)), ?_, ?_, ?_, fun i x hx => ?_, h7, h8⟩
  · rw [hM 31 (by decide)]; exact h1
  · rw [hM 31 (by decide)]; exact h3
  · rw [hM 31 (by decide)]; exact h4
  · rw [hM 31 (by decide)]; exact h5
  · rw [hM 32 (by decide)]; exact h6 i x hx
theorem PTH.pre {M : Mem} {p q : List Nat} (h : PTH M (p ++ q)) : PTH M p := fun i x hx => h i x (by rw [List.getElem?_append_left (List.getElem?_eq_some_iff.mp hx).1]; exact hx)
theorem form_t : ∀ f, f < 5 → (nI f = 2 ↔ f = 2) ∧ (nI f = 3 ↔ f = 3) ∧ (nI f = 1 ↔ f = 1) ∧ (nI f = 0 ↔ f = 0) := by decide +kernel
theorem X2_copyEntry {M : Mem} {s e o f x : Nat} {num : Int32} {its : List (Int32 × Int32)} (hs : okS s) (he : e < 48) (ho : 34 ≤ o) (h0 : M 31 0 = nI s) (hen : entC M s e (some (f, num, x, its))) (hf : f = 0 ∨ f = 1) (hi : its.length ≤ 4) :
    ∃ M', f_X2_copyEntry M (nI e) o = some M' ∧ M' o 0 = nI f ∧ M' o 1 = (if f = 1 then nI its.length else num) ∧ M' o 12 = 0 ∧ (f = 1 → ∀ j y, its[j]? = some y → M' (o + 1) j = y.1 ∧ M' (o + 2) j = y.2) ∧ ∀ i, i ≠ o → i ≠ o + 1 → i ≠ o + 2 → M' i = M i := by
  obtain ⟨n1, n2, n3, n4⟩ := hen
  have hos := okS_lt hs
  unfold f_X2_copyEntry
  obtain ⟨Z, z1, z2, z3, z4, z5, z6, z7⟩ := X1_reset (M := M) (o := o)
  rw [z1, Option.bind_some, z2 31 (by omega), h0, rsc_eq hs, Option.bind_some, rd_nI he (by decide), Option.bind_some, z2 _ (by omega), n1, wrf_eq, Option.bind_some, wr_ne (show 31 ≠ o by omega), z2 31 (by omega), h0, rsc_eq hs, Option.bind_some, rd_nI he (by decide), Option.bind_some, wr_ne (show s + 6 ≠ o by omega), z2 _ (by omega), n2, wrf_eq, Option.bind_some]
  generalize hA : wr (wr Z o 0 (nI f)) o 1 _ = A
  have a0 : A o 0 = nI f := by rw [← hA]; simp [wr_ap]
  have a12 : A o 12 = 0 := by rw [← hA]; simp [wr_ap, z7]
  have ar : ∀ i, i ≠ o → A i = M i := fun i hi => by rw [← hA, wr_ne hi, wr_ne hi, z2 i hi]
  rw [a0]
  rcases hf with rfl | rfl
  · have a1 : A o 1 = num := by rw [← hA]; simp [wr_ap]
    rw [if_pos (by decide)]
    exact ⟨A, rfl, a0, a1, a12, fun h => by omega, fun i h _ _ => ar i h⟩
  · have a1 : A o 1 = nI its.length := by rw [← hA]; simp [wr_ap]
    rw [if_neg (by decide), ar 31 (by omega), h0, rsc_eq hs, Option.bind_some, a1, show (4 : Int32) = nI 4 from rfl, nI_mul, acp_nI (by omega) (by omega) (by decide) (by decide), Option.bind_some]
    generalize hB : rset A (o + 1) _ = B
    have br : ∀ i, i ≠ o + 1 → B i = A i := fun i hi => by rw [← hB, rset_ne hi]
    rw [br 31 (by omega), ar 31 (by omega), h0, rsc_eq hs, Option.bind_some, br o (by omega), a1, acp_nI (by omega) (by omega) (by decide) (by decide), Option.bind_some]
    generalize hC : rset B (o + 2) _ = C
    have cr : ∀ i, i ≠ o + 2 → C i = B i := fun i hi => by rw [← hC, rset_ne hi]
    refine ⟨C, rfl, ?_, ?_, ?_, fun _ j y hy => ?_, fun i h1 h2 h3 => ?_⟩
    · rw [cr o (by omega), br o (by omega), a0]
    · rw [cr o (by omega), br o (by omega), a1]; rfl
    · rw [cr o (by omega), br o (by omega), a12]
    · have hj := (List.getElem?_eq_some_iff.mp hy).1
      obtain ⟨g1, g2⟩ := n4 rfl j y hy
      constructor
      · rw [cr _ (by omega), ← hB, rset_ap, if_pos rfl]
        simp only [va_cpy]
        rw [if_pos ⟨Nat.zero_le _, by omega⟩, ar _ (by omega), Nat.sub_zero, Nat.mul_comm]
        exact g1
      · rw [← hC, rset_ap, if_pos rfl]
        simp only [va_cpy]
        rw [if_pos ⟨Nat.zero_le _, by omega⟩, br _ (by omega), ar _ (by omega), Nat.sub_zero, Nat.mul_comm]
        exact g2
    · rw [cr i h3, br i h2, ar i h1]
theorem OV.m {M : Mem} {o l : Nat} {v : Vl} (h : OV M o v) : OVm M o (relab l v) := by
  match v, h with
  | .inl n, h => exact h
  | .inr is, ⟨h1, h2, h3, h4⟩ =>
    refine ⟨h1, by rw [List.length_map]; exact h2, by rw [List.length_map]; exact h3, fun j x hx => ?_⟩
    rw [List.getElem?_map] at hx
    rcases hi : is[j]? with _ | y
    · rw [hi] at hx; cases hx
    · rw [hi] at hx
      cases hx
      exact ⟨(h4 j y hi).1, (h4 j y hi).2.1⟩
theorem relab_src (l : Nat) (v : Vl) : AllSrc l (relab l v) := by
  match v with
  | .inl n => trivial
  | .inr is =>
    intro x hx
    rw [List.mem_map] at hx
    obtain ⟨y, _, rfl⟩ := hx
    rfl
/-- failing at a key in the midst -/
theorem fail_at {M0 M : Mem} {s k : Nat} {σ : Sc} {p : List Nat} {cu : CU} {code : Int32} (hp : p.length + 1 < 9) (hR : RS M s σ (p ++ [k]) cu) (hf : FRr M0 M) (hk : KP M0 M) :
    ∃ M', f_X2_fail M code (nI p.length) = some (0, M') ∧ KP M0 M' ∧ FAIL M0 M' p 0 [(code, k)] cu := by
  obtain ⟨h1, h2, h3, h4, h5, h6, h7, h8⟩ := hR
  obtain ⟨M', e1, e2, e3, e4⟩ := X2_fail (code := code) (by omega) h6
  refine ⟨M', e1, hk.tr ⟨e4 8 (by decide) (by decide), e4 9 (by decide) (by decide), e3 40 (by decide) (by decide) (by decide)⟩, rfl, e2, ?_, h8, hf.tr (fun i hi => e3 i (by omega) (by omega) (by omega))⟩
  rw [e3 31 (by decide) (by decide) (by decide)]
  exact h5
abbrev RSF : Type := Mem → Int32 → Int32 → Option (Int32 × Mem)
def IHr (crs : RSF) (rs : Nat → List Nat → CU → Rs × CU) (s : Nat) (σ : Sc) (p : List Nat) : Prop := ∀ (o : Nat) (cu : CU) (M : Mem), o < 8 → RS M s σ p cu → ∃ r M', crs M (nI o) (nI p.length) = some (r, M') ∧ KP M M' ∧ RRes M M' s σ p o r (rs o p cu)
theorem X2_make {crs : RSF} {rs : Nat → List Nat → CU → Rs × CU} {M : Mem} {s k l : Nat} {σ : Sc} {p : List Nat} {cu : CU} (hs : okS s) (hw : WFs σ) (hk : k < 8) (hl : l < 6) (hp : p.length + 1 < 9) (hent : ∃ e, sEn σ (8 * l + k) = some e ∧ e.1 ≠ 4) (hR : RS M s σ (p ++ [k]) cu) (hrs : IHr crs rs s σ (p ++ [k])) :
    ∃ r M', f_X2_make crs M (nI l) (nI k) (nI p.length) = some (r, M') ∧ KP M M' ∧ MKr M M' s σ p k l r (mkS rs σ l k p cu) := by
  obtain ⟨⟨f, n, ot, its⟩, hent, hf4⟩ := hent
  obtain ⟨w1, w2, w3, w4, w5⟩ := hw.2.2 _ _ _ _ _ hent
  have hos := okS_lt hs
  have he48 : 8 * l + k < 48 := by omega
  have hlen : (p ++ [k]).length = p.length + 1 := by simp
  obtain ⟨t2, t3, t1, t0⟩ := form_t f w1
  unfold f_X2_make mkS
  simp only [hent]
  rw [X7_slotOf, Option.bind_some]
  simp only []
  have h31 := hR.1
  have hE := hR.2.1.2.2.2.2 _ he48
  rw [hent] at hE
  have hE' := hE
  obtain ⟨n1, n2, n3, n4⟩ := hE
  rw [h31, rsc_eq hs, Option.bind_some, rd_nI he48 (by decide), Option.bind_some, n1, nI_1, if_pos (show nI (p.length + 1) < 9 from nI_lt (b := 9) (by omega) (by decide))]
  simp only [t2, t3]
  by_cases f2 : f = 2
  · rw [if_neg (show ¬ ¬ f = 2 from fun q => q f2), if_pos f2, Option.bind_some, rd_nI he48 (by decide), Option.bind_some, n3, if_pos (Or.inl f2)]
    obtain ⟨r, M', e1, e2, e3⟩ := hrs ot cu M w2 hR
    rw [hlen] at e1
    rw [e1, Option.bind_some]
    rcases hx : rs ot (p ++ [k]) cu with ⟨fs | ⟨v, sr, d⟩, cu'⟩
    · rw [hx] at e3
      obtain ⟨g1, g2, g3, g4, g5⟩ := e3
      refine ⟨0, M', by rw [g1]; rfl, e2, rfl, ?_, g3, g4, g5⟩
      simpa using g2
    · rw [hx] at e3
      obtain ⟨g1, g2, g3, g4, g5, g6, g7⟩ := e3
      rw [hlen] at g2 g3 g4 g5 g6
      exact ⟨1, M', by rw [g1]; rfl, e2, rfl, g2, g3.m, relab_src l v, by rw [g5], g7⟩
  · rw [if_pos f2, if_neg f2]
    by_cases f3 : f = 3
    · rw [if_neg (show ¬ ¬ f = 3 from fun q => q f3), if_pos f3, Option.bind_some, rd_nI he48 (by decide), Option.bind_some, n3, if_pos (Or.inr f3)]
      obtain ⟨r, M', e1, e2, e3⟩ := hrs ot cu M w2 hR
      rw [hlen] at e1
      rw [e1, Option.bind_some]
      rcases hx : rs ot (p ++ [k]) cu with ⟨fs | ⟨v, sr, d⟩, cu'⟩
      · rw [hx] at e3
        obtain ⟨g1, g2, g3, g4, g5⟩ := e3
        rw [g1]
        dsimp only
        rw [if_neg (by decide)]
        refine ⟨0, M', rfl, e2, rfl, ?_, g3, g4, g5⟩
        simpa using g2
      · rw [hx] at e3
        obtain ⟨g1, g2, g3, g4, g5, g6, g7⟩ := e3
        rw [hlen] at g2 g3 g4 g5 g6
        rw [g1]
        dsimp only
        rw [if_pos (by decide), rdO_nI (by omega) (by decide), Option.bind_some, g7.1, rsc_eq hs, Option.bind_some, rd_nI he48 (by decide), Option.bind_some]
        have hE2 := g7.2.1.2.2.2.2 _ he48
        rw [hent] at hE2
        rw [hE2.2.1, if_neg (show ¬ f = 1 by omega), if_pos (Or.inr f3)]
        unfold f_X1_increase
        match v, g3 with
        | .inr is, ⟨c0, c1, c2, c3⟩ =>
          rw [c0, if_neg (by decide), Option.bind_some]
          simp only []
          rw [if_neg (by decide)]
          obtain ⟨M2, b1, b2, b3⟩ := fail_at (code := 3) (M0 := M) hp g7 g2.r e2
          rw [b1, Option.bind_some, if_pos rfl]
          exact ⟨0, M2, rfl, b2, b3⟩
        | .inl m, ⟨c0, c1⟩ =>
          have hw1 : wr M' (34 + 7 * (p.length + 1)) 1 (m + n) (34 + 7 * (p.length + 1)) 1 = m + n := by rw [wr_ap]; simp
          rw [c0, if_pos rfl, wrf_eq, Option.bind_some, c1, hw1]
          simp only []
          have hfl : FRl (p.length + 1) M (wr M' (34 + 7 * (p.length + 1)) 1 (m + n)) := fun i hi => by
            rw [wr_ne (by omega)]
            exact g2 i hi
          have hRS : RS (wr M' (34 + 7 * (p.length + 1)) 1 (m + n)) s σ (p ++ [k]) cu' := g7.fr hs (fun i hi => wr_ne (by omega))
          by_cases hle : m + n ≤ 999
          · rw [if_pos hle, Option.bind_some, if_pos rfl]
            simp only [if_pos hle]
            refine ⟨1, _, rfl, hfl.kp (by omega), rfl, hfl, ⟨?_, ?_⟩, trivial, ?_, hRS⟩
            · rw [wr_ap, if_neg (by omega)]; exact c0
            · exact hw1
            · rw [wr_ap, if_neg (by omega), g5]
          · rw [if_neg hle, Option.bind_some]
            simp only [if_neg hle]
            rw [if_neg (by decide)]
            obtain ⟨M2, b1, b2, b3⟩ := fail_at (code := 4) (M0 := M) hp hRS hfl.r (hfl.kp (by omega))
            rw [b1, Option.bind_some, if_pos rfl]
            exact ⟨0, M2, rfl, b2, b3⟩
    · rw [if_pos f3, if_neg f3, rdO_nI (by omega) (by decide), Option.bind_some]
      obtain ⟨M', e1, e2, e3, e4, e5, e6⟩ := X2_copyEntry (o := 34 + 7 * (p.length + 1)) hs he48 (by omega) h31 hE' (show f = 0 ∨ f = 1 by simp at hf4; omega) w3
      rw [e1, Option.bind_some]
      have hfl : FRl (p.length + 1) M M' := fun i hi => e6 i (by omega) (by omega) (by omega)
      have hRS : RS M' s σ (p ++ [k]) cu := hR.fr hs (fun i hi => e6 i (by omega) (by omega) (by omega))
      by_cases f1 : f = 1
      · rw [if_pos f1]
        refine ⟨1, M', rfl, hfl.kp (by omega), rfl, hfl, ⟨by rw [e2, f1]; rfl, ?_, ?_, fun j x hx => ?_⟩, fun x hx => ?_, by rw [e4, Int32.zero_or], hRS⟩
        · rw [e3, if_pos f1, List.length_map]
        · rw [List.length_map]; omega
        · rw [List.getElem?_map] at hx
          rcases hi : its[j]? with _ | y
          · rw [hi] at hx; cases hx
          · rw [hi] at hx
            cases hx
            exact e5 f1 j y hi
        · rw [List.mem_map] at hx
          obtain ⟨y, _, rfl⟩ := hx
          rfl
      · rw [if_neg f1]
        exact ⟨1, M', rfl, hfl.kp (by omega), rfl, hfl, ⟨by rw [e2, show f = 0 by simp at hf4; omega]; rfl, by rw [e3, if_neg f1]⟩, trivial, by rw [e4, Int32.zero_or], hRS⟩
