/-! changes of a scene: the class -/
theorem t_xor : ∀ x, x < 256 → ∀ k, k < 8 → nI x ^^^ bitI k = nI (x ^^^ 2 ^ k) := by decide +kernel
theorem t_off : ∀ x, x < 256 → ∀ k, k < 8 → nI x &&& (bitI k ^^^ (-1)) = nI (x ^^^ (x &&& 2 ^ k)) := by decide +kernel
theorem msk_tog (p : Nat → Bool) {l : Nat} (hl : l < 6) : mskB p 6 ^^^ 2 ^ l = mskB (fup p l (!p l)) 6 := by
  apply Nat.eq_of_testBit_eq
  intro j
  rw [Nat.testBit_xor, mskB_tb, mskB_tb, Nat.testBit_two_pow]
  unfold fup
  by_cases hj : j = l
  · subst hj; simp [hl]
  · have : ¬ l = j := fun q => hj q.symm
    simp [hj, this]
theorem msk_on (p : Nat → Bool) {l : Nat} (hl : l < 6) : mskB p 6 ||| 2 ^ l = mskB (fup p l true) 6 := by
  apply Nat.eq_of_testBit_eq
  intro j
  rw [tb_or, mskB_tb, mskB_tb]
  unfold fup
  by_cases hj : j = l
  · subst hj; simp [hl]
  · have : ¬ l = j := fun q => hj q.symm
    simp [hj, this]
theorem msk_off (p : Nat → Bool) {l : Nat} (hl : l < 6) : mskB p 6 ^^^ (mskB p 6 &&& 2 ^ l) = mskB (fup p l false) 6 := by
  apply Nat.eq_of_testBit_eq
  intro j
  rw [Nat.testBit_xor, Nat.testBit_and, mskB_tb, mskB_tb, Nat.testBit_two_pow]
  unfold fup
  by_cases hj : j = l
  · subst hj; simp
  · have : ¬ l = j := fun q => hj q.symm
    simp [hj, this]
theorem msk_bits {b : Nat} (h : b < 64) : mskB (fun l => b.testBit l) 6 = b := by
  apply Nat.eq_of_testBit_eq
  intro j
  rw [mskB_tb]
  by_cases hj : j < 6
  · simp [hj]
  · have : b.testBit j = false := Nat.testBit_lt_two_pow (Nat.lt_of_lt_of_le h (Nat.pow_le_pow_right (n := 2) (by decide) (show 6 ≤ j by omega)))
    simp [hj, this]
/-- the layers that are on, all told -/
def setOns (σ : Sc) (p : Nat → Bool) : Sc := (p, σ.2)
theorem SCr.ons {M M' : Mem} {s : Nat} {σ : Sc} {p : Nat → Bool} (h : SCr M s σ) (h0 : M' s 0 = nI (mskB p 6)) (hM : ∀ i, s < i → i < s + 10 → M' i = M i) : SCr M' s (setOns σ p) := by
  obtain ⟨h1, h2, h3, h4, h5⟩ := h
  refine ⟨h0, fun l hl => ?_, fun k hk => ?_, ?_, fun e he => ?_⟩
  · rw [hM _ (by omega) (by omega), hM _ (by omega) (by omega)]; exact h2 l hl
  · rw [hM _ (by omega) (by omega)]; exact h3 k hk
  · rw [hM _ (by omega) (by omega)]; exact h4
  · have := h5 e he
    show entC M' s e (sEn σ e)
    rcases hx : sEn σ e with _ | ⟨f, n, o, its⟩
    · rw [hx] at this
      show M' (s + 5) e = -1
      rw [hM _ (by omega) (by omega)]; exact this
    · rw [hx] at this
      obtain ⟨a, b, c, d⟩ := this
      refine ⟨?_, ?_, ?_, fun hf i x hi => ?_⟩
      · rw [hM _ (by omega) (by omega)]; exact a
      · rw [hM _ (by omega) (by omega)]; exact b
      · rw [hM _ (by omega) (by omega)]; exact c
      · rw [hM _ (by omega) (by omega), hM _ (by omega) (by omega)]; exact d hf i x hi
theorem X4_toggle {M : Mem} {s l : Nat} {σ : Sc} (h : SCr M s σ) (hl : l < 6) : f_X4_toggle M s (nI l) = some (wr M s 0 (M s 0 ^^^ bitI l)) ∧ SCr (wr M s 0 (M s 0 ^^^ bitI l)) s (setOn σ l (!sOn σ l)) := by
  refine ⟨rfl, SCr.ons h ?_ (fun i a b => wr_ne (by omega))⟩
  rw [wr_ap, if_pos ⟨rfl, rfl⟩, h.1, t_xor _ (mskB_lt _ 6 (by decide)) l (by omega), msk_tog _ hl]
theorem SCr.turnOn {M : Mem} {s l : Nat} {σ : Sc} (h : SCr M s σ) (hl : l < 6) : SCr (wr M s 0 (M s 0 ||| bitI l)) s (setOn σ l true) := by
  refine SCr.ons h ?_ (fun i a b => wr_ne (by omega))
  rw [wr_ap, if_pos ⟨rfl, rfl⟩, h.1, t_or _ (mskB_lt _ 6 (by decide)) l (by omega), msk_on _ hl]
theorem SCr.turnOff {M : Mem} {s l : Nat} {σ : Sc} (h : SCr M s σ) (hl : l < 6) : SCr (wr M s 0 (M s 0 &&& (bitI l ^^^ (-1)))) s (setOn σ l false) := by
  refine SCr.ons h ?_ (fun i a b => wr_ne (by omega))
  rw [wr_ap, if_pos ⟨rfl, rfl⟩, h.1, t_off _ (mskB_lt _ 6 (by decide)) l (by omega), msk_off _ hl]
theorem SCr.manner {M : Mem} {s k m : Nat} {σ : Sc} (h : SCr M s σ) : SCr (wr M (s + 3) k (nI m)) s (setMn σ k m) := by
  obtain ⟨h1, h2, h3, h4, h5⟩ := h
  have w : ∀ i, i ≠ s + 3 → wr M (s + 3) k (nI m) i = M i := fun i hi => wr_ne hi
  refine ⟨by rw [w _ (by omega)]; exact h1, fun l hl => by rw [w _ (by omega), w _ (by omega)]; exact h2 l hl, fun j hj => ?_, by rw [w _ (by omega)]; exact h4, fun e he => ?_⟩
  · rw [wr_ap]
    show _ = nI (fup (sMn σ) k m j)
    unfold fup
    by_cases hjk : j = k
    · simp [hjk]
    · simp [hjk]; exact h3 j hj
  · have := h5 e he
    show entC _ s e (sEn σ e)
    rcases hx : sEn σ e with _ | ⟨f, n, o, its⟩
    · rw [hx] at this
      show wr M (s + 3) k (nI m) (s + 5) e = -1
      rw [w _ (by omega)]; exact this
    · rw [hx] at this
      obtain ⟨a, b, c, d⟩ := this
      exact ⟨by rw [w _ (by omega)]; exact a, by rw [w _ (by omega)]; exact b, by rw [w _ (by omega)]; exact c, fun hf i x hi => by rw [w _ (by omega), w _ (by omega)]; exact d hf i x hi⟩
theorem WFs.kf {σ : Sc} (hw : WFs σ) {l k f : Nat} (hk : k < 6) (hf : f ≤ 9) : WFs (setKF σ l k f) := by
  refine ⟨fun j => ?_, hw.2⟩
  show fup (sKd σ) l k j < 6 ∧ fup (sFg σ) l f j ≤ 9
  unfold fup
  by_cases hj : j = l
  · simp [hj, hk, hf]
  · simp [hj]; exact hw.1 j
theorem WFs.mn {σ : Sc} (hw : WFs σ) {k m : Nat} (hm : m < 5) : WFs (setMn σ k m) := by
  refine ⟨hw.1, fun j => ?_, hw.2.2⟩
  show fup (sMn σ) k m j < 5
  unfold fup
  by_cases hj : j = k
  · simp [hj, hm]
  · simp [hj]; exact hw.2.1 j
theorem WFs.on {σ : Sc} (hw : WFs σ) (p : Nat → Bool) : WFs (setOns σ p) := hw
theorem WFs.on1 {σ : Sc} (hw : WFs σ) (l : Nat) (b : Bool) : WFs (setOn σ l b) := hw
def WFe : Option Ent → Prop
  | none => True
  | some (f, n, o, its) => f < 5 ∧ o < 8 ∧ its.length ≤ 4 ∧ 0 ≤ n ∧ n ≤ 99
theorem WFs.en {σ : Sc} (hw : WFs σ) {e : Nat} {v : Option Ent} (hv : WFe v) : WFs (setEn σ e v) := by
  refine ⟨hw.1, hw.2.1, fun j f n o its hj => ?_⟩
  have hj' : fup (sEn σ) e v j = some (f, n, o, its) := hj
  unfold fup at hj'
  by_cases h : j = e
  · rw [if_pos h] at hj'
    rw [hj'] at hv
    exact hv
  · rw [if_neg h] at hj'
    exact hw.2.2 _ _ _ _ _ hj'
theorem X4_putKind {M : Mem} {s l k f : Nat} {σ : Sc} (h : SCr M s σ) (hw : WFs σ) (hl : l < 6) (hk : k < 6) (hf : f ≤ 9) : ∃ M', f_X4_putKind M s (nI l) (nI k) (nI f) = some M' ∧ SCr M' s (setKF σ l k f) ∧ ∀ i, i ≠ s + 1 → i ≠ s + 2 → i ≠ s + 4 → M' i = M i := by
  obtain ⟨h1, h2, h3, h4, h5⟩ := h
  have hw' := WFs.kf (l := l) hw hk hf
  unfold f_X4_putKind
  rw [wra_nI hl (by decide), Option.bind_some, wra_nI hl (by decide), Option.bind_some]
  generalize hA : wr (wr M (s + 1) l (nI k)) (s + 2) l (nI f) = A
  have ar : ∀ i, i ≠ s + 1 → i ≠ s + 2 → A i = M i := fun i a b => by rw [← hA, wr_ne b, wr_ne a]
  have a12 : ∀ j, j < 6 → A (s + 1) j = nI (sKd (setKF σ l k f) j) ∧ A (s + 2) j = nI (sFg (setKF σ l k f) j) := by
    intro j hj
    obtain ⟨g1, g2⟩ := h2 j hj
    show _ = nI (fup (sKd σ) l k j) ∧ _ = nI (fup (sFg σ) l f j)
    unfold fup
    rw [← hA]
    by_cases hjl : j = l
    · subst hjl; simp [wr_ap]
    · simp [wr_ap, hjl]; exact ⟨g1, g2⟩
  obtain ⟨r, e1, e2, e3⟩ := X4_arrange (M := A) (s := s) (fun j hj => (a12 j hj).1) (fun j hj => (a12 j hj).2) (fun j => (hw'.1 j).1) (fun j => (hw'.1 j).2)
  rw [e1, Option.bind_some]
  have br : ∀ i, i ≠ s + 4 → rset A (s + 4) r i = A i := fun i hi => rset_ne hi
  refine ⟨_, rfl, ⟨?_, fun j hj => ?_, fun j hj => ?_, ?_, fun e he => ?_⟩, fun i a b c => by rw [br i c, ar i a b]⟩
  · rw [br _ (by omega), ar _ (by omega) (by omega)]; exact h1
  · rw [br _ (by omega), br _ (by omega)]; exact a12 j hj
  · rw [br _ (by omega), ar _ (by omega) (by omega)]; exact h3 j hj
  · have : rset A (s + 4) r (s + 4) = r := by funext j; rw [rset_ap, if_pos rfl]
    rw [this]
    exact e2
  · have hr : ∀ i, s + 5 ≤ i → rset A (s + 4) r i = M i := fun i hi => by rw [br _ (by omega), ar _ (by omega) (by omega)]
    have := h5 e he
    show entC _ s e (sEn σ e)
    rcases hx : sEn σ e with _ | ⟨f, n, o, its⟩
    · rw [hx] at this
      show rset A (s + 4) r (s + 5) e = -1
      rw [hr _ (by omega)]; exact this
    · rw [hx] at this
      obtain ⟨a, b, c, d⟩ := this
      exact ⟨by rw [hr _ (by omega)]; exact a, by rw [hr _ (by omega)]; exact b, by rw [hr _ (by omega)]; exact c, fun hf i x hi => by rw [hr _ (by omega), hr _ (by omega)]; exact d hf i x hi⟩
theorem SCr.setE {M M' : Mem} {s e : Nat} {σ : Sc} {v : Option Ent} (h : SCr M s σ) (hw : WFs σ) (hM : ∀ i, s ≤ i → i ≤ s + 4 → M' i = M i) (hv : entC M' s e v) (h5 : ∀ i j, s + 5 ≤ i → i ≤ s + 7 → j ≠ e → M' i j = M i j) (h8 : ∀ i j, s + 8 ≤ i → i ≤ s + 9 → (j < 4 * e ∨ 4 * e + 4 ≤ j) → M' i j = M i j) : SCr M' s (setEn σ e v) := by
  obtain ⟨g1, g2, g3, g4, g5⟩ := h
  refine ⟨by rw [hM _ (by omega) (by omega)]; exact g1, fun l hl => by rw [hM _ (by omega) (by omega), hM _ (by omega) (by omega)]; exact g2 l hl, fun k hk => by rw [hM _ (by omega) (by omega)]; exact g3 k hk, by rw [hM _ (by omega) (by omega)]; exact g4, fun j hj => ?_⟩
  show entC M' s j (fup (sEn σ) e v j)
  unfold fup
  by_cases hje : j = e
  · rw [if_pos hje, hje]; exact hv
  · rw [if_neg hje]
    have := g5 j hj
    rcases hx : sEn σ j with _ | ⟨f, n, o, its⟩
    · rw [hx] at this
      show M' (s + 5) j = -1
      rw [h5 _ _ (by omega) (by omega) hje]; exact this
    · rw [hx] at this
      obtain ⟨a, b, c, d⟩ := this
      have hlen := (hw.2.2 _ _ _ _ _ hx).2.2.1
      exact ⟨by rw [h5 _ _ (by omega) (by omega) hje]; exact a, by rw [h5 _ _ (by omega) (by omega) hje]; exact b, by rw [h5 _ _ (by omega) (by omega) hje]; exact c, fun hf i x hi => by
        have hil := (List.getElem?_eq_some_iff.mp hi).1
        rw [h8 _ _ (by omega) (by omega) (by omega), h8 _ _ (by omega) (by omega) (by omega)]; exact d hf i x hi⟩
theorem X4_put' {M : Mem} {s e : Nat} {f n o : Int32} (he : e < 48) : ∃ M', f_X4_put M s (nI e) f n o = some M' ∧ (∀ i, i ≠ s + 5 → i ≠ s + 6 → i ≠ s + 7 → M' i = M i) ∧ M' (s + 5) e = f ∧ M' (s + 6) e = n ∧ M' (s + 7) e = o ∧ ∀ i j, s + 5 ≤ i → i ≤ s + 7 → j ≠ e → M' i j = M i j := by
  unfold f_X4_put
  rw [wra_nI he (by decide), Option.bind_some, wra_nI he (by decide), Option.bind_some, wra_nI he (by decide), Option.bind_some]
  refine ⟨_, rfl, fun i a b c => by rw [wr_ne c, wr_ne b, wr_ne a], ?_, ?_, ?_, fun i j _ _ hj => ?_⟩
  · simp [wr_ap]
  · simp [wr_ap]
  · simp [wr_ap]
  · simp [wr_ap, hj]
theorem X4_putE {M : Mem} {s e : Nat} {f n o : Int32} {σ : Sc} {v : Option Ent} (h : SCr M s σ) (hw : WFs σ) (he : e < 48) (hv : ∀ M' : Mem, M' (s + 5) e = f → M' (s + 6) e = n → M' (s + 7) e = o → entC M' s e v) : ∃ M', f_X4_put M s (nI e) f n o = some M' ∧ SCr M' s (setEn σ e v) ∧ ∀ i, (i < s + 5 ∨ s + 7 < i) → M' i = M i := by
  obtain ⟨M', e1, e2, e3, e4, e5, e6⟩ := X4_put' (M := M) (s := s) (f := f) (n := n) (o := o) he
  refine ⟨M', e1, h.setE hw (fun i a b => e2 i (by omega) (by omega) (by omega)) (hv M' e3 e4 e5) (fun i j a b c => e6 i j a b c) (fun i j a b _ => by rw [e2 i (by omega) (by omega) (by omega)]), fun i hi => e2 i (by omega) (by omega) (by omega)⟩
theorem X4_eraseE {M : Mem} {s e : Nat} {σ : Sc} (h : SCr M s σ) (hw : WFs σ) (he : e < 48) : ∃ M', f_X4_erase M s (nI e) = some M' ∧ SCr M' s (setEn σ e none) ∧ ∀ i, (i < s + 5 ∨ s + 7 < i) → M' i = M i := by
  unfold f_X4_erase
  obtain ⟨M', e1, e2, e3⟩ := X4_putE (f := -1) (n := 0) (o := -9) (v := none) h hw he (fun M' a _ _ => a)
  exact ⟨M', by rw [e1]; rfl, e2, e3⟩
theorem X4_addItem {M : Mem} {s e o : Nat} {num a b : Int32} {its : List (Int32 × Int32)} {σ : Sc} (h : SCr M s σ) (hw : WFs σ) (he : e < 48) (hent : sEn σ e = some (1, num, o, its)) (hl : its.length < 4) : ∃ M', f_X4_addItem M s (nI e) a b = some (nI (its.length + 1), M') ∧ SCr M' s (setEn σ e (some (1, num, o, its ++ [(a, b)]))) ∧ ∀ i, (i < s + 5 ∨ s + 9 < i) → M' i = M i := by
  have hE := h.2.2.2.2 e he
  rw [hent] at hE
  obtain ⟨n1, n2, n3, n4⟩ := hE
  rw [if_pos rfl] at n2
  unfold f_X4_addItem
  rw [rd_nI he (by decide), Option.bind_some, n2, show (4 : Int32) = nI 4 from rfl, nI_mul, nI_add, wra_nI (by omega) (by decide), Option.bind_some, wra_nI (by omega) (by decide), Option.bind_some, rd_nI he (by decide), Option.bind_some, wr_ne (show s + 6 ≠ s + 9 by omega), wr_ne (show s + 6 ≠ s + 8 by omega), n2, nI_1, wra_nI he (by decide), Option.bind_some, rd_nI he (by decide), Option.bind_some]
  have hw1 : ∀ A : Mem, wr A (s + 6) e (nI (its.length + 1)) (s + 6) e = nI (its.length + 1) := fun A => by rw [wr_ap]; simp
  rw [hw1]
  refine ⟨_, rfl, h.setE hw (fun i c d => by rw [wr_ne (by omega), wr_ne (by omega), wr_ne (by omega)]) ⟨?_, ?_, ?_, fun _ i x hx => ?_⟩ (fun i j c d hj => ?_) (fun i j c d hj => ?_), fun i hi => by rw [wr_ne (by omega), wr_ne (by omega), wr_ne (by omega)]⟩
  · rw [wr_ne (by omega), wr_ne (by omega), wr_ne (by omega)]; exact n1
  · rw [hw1, if_pos rfl]; simp
  · rw [wr_ne (by omega), wr_ne (by omega), wr_ne (by omega)]; exact n3
  · rw [wr_ne (by omega), wr_ne (show s + 9 ≠ s + 6 by omega), wr_ne (show s + 8 ≠ s + 9 by omega), wr_ap, wr_ap, wr_ne (show s + 9 ≠ s + 8 by omega)]
    by_cases hi : i < its.length
    · rw [List.getElem?_append_left hi] at hx
      rw [if_neg (by omega), if_neg (by omega)]
      exact n4 rfl i x hx
    · rw [List.getElem?_append_right (by omega)] at hx
      have h0 : i - its.length = 0 := by
        have := (List.getElem?_eq_some_iff.mp hx).1
        simp at this
        omega
      have hi2 : i = its.length := by omega
      rw [h0] at hx
      simp at hx
      subst hx
      rw [if_pos ⟨rfl, by omega⟩, if_pos ⟨rfl, by omega⟩]
      exact ⟨rfl, rfl⟩
  · rw [wr_ap, if_neg (by omega), wr_ne (by omega), wr_ne (by omega)]
  · rw [wr_ne (by omega), wr_ap, if_neg (by omega), wr_ap, if_neg (by omega)]
theorem cpy_at {n : Nat} {a b : Nat → Int32} {j : Nat} (h : j < n) : va_cpy a b 0 0 n j = a j := by
  simp only [va_cpy]
  rw [if_pos ⟨Nat.zero_le _, by omega⟩]
  simp
def lnS (i : Nat) : Nat := if i ≤ 2 ∨ i = 4 then 6 else if i = 3 then 8 else if i ≤ 7 then 48 else 192
def CP (M : Mem) (s t : Nat) (A : Mem) (r : Nat) : Prop := A s 0 = M t 0 ∧ (∀ i, 1 ≤ i → i < r → ∀ j, j < lnS i → A (s + i) j = M (t + i) j) ∧ ∀ x, (x < s ∨ s + r ≤ x) → A x = M x
theorem CP.step {M A : Mem} {s t r : Nat} (h : CP M s t A r) (h1 : 1 ≤ r) (h2 : r < 10) (hst : s + 10 ≤ t ∨ t + 10 ≤ s) : CP M s t (rset A (s + r) (va_cpy (A (t + r)) (A (s + r)) 0 0 (lnS r))) (r + 1) := by
  obtain ⟨a, b, c⟩ := h
  refine ⟨by rw [rset_ne (by omega)]; exact a, fun i hi1 hi2 j hj => ?_, fun x hx => by rw [rset_ne (by omega)]; exact c x (by omega)⟩
  by_cases hir : i = r
  · subst hir
    rw [rset_ap, if_pos rfl, cpy_at hj, c _ (by omega)]
  · rw [rset_ne (by omega)]
    exact b i hi1 (by omega) j hj
theorem X4_become {M : Mem} {s t : Nat} {σ : Sc} (h : SCr M t σ) (hw : WFs σ) (hst : s + 10 ≤ t ∨ t + 10 ≤ s) : ∃ M', f_X4_become M s t = some M' ∧ SCr M' s σ ∧ ∀ i, (i < s ∨ s + 10 ≤ i) → M' i = M i := by
  have hc : ∀ (r : Nat) (n : Nat) (x : Int32) (A : Mem) (a b : Nat), n = lnS r → x = nI n → n < 2 ^ 31 → acp n n A a 0 b 0 x = some (rset A b (va_cpy (A a) (A b) 0 0 (lnS r))) := fun r n x A a b hr hx hn => by
    subst hx
    rw [← hr]
    exact acp_nI (sp := 0) (n := n) (by omega) (by omega) hn hn
  have c1 : CP M s t (wr M s 0 (M t 0)) 1 := ⟨by rw [wr_ap, if_pos ⟨rfl, rfl⟩], fun i a b => by omega, fun x hx => wr_ne (by omega)⟩
  have c2 := c1.step (by decide) (by decide) hst
  have c3 := c2.step (by decide) (by decide) hst
  have c4 := c3.step (by decide) (by decide) hst
  have c5 := c4.step (by decide) (by decide) hst
  have c6 := c5.step (by decide) (by decide) hst
  have c7 := c6.step (by decide) (by decide) hst
  have c8 := c7.step (by decide) (by decide) hst
  have c9 := c8.step (by decide) (by decide) hst
  have c10 := c9.step (by decide) (by decide) hst
  unfold f_X4_become
  rw [wrf_eq, Option.bind_some, hc 1 6 6 _ _ _ rfl rfl (by decide), Option.bind_some, hc 2 6 6 _ _ _ rfl rfl (by decide), Option.bind_some, hc 3 8 8 _ _ _ rfl rfl (by decide), Option.bind_some, hc 4 6 6 _ _ _ rfl rfl (by decide), Option.bind_some, hc 5 48 48 _ _ _ rfl rfl (by decide), Option.bind_some, hc 6 48 48 _ _ _ rfl rfl (by decide), Option.bind_some, hc 7 48 48 _ _ _ rfl rfl (by decide), Option.bind_some, hc 8 192 192 _ _ _ rfl rfl (by decide), Option.bind_some, hc 9 192 192 _ _ _ rfl rfl (by decide), Option.bind_some]
  refine ⟨_, rfl, ?_, c10.2.2⟩
  obtain ⟨d1, d2, -⟩ := c10
  obtain ⟨h1, h2, h3, h4, h5⟩ := h
  refine ⟨d1.trans h1, fun l hl => ⟨(d2 1 (by decide) (by decide) l hl).trans (h2 l hl).1, (d2 2 (by decide) (by decide) l hl).trans (h2 l hl).2⟩, fun k hk => (d2 3 (by decide) (by decide) k hk).trans (h3 k hk), fun j d hj => ?_, fun e he => ?_⟩
  · have := (List.getElem?_eq_some_iff.mp hj).1
    rw [ordS_len] at this
    exact (d2 4 (by decide) (by decide) _ (show _ < 6 by rw [ordS_len]; omega)).trans (h4 j d hj)
  · have he5 := d2 5 (by decide) (by decide) e he
    have he6 := d2 6 (by decide) (by decide) e he
    have he7 := d2 7 (by decide) (by decide) e he
    have := h5 e he
    rcases hx : sEn σ e with _ | ⟨f, n, o, its⟩
    · rw [hx] at this
      exact he5.trans this
    · rw [hx] at this
      obtain ⟨a, b, c, d⟩ := this
      have hlen := (hw.2.2 _ _ _ _ _ hx).2.2.1
      exact ⟨he5.trans a, he6.trans b, he7.trans c, fun hf i x hi => by
        have hil := (List.getElem?_eq_some_iff.mp hi).1
        have e8 := d2 8 (by decide) (by decide) (4 * e + i) (show _ < 192 by omega)
        have e9 := d2 9 (by decide) (by decide) (4 * e + i) (show _ < 192 by omega)
        exact ⟨e8.trans (d hf i x hi).1, e9.trans (d hf i x hi).2⟩⟩
