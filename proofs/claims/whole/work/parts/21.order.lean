/-! ranks and the order of layers -/
def rI (r : Int) : Int32 := Int32.ofInt r
theorem rI_toInt {r : Int} (h1 : -1000 ≤ r) (h2 : r ≤ 1000) : (rI r).toInt = r := Int32.toInt_ofInt_of_le (by omega) (by omega)
theorem rI_le {a b : Int} (h1 : -1000 ≤ a ∧ a ≤ 1000) (h2 : -1000 ≤ b ∧ b ≤ 1000) : rI a ≤ rI b ↔ a ≤ b := by
  rw [Int32.le_iff_toInt_le, rI_toInt h1.1 h1.2, rI_toInt h2.1 h2.2]
theorem rI_lt {a b : Int} (h1 : -1000 ≤ a ∧ a ≤ 1000) (h2 : -1000 ≤ b ∧ b ≤ 1000) : rI a < rI b ↔ a < b := by
  rw [Int32.lt_iff_toInt_lt, rI_toInt h1.1 h1.2, rI_toInt h2.1 h2.2]
theorem rI_eq {a b : Int} (h1 : -1000 ≤ a ∧ a ≤ 1000) (h2 : -1000 ≤ b ∧ b ≤ 1000) : rI a = rI b ↔ a = b := by
  rw [← Int32.toInt_inj, rI_toInt h1.1 h1.2, rI_toInt h2.1 h2.2]
def rkS (kd fg l : Nat) : Int := if kd = 1 then l + 10 else if kd = 2 ∨ kd = 5 then l + 10 + fg else if kd = 3 then l + 110 else if kd = 4 then l - 20 else l
theorem rkS_range {kd fg l : Nat} (hf : fg ≤ 9) (hl : l < 6) : -1000 ≤ rkS kd fg l ∧ rkS kd fg l ≤ 1000 := by
  unfold rkS
  split
  · omega
  · split
    · omega
    · split
      · omega
      · split <;> omega
theorem rk_t1 : ∀ l, l < 6 → nI l + 10 = rI (l + 10) := by decide +kernel
theorem rk_t2 : ∀ l, l < 6 → ∀ f, f < 10 → nI l + 10 + nI f = rI (l + 10 + f) := by decide +kernel
theorem rk_t3 : ∀ l, l < 6 → nI l + 110 = rI (l + 110) := by decide +kernel
theorem rk_t4 : ∀ l, l < 6 → nI l - 20 = rI (l - 20) := by decide +kernel
theorem rk_t5 : ∀ l, l < 6 → nI l = rI l := by decide +kernel
theorem kd_t : ∀ k, k < 6 → (nI k = 1 ↔ k = 1) ∧ (nI k = 2 ↔ k = 2) ∧ (nI k = 3 ↔ k = 3) ∧ (nI k = 4 ↔ k = 4) ∧ (nI k = 5 ↔ k = 5) := by decide +kernel
theorem X4_rank {M : Mem} {s l kd fg : Nat} (hl : l < 6) (h1 : M (s + 1) l = nI kd) (h2 : M (s + 2) l = nI fg) (hk : kd < 6) (hf : fg ≤ 9) : f_X4_rank M s (nI l) = some (rI (rkS kd fg l), M) := by
  obtain ⟨t1, t2, t3, t4, t5⟩ := kd_t kd hk
  unfold f_X4_rank f_X4_rank_45
  rw [rd_nI hl (by decide), rd_nI hl (by decide), h1, h2]
  simp only [Option.bind_some, t1, t2, t3, t4, t5]
  unfold rkS
  by_cases c1 : kd = 1
  · rw [if_pos c1, if_pos c1, rk_t1 l hl]
  · rw [if_neg c1, if_neg c1]
    by_cases c2 : kd = 2
    · rw [if_pos c2, if_pos (Or.inl c2), rk_t2 l hl fg (by omega)]
    · rw [if_neg c2]
      by_cases c5 : kd = 5
      · rw [if_pos (Or.inr c5), if_neg (by omega), if_neg (by omega), if_pos c5, rk_t2 l hl fg (by omega)]
      · rw [if_neg (by omega : ¬ (kd = 2 ∨ kd = 5))]
        by_cases c3 : kd = 3
        · rw [if_pos c3, if_pos c3, rk_t3 l hl]
        · rw [if_neg c3, if_neg c3]
          by_cases c4 : kd = 4
          · rw [if_pos c4, if_pos c4, rk_t4 l hl]
          · rw [if_neg c4, if_neg c4, if_neg c5, rk_t5 l hl]
/-- from the highest down: n comes in below all that are greater -/
def insD (rk : Nat → Int) (n : Nat) : List Nat → List Nat
  | [] => [n]
  | d :: ds => if rk d ≤ rk n then n :: d :: ds else d :: insD rk n ds
def ordD (rk : Nat → Int) : Nat → List Nat
  | 0 => []
  | n + 1 => insD rk n (ordD rk n)
theorem insD_len (rk : Nat → Int) (n : Nat) (ds : List Nat) : (insD rk n ds).length = ds.length + 1 := by
  induction ds with
  | nil => rfl
  | cons d ds ih =>
    simp only [insD]
    split
    · simp
    · simp [ih]
theorem insD_mem (rk : Nat → Int) (n : Nat) (ds : List Nat) : ∀ x, x ∈ insD rk n ds ↔ x = n ∨ x ∈ ds := by
  induction ds with
  | nil => intro x; simp [insD]
  | cons d ds ih =>
    intro x
    simp only [insD]
    split
    · simp
    · simp only [List.mem_cons, ih]
      constructor
      · rintro (h | h | h)
        · exact Or.inr (Or.inl h)
        · exact Or.inl h
        · exact Or.inr (Or.inr h)
      · rintro (h | h | h)
        · exact Or.inr (Or.inl h)
        · exact Or.inl h
        · exact Or.inr (Or.inr h)
theorem ordD_len (rk : Nat → Int) (n : Nat) : (ordD rk n).length = n := by
  induction n with
  | zero => rfl
  | succ n ih => rw [ordD, insD_len, ih]
theorem ordD_mem (rk : Nat → Int) (n : Nat) : ∀ x, x ∈ ordD rk n ↔ x < n := by
  induction n with
  | zero => intro x; simp [ordD]
  | succ n ih => intro x; rw [ordD, insD_mem, ih]; omega
/-- a row that has these numbers from its end down -/
def HasD (r : Nat → Int32) (ds : List Nat) : Prop := ∀ j d, ds[j]? = some d → r (ds.length - 1 - j) = nI d
theorem arr_in {s n : Nat} {rk : Nat → Int} {k : Mem → Nat → Int32 → Option Mem} (hn : n < 6) (hrg : ∀ d, d < 6 → -1000 ≤ rk d ∧ rk d ≤ 1000) :
    ∀ (rest pre : List Nat) (M : Mem) (fuel : Nat), rest.length < fuel → rest.length + pre.length = n → (∀ d ∈ rest, d < 6) →
      (∀ M', (∀ i, i ≠ s + 4 → M' i = M i) → ∀ d, d < 6 → f_X4_rank M' s (nI d) = some (rI (rk d), M')) →
      HasD (M (s + 4)) rest → (∀ j d, pre[j]? = some d → M (s + 4) (n - j) = nI d) →
      ∃ r, f_X4_arrange_10 k fuel M s (nI n) (nI rest.length) = k (rset M (s + 4) r) s (nI n + 1) ∧ HasD r (pre ++ insD rk n rest) ∧ ∀ i, n < i → r i = M (s + 4) i := by
  intro rest
  induction rest with
  | nil =>
    intro pre M fuel hfu hlen hr hrk hh hpre
    obtain ⟨fu, rfl⟩ : ∃ fu, fuel = fu + 1 := ⟨fuel - 1, by simp at hfu; omega⟩
    simp only [List.length_nil, Nat.zero_add] at hlen
    subst hlen
    refine ⟨upd (M (s + 4)) 0 (nI pre.length), ?_, ?_, ?_⟩
    · rw [f_X4_arrange_10]
      show (if nI 0 ≤ (0 : Int32) then f_X4_arrange_54 k M s (nI pre.length) (nI 0) else _) = _
      rw [if_pos (by decide)]
      unfold f_X4_arrange_54
      rw [wra_nI (by decide) (by decide)]
      rfl
    · intro j d hj
      simp only [insD, List.length_append, List.length_cons, List.length_nil] at hj ⊢
      have hjl : j < (pre ++ [pre.length]).length := (List.getElem?_eq_some_iff.mp hj).1
      simp at hjl
      by_cases hjp : j < pre.length
      · rw [List.getElem?_append_left hjp] at hj
        have := hpre j d hj
        simp only [upd]
        rw [if_neg (by omega), show pre.length + (0 + 1) - 1 - j = pre.length - j by omega]
        exact this
      · have : j = pre.length := by omega
        subst this
        rw [List.getElem?_append_right (Nat.le_refl _), Nat.sub_self] at hj
        simp at hj
        subst hj
        simp [upd]
    · intro i hi
      simp only [upd]
      rw [if_neg (by omega)]
  | cons d rest ih =>
    intro pre M fuel hfu hlen hr hrk hh hpre
    obtain ⟨fu, rfl⟩ : ∃ fu, fuel = fu + 1 := ⟨fuel - 1, by simp at hfu; omega⟩
    simp only [List.length_cons] at hlen hfu ⊢
    have hd : d < 6 := hr d List.mem_cons_self
    have h0 : M (s + 4) rest.length = nI d := by
      have := hh 0 d rfl
      simpa using this
    rw [f_X4_arrange_10]
    rw [if_neg (by rw [show (0 : Int32) = nI 0 from rfl, nI_leI (by omega) (by omega)]; omega)]
    rw [nI_pred1 (by omega), Nat.add_sub_cancel, rd_nI (by omega) (by decide), Option.bind_some, h0, hrk M (fun _ _ => rfl) d hd, Option.bind_some]
    show ∃ r, (Option.bind (f_X4_rank M s (nI n)) _) = _ ∧ _
    rw [hrk M (fun _ _ => rfl) n hn, Option.bind_some]
    by_cases hc : rk d ≤ rk n
    · refine ⟨upd (M (s + 4)) (rest.length + 1) (nI n), ?_, ?_, ?_⟩
      · show (if rI (rk d) ≤ rI (rk n) then f_X4_arrange_54 k M s (nI n) (nI (rest.length + 1)) else _) = _
        rw [if_pos ((rI_le (hrg d hd) (hrg n hn)).mpr hc)]
        unfold f_X4_arrange_54
        rw [wra_nI (by omega) (by decide)]
        rfl
      · simp only [insD]
        rw [if_pos hc]
        intro j e hj
        simp only [List.length_append, List.length_cons]
        by_cases hjp : j < pre.length
        · rw [List.getElem?_append_left hjp] at hj
          have := hpre j e hj
          simp only [upd]
          rw [if_neg (by omega), show pre.length + (rest.length + 1 + 1) - 1 - j = n - j by omega]
          exact this
        · rw [List.getElem?_append_right (by omega)] at hj
          by_cases hj0 : j = pre.length
          · subst hj0
            rw [Nat.sub_self] at hj
            simp at hj
            subst hj
            simp only [upd]
            rw [if_pos (by omega)]
          · obtain ⟨i, hi⟩ : ∃ i, j - pre.length = i + 1 := ⟨j - pre.length - 1, by omega⟩
            rw [hi, List.getElem?_cons_succ] at hj
            have := hh i e hj
            simp only [List.length_cons] at this
            simp only [upd]
            rw [if_neg (by omega), show pre.length + (rest.length + 1 + 1) - 1 - j = rest.length + 1 - 1 - i by omega]
            exact this
      · intro i hi
        simp only [upd]
        rw [if_neg (by omega)]
    · show ∃ r, (if rI (rk d) ≤ rI (rk n) then _ else Option.bind (rd 6 (M (s + 4)) (nI rest.length)) _) = _ ∧ _
      rw [if_neg (fun q => hc ((rI_le (hrg d hd) (hrg n hn)).mp q)), rd_nI (by omega) (by decide), Option.bind_some]
      show ∃ r, (Option.bind (wra 6 M (s + 4) (nI (rest.length + 1)) (M (s + 4) rest.length)) _) = _ ∧ _
      rw [h0, wra_nI (by omega) (by decide), Option.bind_some, nI_m1 (by omega), Nat.add_sub_cancel]
      obtain ⟨r, e1, e2, e3⟩ := ih (pre ++ [d]) (wr M (s + 4) (rest.length + 1) (nI d)) fu (by omega) (by simp; omega) (fun x hx => hr x (List.mem_cons_of_mem _ hx))
        (fun M' hM' => hrk M' (fun i hi => (hM' i hi).trans (wr_ne hi))) (by
          intro j e hj
          have hjl := (List.getElem?_eq_some_iff.mp hj).1
          have := hh (j + 1) e (by rw [List.getElem?_cons_succ]; exact hj)
          simp only [List.length_cons] at this
          rw [wr_ap, if_neg (by omega), show rest.length - 1 - j = rest.length + 1 - 1 - (j + 1) by omega]
          exact this) (by
          intro j e hj
          have hjl : j < (pre ++ [d]).length := (List.getElem?_eq_some_iff.mp hj).1
          simp at hjl
          by_cases hjp : j < pre.length
          · rw [List.getElem?_append_left hjp] at hj
            rw [wr_ap, if_neg (by omega)]
            exact hpre j e hj
          · have hjj : j = pre.length := by omega
            subst hjj
            rw [List.getElem?_append_right (Nat.le_refl _), Nat.sub_self] at hj
            simp at hj
            subst hj
            rw [wr_ap, if_pos ⟨rfl, by omega⟩])
      refine ⟨r, ?_, ?_, ?_⟩
      · rw [e1]
        congr 1
        funext x
        by_cases hx : x = s + 4
        · subst hx
          simp [rset]
        · rw [rset_ne hx, rset_ne hx, wr_ne hx]
      · simp only [insD]
        rw [if_neg hc]
        simpa using e2
      · intro i hi
        rw [e3 i hi, wr_ap, if_neg (by omega)]
theorem rset_rset (M : Mem) (i : Nat) (r r' : Nat → Int32) : rset (rset M i r) i r' = rset M i r' := by
  funext x
  by_cases hx : x = i
  · subst hx; simp [rset]
  · rw [rset_ne hx, rset_ne hx, rset_ne hx]
theorem arr_out {s : Nat} {rk : Nat → Int} (hrg : ∀ d, d < 6 → -1000 ≤ rk d ∧ rk d ≤ 1000) :
    ∀ (m n : Nat) (M : Mem) (fuel : Nat), n + m = 6 → m < fuel → (∀ M', (∀ i, i ≠ s + 4 → M' i = M i) → ∀ d, d < 6 → f_X4_rank M' s (nI d) = some (rI (rk d), M')) →
      HasD (M (s + 4)) (ordD rk n) → ∃ r, f_X4_arrange_2 fuel M s (nI n) = some (rset M (s + 4) r) ∧ HasD r (ordD rk 6) ∧ ∀ i, 6 ≤ i → r i = M (s + 4) i := by
  intro m
  induction m with
  | zero =>
    intro n M fuel hnm hfu hrk hh
    obtain ⟨fu, rfl⟩ : ∃ fu, fuel = fu + 1 := ⟨fuel - 1, by omega⟩
    have : n = 6 := by omega
    subst this
    refine ⟨M (s + 4), ?_, hh, fun _ _ => rfl⟩
    rw [f_X4_arrange_2]
    show (if (6 : Int32) ≤ nI 6 then some M else _) = _
    rw [if_pos (by decide)]
    congr 1
    funext x
    by_cases hx : x = s + 4
    · subst hx; simp [rset]
    · rw [rset_ne hx]
  | succ m ih =>
    intro n M fuel hnm hfu hrk hh
    obtain ⟨fu, rfl⟩ : ∃ fu, fuel = fu + 1 := ⟨fuel - 1, by omega⟩
    rw [f_X4_arrange_2]
    rw [if_neg (by rw [show (6 : Int32) = nI 6 from rfl, nI_leI (by omega) (by omega)]; omega)]
    have hl := ordD_len rk n
    obtain ⟨r, e1, e2, e3⟩ := arr_in (k := f_X4_arrange_2 fu) (s := s) (n := n) (rk := rk) (by omega) hrg (ordD rk n) [] M 1000 (by omega) (by simp [hl]) (fun d hd => by have := (ordD_mem rk n d).mp hd; omega) hrk hh (fun j d hj => by simp at hj)
    rw [hl] at e1
    obtain ⟨r2, f1, f2, f3⟩ := ih (n + 1) (rset M (s + 4) r) fu (by omega) (by omega) (fun M' hM' => hrk M' (fun i hi => (hM' i hi).trans (rset_ne hi))) (by
      have : HasD r (ordD rk (n + 1)) := e2
      simpa [rset] using this)
    refine ⟨r2, ?_, f2, fun i hi => ?_⟩
    · rw [e1, nI_1, f1, rset_rset]
    · rw [f3 i hi]
      have := e3 i (by omega)
      simpa [rset] using this
theorem X4_arrange {M : Mem} {s : Nat} {kd fg : Nat → Nat} (h1 : ∀ l, l < 6 → M (s + 1) l = nI (kd l)) (h2 : ∀ l, l < 6 → M (s + 2) l = nI (fg l)) (hk : ∀ l, kd l < 6) (hf : ∀ l, fg l ≤ 9) :
    ∃ r, f_X4_arrange M s = some (rset M (s + 4) r) ∧ HasD r (ordD (fun l => rkS (kd l) (fg l) l) 6) ∧ ∀ i, 6 ≤ i → r i = M (s + 4) i := by
  unfold f_X4_arrange
  exact arr_out (fun d hd => rkS_range (hf d) hd) 6 0 M 1000 rfl (by decide) (fun M' hM' d hd => X4_rank hd (by rw [hM' _ (by omega)]; exact h1 d hd) (by rw [hM' _ (by omega)]; exact h2 d hd) (hk d) (hf d)) (fun j d hj => by simp [ordD] at hj)
