/-! the reference: its row, ranks, order -/
def entM (r : Nat → Int32) (e : Nat) : Option Ent → Prop
  | none => r (30 + 12 * e) = -9
  | some (f, n, o, its) => r (30 + 12 * e) = nI f ∧ r (31 + 12 * e) = (if f = 0 ∨ f = 3 then n else 0) ∧ (f = 2 ∨ f = 3 → r (32 + 12 * e) = nI o) ∧ (f = 1 → r (33 + 12 * e) = nI its.length ∧ ∀ i x, its[i]? = some x → r (34 + 12 * e + 2 * i) = x.1 ∧ r (35 + 12 * e + 2 * i) = x.2)
def SMr (r : Nat → Int32) (σ : Sc) : Prop := (∀ l, l < 6 → r (3 * l) = (if sOn σ l = true then 1 else 0) ∧ r (3 * l + 1) = nI (sKd σ l) ∧ r (3 * l + 2) = nI (sFg σ l)) ∧ (∀ k, k < 8 → r (20 + k) = nI (sMn σ k)) ∧ ∀ e, e < 48 → entM r e (sEn σ e)
theorem m_at (a : Nat) (j : Nat) : (3 : Int32) * nI a + nI j = nI (3 * a + j) := by rw [show (3 : Int32) = nI 3 from rfl, nI_mul, nI_add]
theorem m_a0 (a : Nat) : (3 : Int32) * nI a + 0 = nI (3 * a) := m_at a 0
theorem m_a1 (a : Nat) : (3 : Int32) * nI a + 1 = nI (3 * a + 1) := m_at a 1
theorem m_a2 (a : Nat) : (3 : Int32) * nI a + 2 = nI (3 * a + 2) := m_at a 2
theorem rm_t1 : ∀ l, l < 6 → ∀ f, f < 10 → nI l + (10 + nI f) = rI (l + 10 + f) := by decide +kernel
theorem rm_t2 : ∀ l, l < 6 → nI l + (-20) = rI (l - 20) := by decide +kernel
theorem rm_t3 : ∀ l, l < 6 → nI l + 0 = rI l := by decide +kernel
theorem rkO_range {σ : Sc} (hw : WFs σ) {l : Nat} (hl : l < 6) : -1000 ≤ rkO σ l ∧ rkO σ l ≤ 1000 := rkS_range (hw.1 l).2 hl
theorem X8_rank {M : Mem} {σ : Sc} {l : Nat} (hw : WFs σ) (h : SMr (M 164) σ) (hl : l < 6) : f_X8_rank M (nI l) = some (rI (rkO σ l), M) := by
  obtain ⟨h1, h2, h3⟩ := h.1 l hl
  obtain ⟨w1, w2⟩ := hw.1 l
  obtain ⟨t1, t2, t3, t4, t5⟩ := kd_t _ w1
  unfold f_X8_rank f_X8_rank_43
  rw [m_a1, rd_nI (by omega) (by decide), Option.bind_some, m_a2, rd_nI (by omega) (by decide), Option.bind_some, h2, h3]
  simp only [t1, t2, t3, t4, t5]
  unfold rkO rkS
  by_cases c1 : sKd σ l = 1
  · rw [if_neg (fun q => q c1), if_pos c1, rk_t1 l hl]
  · rw [if_pos c1, if_neg c1]
    by_cases c2 : sKd σ l = 2
    · rw [if_pos c2, if_pos (Or.inl c2), rm_t1 l hl _ (by omega)]
    · rw [if_neg c2]
      by_cases c5 : sKd σ l = 5
      · rw [if_pos (Or.inr c5), if_neg (fun q => q c5), rm_t1 l hl _ (by omega)]
      · rw [if_neg (by omega : ¬ (sKd σ l = 2 ∨ sKd σ l = 5)), if_pos c5]
        by_cases c3 : sKd σ l = 3
        · rw [if_neg (fun q => q c3), if_pos c3, rk_t3 l hl]
        · rw [if_pos c3, if_neg c3]
          by_cases c4 : sKd σ l = 4
          · rw [if_neg (fun q => q c4), if_pos c4, rm_t2 l hl]
          · rw [if_pos c4, if_neg c4, rm_t3 l hl]
def behS (σ : Sc) (a b : Nat) : Bool := decide (rkO σ b < rkO σ a ∨ (rkO σ a = rkO σ b ∧ b < a))
theorem X8_isBehind {M : Mem} {σ : Sc} {a b : Nat} (hw : WFs σ) (h : SMr (M 164) σ) (ha : a < 6) (hb : b < 6) : f_X8_isBehind M (nI a) (nI b) = some (if behS σ a b = true then 1 else 0, M) := by
  have r1 := rkO_range hw ha
  have r2 := rkO_range hw hb
  unfold f_X8_isBehind behS
  rw [X8_rank hw h ha, Option.bind_some, X8_rank hw h hb, Option.bind_some]
  dsimp only
  simp only [rI_lt r2 r1]
  by_cases c : rkO σ b < rkO σ a
  · rw [if_pos c, if_pos (by simp [c])]; rfl
  · rw [if_neg c, X8_rank hw h ha, Option.bind_some, X8_rank hw h hb, Option.bind_some]
    dsimp only
    simp only [rI_eq r1 r2, nI_leI (show a < 2 ^ 31 by omega) (show b < 2 ^ 31 by omega)]
    by_cases c2 : rkO σ a = rkO σ b
    · rw [if_neg (fun q => q c2)]
      by_cases c3 : a ≤ b
      · rw [if_pos c3, if_neg (by simp; omega)]; rfl
      · rw [if_neg c3, if_pos (by simp; omega)]; rfl
    · rw [if_pos c2, if_neg (by simp; omega)]; rfl
theorem behS_tr {σ : Sc} {a b c : Nat} (h : behS σ a b = true) (g : behS σ b c = true) : behS σ a c = true := by
  unfold behS at *; simp only [decide_eq_true_eq] at *; omega
theorem behS_as {σ : Sc} {a b : Nat} (h : behS σ a b = true) : behS σ b a = false := by
  unfold behS at *; simp only [decide_eq_true_eq, decide_eq_false_iff_not] at *; omega
theorem behS_ir (σ : Sc) (a : Nat) : behS σ a a = false := by unfold behS; simp
theorem insD_perm (rk : Nat → Int) (n : Nat) (ds : List Nat) : (insD rk n ds).Perm (n :: ds) := by
  induction ds with
  | nil => exact List.Perm.refl _
  | cons d ds ih =>
    simp only [insD]
    split
    · exact List.Perm.refl _
    · exact (List.Perm.cons d ih).trans (List.Perm.swap n d ds)
theorem ordD_perm (rk : Nat → Int) (n : Nat) : (ordD rk n).Perm (List.range n) := by
  induction n with
  | zero => exact List.Perm.refl _
  | succ n ih =>
    rw [ordD, List.range_succ]
    exact ((insD_perm rk n _).trans (List.Perm.cons n ih)).trans (List.perm_append_singleton n _).symm
theorem ordD_nodup (rk : Nat → Int) (n : Nat) : (ordD rk n).Nodup := (ordD_perm rk n).nodup_iff.mpr List.nodup_range
theorem insD_pw (σ : Sc) (n : Nat) (ds : List Nat) (hlt : ∀ d ∈ ds, d < n) (hp : ds.Pairwise (fun a b => behS σ a b = true)) : (insD (rkO σ) n ds).Pairwise (fun a b => behS σ a b = true) := by
  induction ds with
  | nil => simp [insD]
  | cons d ds ih =>
    rw [List.pairwise_cons] at hp
    have hdn := hlt d List.mem_cons_self
    simp only [insD]
    split
    · rename_i hc
      have hnd : behS σ n d = true := by unfold behS; simp only [decide_eq_true_eq]; omega
      rw [List.pairwise_cons, List.pairwise_cons]
      refine ⟨fun x hx => ?_, hp⟩
      rcases List.mem_cons.mp hx with rfl | hx
      · exact hnd
      · exact behS_tr hnd (hp.1 x hx)
    · rename_i hc
      rw [List.pairwise_cons]
      refine ⟨fun x hx => ?_, ih (fun y hy => hlt y (List.mem_cons_of_mem _ hy)) hp.2⟩
      rcases (insD_mem _ _ _ x).mp hx with rfl | hx
      · unfold behS; simp only [decide_eq_true_eq]; omega
      · exact hp.1 x hx
theorem ordD_pw (σ : Sc) (n : Nat) : (ordD (rkO σ) n).Pairwise (fun a b => behS σ a b = true) := by
  induction n with
  | zero => exact List.Pairwise.nil
  | succ n ih => exact insD_pw σ n _ (fun d hd => (ordD_mem _ _ d).mp hd) ih
theorem cnt_at (σ : Sc) : ∀ (ds : List Nat) (j l : Nat), ds.Pairwise (fun a b => behS σ a b = true) → ds[j]? = some l → ds.countP (behS σ l) = ds.length - 1 - j := by
  intro ds
  induction ds with
  | nil => intro j l _ h; simp at h
  | cons d ds ih =>
    intro j l hp hj
    rw [List.pairwise_cons] at hp
    cases j with
    | zero =>
      simp at hj
      subst hj
      rw [List.countP_cons_of_neg (by rw [behS_ir]; simp), List.countP_eq_length.mpr hp.1]
      simp
    | succ j =>
      rw [List.getElem?_cons_succ] at hj
      have hl := List.mem_of_getElem? hj
      rw [List.countP_cons_of_neg (by rw [behS_as (hp.1 l hl)]; simp), ih j l hp.2 hj]
      simp; omega
/-- how many layers are ahead -/
def ahd (σ : Sc) (l : Nat) : Nat := (List.range 6).countP (behS σ l)
theorem ahd_at {σ : Sc} {j l : Nat} (h : (ordS σ)[j]? = some l) : ahd σ l = 5 - j := by
  unfold ahd
  rw [← (ordD_perm (rkO σ) 6).countP_eq, cnt_at σ (ordD (rkO σ) 6) j l (ordD_pw σ 6) h, ordD_len]
theorem ahd_inj {σ : Sc} {a b : Nat} (ha : a < 6) (hb : b < 6) (h : ahd σ a = ahd σ b) : a = b := by
  obtain ⟨i, hi⟩ := List.getElem?_of_mem ((ordS_mem σ a).mpr ha)
  obtain ⟨j, hj⟩ := List.getElem?_of_mem ((ordS_mem σ b).mpr hb)
  rw [ahd_at hi, ahd_at hj] at h
  have h1 := (List.getElem?_eq_some_iff.mp hi).1
  have h2 := (List.getElem?_eq_some_iff.mp hj).1
  rw [ordS_len] at h1 h2
  have : i = j := by omega
  subst this
  rw [hi] at hj
  cases hj
  rfl
theorem X8_ord13 {M : Mem} {σ : Sc} {i l : Nat} {k2 : Mem → Int32 → Int32 → Option (Int32 × Mem)} (hw : WFs σ) (h : SMr (M 164) σ) (hl : l < 6) (hi : i < 6) :
    ∀ (j m c fuel : Nat), m + j = 6 → j < fuel → c ≤ m → c + ((List.range 6).drop m).countP (behS σ l) = ahd σ l → f_X8_ordered_13 k2 fuel M (nI i) (nI l) (nI c) (nI m) = if ahd σ l = i then some (nI l, M) else k2 M (nI i) (nI l + 1) := by
  intro j
  induction j with
  | zero =>
    intro m c fuel hm hf hcm hc
    obtain ⟨fu, rfl⟩ : ∃ fu, fuel = fu + 1 := ⟨fuel - 1, by omega⟩
    have : m = 6 := by omega
    subst this
    have hc2 : c = ahd σ l := by
      rw [show (List.range 6).drop 6 = [] from rfl] at hc
      simpa using hc
    rw [f_X8_ordered_13, if_pos (show (6 : Int32) ≤ nI 6 from nI_le (a := 6) (b := 6) (by omega) (by decide))]
    unfold f_X8_ordered_44
    by_cases he : ahd σ l = i
    · rw [if_pos he, if_neg (fun q => q (by rw [hc2, he]))]
    · rw [if_neg he, if_pos (fun q => he (by rw [← hc2]; exact (nI_eq (by omega) (by omega)).mp q))]
  | succ j ih =>
    intro m c fuel hm hf hcm hc
    obtain ⟨fu, rfl⟩ : ∃ fu, fuel = fu + 1 := ⟨fuel - 1, by omega⟩
    rw [f_X8_ordered_13, if_neg (show ¬ (6 : Int32) ≤ nI m from nI_ge (b := 6) (by omega) (by decide)), X8_isBehind hw h hl (by omega), Option.bind_some]
    dsimp only
    have hdr : (List.range 6).drop m = m :: (List.range 6).drop (m + 1) := by
      rw [List.drop_eq_getElem_cons (by simp; omega)]; simp
    rw [hdr] at hc
    by_cases hb : behS σ l m = true
    · rw [if_pos hb, if_neg (by decide), nI_1, nI_1]
      rw [List.countP_cons_of_pos hb] at hc
      exact ih (m + 1) (c + 1) fu (by omega) (by omega) (by omega) (by omega)
    · rw [if_neg hb, if_pos rfl, nI_1, Int32.add_zero]
      rw [List.countP_cons_of_neg hb] at hc
      exact ih (m + 1) c fu (by omega) (by omega) (by omega) hc
theorem X8_ordered {M : Mem} {σ : Sc} {i l : Nat} (hw : WFs σ) (h : SMr (M 164) σ) (hi : (ordS σ).reverse[i]? = some l) : f_X8_ordered M (nI i) = some (nI l, M) := by
  have hi6 : i < 6 := by
    have := (List.getElem?_eq_some_iff.mp hi).1
    rw [List.length_reverse, ordS_len] at this
    exact this
  rw [List.getElem?_reverse (by rw [ordS_len]; exact hi6), ordS_len] at hi
  have hl : l < 6 := (ordS_mem σ l).mp (List.mem_of_getElem? hi)
  have hal : ahd σ l = i := by rw [ahd_at hi]; omega
  have key : ∀ (j t fuel : Nat), t + j = l → j < fuel → f_X8_ordered_2 fuel M (nI i) (nI t) = some (nI l, M) := by
    intro j
    induction j with
    | zero =>
      intro t fuel ht hf
      obtain ⟨fu, rfl⟩ : ∃ fu, fuel = fu + 1 := ⟨fuel - 1, by omega⟩
      have : t = l := by omega
      subst this
      rw [f_X8_ordered_2, if_neg (show ¬ (6 : Int32) ≤ nI t from nI_ge (b := 6) (by omega) (by decide))]
      have := X8_ord13 (k2 := f_X8_ordered_2 fu) hw h hl hi6 6 0 0 1000 rfl (by decide) (Nat.le_refl _) (by rw [List.drop_zero, Nat.zero_add]; rfl)
      rw [if_pos hal] at this
      exact this
    | succ j ih =>
      intro t fuel ht hf
      obtain ⟨fu, rfl⟩ : ∃ fu, fuel = fu + 1 := ⟨fuel - 1, by omega⟩
      rw [f_X8_ordered_2, if_neg (show ¬ (6 : Int32) ≤ nI t from nI_ge (b := 6) (by omega) (by decide))]
      have := X8_ord13 (k2 := f_X8_ordered_2 fu) hw h (l := t) (by omega) hi6 6 0 0 1000 rfl (by decide) (Nat.le_refl _) (by rw [List.drop_zero, Nat.zero_add]; rfl)
      rw [if_neg (fun q => by have := ahd_inj (σ := σ) (show t < 6 by omega) hl (q.trans hal.symm); omega), nI_1, ih (t + 1) fu (by omega) (by omega)] at this
      exact this
  unfold f_X8_ordered
  exact key l 0 1000 (by omega) (by omega)
