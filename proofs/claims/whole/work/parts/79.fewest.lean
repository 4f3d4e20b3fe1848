theorem offG_ons (σ : Sc) (p : Nat → Bool) (k : Nat) : ∀ (ls acc : List Nat), (∀ l ∈ ls, p l = sOn σ l) → offG (setOns σ p) k ls acc = offG σ k ls acc := by
  intro ls
  induction ls with
  | nil => intro acc _; rfl
  | cons l ls ih =>
    intro acc h
    have h1 := h l (by simp)
    have h2 : ∀ a, offG (setOns σ p) k ls a = offG σ k ls a := fun a => ih a (fun x hx => h x (by simp [hx]))
    simp only [offG]
    rw [show sEn (setOns σ p) (8 * l + k) = sEn σ (8 * l + k) from rfl, show sOn (setOns σ p) l = sOn σ l from h1, show cntS (setOns σ p) l k acc = cntS σ l k acc from rfl]
    simp only [h2]
theorem offS_ons (σ : Sc) (p : Nat → Bool) (h : ∀ l, l < 6 → p l = sOn σ l) (k : Nat) : offS (setOns σ p) k = offS σ k := by
  unfold offS
  rw [show ordS (setOns σ p) = ordS σ from rfl]
  exact offG_ons σ p k _ _ (fun l hl => h l ((ordS_mem σ l).mp hl))
theorem fldS_ons (rs : Nat → List Nat → CU → Rs × CU) (σ : Sc) (p : Nat → Bool) (k : Nat) (q : List Nat) (m : Nat) : ∀ (ls : List Nat) (acc : Option Acc) (cu : CU), fldS rs (setOns σ p) k q m ls acc cu = fldS rs σ k q m ls acc cu := by
  intro ls
  induction ls with
  | nil => intro acc cu; cases acc <;> rfl
  | cons l ls ih =>
    intro acc cu
    simp only [fldS]
    rw [show mkS rs (setOns σ p) l k q cu = mkS rs σ l k q cu from rfl]
    simp only [ih]
theorem resS_ons (σ : Sc) (p : Nat → Bool) (h : ∀ l, l < 6 → p l = sOn σ l) : ∀ n, resS (setOns σ p) n = resS σ n := by
  intro n
  induction n with
  | zero => rfl
  | succ n ih =>
    funext k q cu
    simp only [resS]
    rw [offS_ons σ p h, ih, fldS_ons]
    rfl
theorem askS_ons (σ : Sc) (p : Nat → Bool) (h : ∀ l, l < 6 → p l = sOn σ l) (k : Nat) : askS (setOns σ p) k = askS σ k := by
  unfold askS; rw [resS_ons σ p h]
def prS (σ τ : Sc) : Nat → Nat → Bool
  | 0, _ => true
  | m + 1, i => likeS (askS σ i).1 (askS τ i).1 && prS σ τ m (i + 1)
theorem prS_t {σ τ : Sc} {m i : Nat} (h : likeS (askS σ i).1 (askS τ i).1 = true) : prS σ τ (m + 1) i = prS σ τ m (i + 1) := by
  simp only [prS]; rw [h]; rfl
theorem prS_f {σ τ : Sc} {m i : Nat} (h : ¬ likeS (askS σ i).1 (askS τ i).1 = true) : ¬ prS σ τ (m + 1) i = true := by
  simp only [prS]; simp [h]
abbrev bitf (s : Nat) : Nat → Bool := fun l => s.testBit l
def presS (σ : Sc) (s : Nat) : Bool := prS σ (setOns σ (bitf s)) 8 0
theorem prS_self {σ τ : Sc} (h : ∀ k, askS τ k = askS σ k) : ∀ m i, prS σ τ m i = true := by
  intro m
  induction m with
  | zero => intro i; rfl
  | succ m ih =>
    intro i
    simp only [prS]
    rw [ih, h, likeS_enc]; simp
theorem pres_on (σ : Sc) : presS σ (mskB (sOn σ) 6) = true := by
  refine prS_self (fun k => askS_ons σ _ (fun l hl => ?_) k) 8 0
  show (mskB (sOn σ) 6).testBit l = sOn σ l
  rw [mskB_tb]; simp [hl]
theorem msk6_lt : ∀ (p : Nat → Bool), mskB p 6 < 64 := by
  intro p
  refine Nat.lt_pow_two_of_testBit (n := 6) _ (fun i hi => ?_)
  rw [mskB_tb]; simp; omega
def finS (σ : Sc) (z : Nat) : Nat → Nat → Option Nat
  | 0, _ => none
  | m + 1, s => if pcN s = z ∧ presS σ s = true then some s else finS σ z m (s + 1)
def foutS (σ : Sc) : Nat → Nat → Option Nat
  | 0, _ => none
  | m + 1, z => match finS σ z 64 0 with
    | some s => some s
    | none => foutS σ m (z + 1)
theorem finS_some {σ : Sc} {z : Nat} : ∀ {m i s : Nat}, finS σ z m i = some s → i ≤ s ∧ s < i + m ∧ pcN s = z ∧ presS σ s = true ∧ ∀ t, i ≤ t → t < s → pcN t = z → ¬ presS σ t = true := by
  intro m
  induction m with
  | zero => intro i s h; cases h
  | succ m ih =>
    intro i s h
    simp only [finS] at h
    by_cases hc : pcN i = z ∧ presS σ i = true
    · rw [if_pos hc] at h; cases h
      exact ⟨by omega, by omega, hc.1, hc.2, fun t h1 h2 => absurd h1 (by omega)⟩
    · rw [if_neg hc] at h
      obtain ⟨a, b, c, d, e⟩ := ih h
      refine ⟨by omega, by omega, c, d, fun t h1 h2 h3 h4 => ?_⟩
      by_cases ht : t = i
      · subst ht; exact hc ⟨h3, h4⟩
      · exact e t (by omega) h2 h3 h4
theorem finS_none {σ : Sc} {z : Nat} : ∀ {m i : Nat}, finS σ z m i = none → ∀ t, i ≤ t → t < i + m → pcN t = z → ¬ presS σ t = true := by
  intro m
  induction m with
  | zero => intro i h t h1 h2; omega
  | succ m ih =>
    intro i h t h1 h2 h3 h4
    simp only [finS] at h
    by_cases hc : pcN i = z ∧ presS σ i = true
    · rw [if_pos hc] at h; cases h
    · rw [if_neg hc] at h
      by_cases ht : t = i
      · subst ht; exact hc ⟨h3, h4⟩
      · exact ih h t (by omega) (by omega) h3 h4
/-- the least -/
def Bst (σ : Sc) (i b : Nat) : Prop := b < 64 ∧ presS σ b = true ∧ ∀ t, i ≤ t → t < 64 → presS σ t = true → pcN b < pcN t ∨ (pcN b = pcN t ∧ b ≤ t)
theorem foutS_some {σ : Sc} : ∀ {m z s : Nat}, foutS σ m z = some s → (∀ t, t < 64 → presS σ t = true → z ≤ pcN t) → Bst σ 0 s := by
  intro m
  induction m with
  | zero => intro z s h; cases h
  | succ m ih =>
    intro z s h hz
    simp only [foutS] at h
    rcases hx : finS σ z 64 0 with _ | x
    · rw [hx] at h
      refine ih h (fun t h1 h2 => ?_)
      have := hz t h1 h2
      have h4 := finS_none hx t (by omega) (by omega)
      by_cases h5 : pcN t = z
      · exact absurd h2 (h4 h5)
      · omega
    · rw [hx] at h; cases h
      obtain ⟨a, b, c, d, e⟩ := finS_some hx
      refine ⟨by omega, d, fun t _ h1 h2 => ?_⟩
      have h3 := hz t h1 h2
      by_cases h5 : pcN t = z
      · right
        refine ⟨by omega, ?_⟩
        by_cases h6 : t < s
        · exact absurd h2 (e t (by omega) h6 h5)
        · omega
      · left; omega
theorem foutS_none {σ : Sc} : ∀ {m z : Nat}, foutS σ m z = none → ∀ t, t < 64 → z ≤ pcN t → pcN t < z + m → ¬ presS σ t = true := by
  intro m
  induction m with
  | zero => intro z h t _ h1 h2; omega
  | succ m ih =>
    intro z h t h1 h2 h3
    simp only [foutS] at h
    rcases hx : finS σ z 64 0 with _ | x
    · rw [hx] at h
      by_cases h5 : pcN t = z
      · exact finS_none hx t (by omega) (by omega) h5
      · exact ih h t h1 (by omega) (by omega)
    · rw [hx] at h; cases h
theorem pc6 : ∀ t, t < 64 → pcN t < 7 := by decide +kernel
theorem few_ex (σ : Sc) : ∃ b, foutS σ 7 0 = some b ∧ Bst σ 0 b := by
  rcases hx : foutS σ 7 0 with _ | b
  · exact absurd (pres_on σ) (foutS_none hx _ (msk6_lt _) (by omega) (by have := pc6 _ (msk6_lt (sOn σ)); omega))
  · exact ⟨b, rfl, foutS_some hx (fun _ _ _ => by omega)⟩
theorem Bst.eq {σ : Sc} {a b : Nat} (h : Bst σ 0 a) (g : Bst σ 0 b) : a = b := by
  have h1 := h.2.2 b (by omega) g.1 g.2.1
  have h2 := g.2.2 a (by omega) h.1 h.2.1
  omega
theorem Bst.step {σ : Sc} {i b : Nat} (h : Bst σ (i + 1) b) (hi : i < 64) : Bst σ i (if pcN i ≤ pcN b ∧ presS σ i = true then i else b) := by
  by_cases hc : pcN i ≤ pcN b ∧ presS σ i = true
  · rw [if_pos hc]
    refine ⟨hi, hc.2, fun t h1 h2 h3 => ?_⟩
    by_cases ht : t = i
    · subst ht; right; exact ⟨rfl, by omega⟩
    · have := h.2.2 t (by omega) h2 h3
      omega
  · rw [if_neg hc]
    refine ⟨h.1, h.2.1, fun t h1 h2 h3 => ?_⟩
    by_cases ht : t = i
    · subst ht
      left
      by_cases h5 : pcN t ≤ pcN b
      · exact absurd ⟨h5, h3⟩ hc
      · omega
    · exact h.2.2 t (by omega) h2 h3
/-! the class -/
theorem X7_isPresentBy {M : Mem} {σ : Sc} {s : Nat} {q : Nat → Bool} (hw : WFs σ) (hs : s < 64) (h : SCr M 21 (setOns σ q)) (hk : KPa M σ) : ∃ M', f_X7_isPresentBy M (nI s) = some (if presS σ s = true then 1 else 0, M') ∧ SCr M' 21 (setOns σ (bitf s)) ∧ KPa M' σ ∧ CF M M' := by
  have key : ∀ (m i : Nat) (M : Mem) (fuel : Nat), i + m = 8 → m < fuel → SCr M 21 (setOns σ (bitf s)) → KPa M σ → ∃ M', f_X7_isPresentBy_10 fuel M (nI i) = some (if prS σ (setOns σ (bitf s)) m i = true then 1 else 0, M') ∧ SCr M' 21 (setOns σ (bitf s)) ∧ KPa M' σ ∧ CF M M' := by
    intro m
    induction m with
    | zero =>
      intro i M fuel him hf h hkp
      obtain ⟨fu, rfl⟩ : ∃ fu, fuel = fu + 1 := ⟨fuel - 1, by omega⟩
      rw [f_X7_isPresentBy_10, if_pos (show (8 : Int32) ≤ nI i from nI_le (a := 8) (by omega) (by omega))]
      exact ⟨M, rfl, h, hkp, CF.rf⟩
    | succ m ih =>
      intro i M fuel him hf h hkp
      obtain ⟨fu, rfl⟩ : ∃ fu, fuel = fu + 1 := ⟨fuel - 1, by omega⟩
      have hi : i < 8 := by omega
      obtain ⟨M1, a1, a2, a3, a4⟩ := asks7 h (hw.on _) hi
      have hk1 : KPa M1 σ := hkp.fr (fun j x y => a2 j (by omega))
      rw [f_X7_isPresentBy_10, if_neg (show ¬ (8 : Int32) ≤ nI i from nI_ge (b := 8) (by omega) (by decide)), rdO_nI hi (by decide), Option.bind_some, a1, Option.bind_some, X1_isLike hi (hk1 i hi) (KPo.of (hw.on _) hi a3.1), Option.bind_some, nI_1]
      by_cases hb : likeS (askS σ i).1 (askS (setOns σ (bitf s)) i).1 = true
      · obtain ⟨M', f1, f2, f3, f4⟩ := ih (i + 1) M1 fu (by omega) (by omega) a4 hk1
        rw [if_pos hb, if_pos (show ¬ (1 : Int32) = 0 by decide), prS_t hb]
        exact ⟨M', f1, f2, f3, a2.cf.tr f4⟩
      · rw [if_neg hb, if_neg (show ¬ ¬ (0 : Int32) = 0 by decide), if_neg (prS_f hb)]
        exact ⟨M1, rfl, a4, hk1, a2.cf⟩
  unfold f_X7_isPresentBy
  rw [wrf_eq, Option.bind_some]
  have h1 : SCr (wr M 21 0 (nI s)) 21 (setOns σ (bitf s)) := SCr.ons (σ := setOns σ q) h (by rw [wr_ap, if_pos ⟨rfl, rfl⟩, msk_bits hs]) (fun j a b => wr_ne (by omega))
  obtain ⟨M', f1, f2, f3, f4⟩ := key 8 0 _ 1000 rfl (by decide) h1 (hk.fr (fun j x y => wr_ne (by omega)))
  exact ⟨M', f1, f2, f3, (CF.wt (by decide) (by decide)).tr f4⟩
theorem X7_fewest_25 {σ : Sc} (hw : WFs σ) {z : Nat} (hz : z < 8) (K : Mem → Int32 → Option (Int32 × Mem)) : ∀ (m i : Nat) (M : Mem) (fuel : Nat) (q : Nat → Bool), i + m = 64 → m < fuel → SCr M 21 (setOns σ q) → KPa M σ → ∃ M' q', f_X7_fewest_25 K fuel M (nI z) (nI i) = (match finS σ z m i with | some s => some (nI s, M') | none => K M' (nI (z + 1))) ∧ SCr M' 21 (setOns σ q') ∧ KPa M' σ ∧ CF M M' := by
  intro m
  induction m with
  | zero =>
    intro i M fuel q him hf h hkp
    obtain ⟨fu, rfl⟩ : ∃ fu, fuel = fu + 1 := ⟨fuel - 1, by omega⟩
    rw [f_X7_fewest_25, if_pos (show (64 : Int32) ≤ nI i from nI_le (a := 64) (by omega) (by omega)), nI_1]
    exact ⟨M, q, rfl, h, hkp, CF.rf⟩
  | succ m ih =>
    intro i M fuel q him hf h hkp
    obtain ⟨fu, rfl⟩ : ∃ fu, fuel = fu + 1 := ⟨fuel - 1, by omega⟩
    have hi : i < 64 := by omega
    rw [f_X7_fewest_25, if_neg (show ¬ (64 : Int32) ≤ nI i from nI_ge (b := 64) (by omega) (by decide)), J6_bitCount (by omega), Option.bind_some]
    dsimp only
    simp only [finS]
    have h7 := pc6 i hi
    by_cases hp : pcN i = z
    · rw [if_neg (by rw [hp]; simp)]
      obtain ⟨M1, a1, a2, a3, a4⟩ := X7_isPresentBy hw hi h hkp
      rw [a1, Option.bind_some]
      dsimp only
      by_cases hb : presS σ i = true
      · rw [if_pos hb, if_neg (by decide), if_pos ⟨hp, hb⟩]
        exact ⟨M1, _, rfl, a2, a3, a4⟩
      · obtain ⟨M', q', f1, f2, f3, f4⟩ := ih (i + 1) M1 fu _ (by omega) (by omega) a2 a3
        rw [if_neg hb, if_pos rfl, if_neg (fun x => hb x.2), nI_1]
        exact ⟨M', q', f1, f2, f3, a4.tr f4⟩
    · obtain ⟨M', q', f1, f2, f3, f4⟩ := ih (i + 1) M fu _ (by omega) (by omega) h hkp
      rw [if_pos (fun x => hp ((nI_eq (by omega) (by omega)).mp x)), if_neg (fun x => hp x.1), nI_1]
      exact ⟨M', q', f1, f2, f3, f4⟩
theorem X7_fewest_17 {σ : Sc} (hw : WFs σ) : ∀ (m z : Nat) (M : Mem) (fuel : Nat) (q : Nat → Bool), z + m = 7 → m < fuel → SCr M 21 (setOns σ q) → KPa M σ → ∃ M', f_X7_fewest_17 fuel M (nI z) = some ((match foutS σ m z with | some s => nI s | none => -9), M') ∧ CF M M' := by
  intro m
  induction m with
  | zero =>
    intro z M fuel q him hf h hkp
    obtain ⟨fu, rfl⟩ : ∃ fu, fuel = fu + 1 := ⟨fuel - 1, by omega⟩
    rw [f_X7_fewest_17, if_pos (show (6 : Int32) < nI z from nI_lt (a := 6) (by omega) (by omega))]
    exact ⟨M, rfl, CF.rf⟩
  | succ m ih =>
    intro z M fuel q him hf h hkp
    obtain ⟨fu, rfl⟩ : ∃ fu, fuel = fu + 1 := ⟨fuel - 1, by omega⟩
    obtain ⟨M1, q', e1, e2, e3, e4⟩ := X7_fewest_25 hw (z := z) (by omega) (f_X7_fewest_17 fu) 64 0 M 1000 q rfl (by decide) h hkp
    have e1' : f_X7_fewest_25 (f_X7_fewest_17 fu) 1000 M (nI z) 0 = _ := e1
    rw [f_X7_fewest_17, if_neg (show ¬ (6 : Int32) < nI z from nI_nlt (a := 6) (by omega) (by omega)), e1']
    simp only [foutS]
    rcases hx : finS σ z 64 0 with _ | s
    · obtain ⟨M', f1, f2⟩ := ih (z + 1) M1 fu q' (by omega) (by omega) e2 e3
      exact ⟨M', f1, e4.tr f2⟩
    · exact ⟨M1, rfl, e4⟩
