def VOK : Vl → Prop
  | .inl n => ∃ i, i ≤ 999 ∧ n = nI i
  | .inr _ => True
def GRs (p : List Nat) : Rs → Prop
  | .inl fs => fs ≠ []
  | .inr (v, _, _) => VOK v
theorem small99 {n : Int32} (h0 : 0 ≤ n) (h1 : n ≤ 99) : ∃ i, i ≤ 99 ∧ n = nI i := by
  obtain ⟨i, hi, rfl⟩ := nI_of (Int32.not_lt.mpr h0)
  exact ⟨i, (nI_leI hi (show 99 < 2 ^ 31 by decide)).mp h1, rfl⟩
theorem small999 {n : Int32} (h0 : 0 ≤ n) (h1 : n ≤ 999) : ∃ i, i ≤ 999 ∧ n = nI i := by
  obtain ⟨i, hi, rfl⟩ := nI_of (Int32.not_lt.mpr h0)
  exact ⟨i, (nI_leI hi (show 999 < 2 ^ 31 by decide)).mp h1, rfl⟩
theorem sum999 {a b : Int32} (ha : ∃ i, i ≤ 999 ∧ a = nI i) (hb : ∃ i, i ≤ 999 ∧ b = nI i) (h : a + b ≤ 999) : ∃ i, i ≤ 999 ∧ a + b = nI i := by
  obtain ⟨i, hi, rfl⟩ := ha
  obtain ⟨j, hj, rfl⟩ := hb
  rw [nI_add] at h ⊢
  exact ⟨i + j, (nI_leI (by omega) (show 999 < 2 ^ 31 by decide)).mp h, rfl⟩
theorem mkS_good {rs : Nat → List Nat → CU → Rs × CU} {σ : Sc} {l k : Nat} {p : List Nat} {cu : CU} (hw : WFs σ) (hent : ∃ e, sEn σ (8 * l + k) = some e ∧ e.1 ≠ 4) (hrs : ∀ o cu, o < 8 → GRs (p ++ [k]) (rs o (p ++ [k]) cu).1) :
    match (mkS rs σ l k p cu).1 with
    | .inl fs => fs ≠ []
    | .inr (v, _) => VOK v := by
  obtain ⟨⟨f, n, ot, its⟩, hent, hf4⟩ := hent
  obtain ⟨w1, w2, w3, w4, w5⟩ := hw.2.2 _ _ _ _ _ hent
  obtain ⟨i, hi, hn⟩ := small99 w4 w5
  have hr := hrs ot cu w2
  unfold mkS
  simp only [hent]
  by_cases f2 : f = 2
  · rw [if_pos f2]
    rcases hx : rs ot (p ++ [k]) cu with ⟨fs | ⟨v | v, sr, d⟩, cu'⟩
    · simp
    · rw [hx] at hr; exact hr
    · trivial
  · rw [if_neg f2]
    by_cases f3 : f = 3
    · rw [if_pos f3]
      rcases hx : rs ot (p ++ [k]) cu with ⟨fs | ⟨v | v, sr, d⟩, cu'⟩
      · simp
      · rw [hx] at hr
        dsimp only
        by_cases hle : v + n ≤ 999
        · rw [if_pos hle]; exact sum999 hr ⟨i, by omega, hn⟩ hle
        · rw [if_neg hle]; simp
      · simp
    · rw [if_neg f3]
      by_cases f1 : f = 1
      · rw [if_pos f1]; trivial
      · rw [if_neg f1]; exact ⟨i, by omega, hn⟩
theorem tkS_good {m l k : Nat} {acc : Option Acc} {v : Vl} {d : Int32} (hv : VOK v) (ha : ∀ a, acc = some a → VOK a.1) :
    match tkS m l k acc v d with
    | .inl fs => fs ≠ []
    | .inr a => VOK a.1 := by
  unfold tkS
  by_cases m2 : m = 2
  · rw [if_pos m2]
    rcases v with x | xs
    · rcases acc with _ | ⟨y | ys, s, d0⟩
      · dsimp only
        by_cases hle : x ≤ 999
        · rw [if_pos hle]; exact hv
        · rw [if_neg hle]; simp
      · dsimp only
        by_cases hle : y + x ≤ 999
        · rw [if_pos hle]; exact sum999 (ha _ rfl) hv hle
        · rw [if_neg hle]; simp
      · dsimp only
        by_cases hle : x ≤ 999
        · rw [if_pos hle]; exact hv
        · rw [if_neg hle]; simp
    · simp
  · rw [if_neg m2]
    by_cases m3 : m = 3
    · rw [if_pos m3]
      rcases v with x | xs
      · rcases acc with _ | ⟨y | ys, s, d0⟩
        · exact hv
        · dsimp only
          by_cases hle : x ≤ y
          · rw [if_pos hle]; exact ha _ rfl
          · rw [if_neg hle]; exact hv
        · exact hv
      · simp
    · rw [if_neg m3]
      by_cases m4 : m = 4
      · rw [if_pos m4]
        rcases v with x | xs
        · simp
        · rcases acc with _ | ⟨y | ys, s, d0⟩
          · dsimp only
            rcases mrgL [] xs with _ | zs
            · simp
            · trivial
          · dsimp only
            rcases mrgL [] xs with _ | zs
            · simp
            · trivial
          · dsimp only
            rcases mrgL ys xs with _ | zs
            · simp
            · trivial
      · rw [if_neg m4]; exact hv
theorem fldS_good {rs : Nat → List Nat → CU → Rs × CU} {σ : Sc} {k m : Nat} {p : List Nat} (hw : WFs σ) (hrs : ∀ o cu, o < 8 → GRs (p ++ [k]) (rs o (p ++ [k]) cu).1) :
    ∀ (ls : List Nat) (acc : Option Acc) (cu : CU), (∀ l ∈ ls, ∃ e, sEn σ (8 * l + k) = some e ∧ e.1 ≠ 4) → (ls = [] → acc ≠ none) → (∀ a, acc = some a → VOK a.1) → GRs p (fldS rs σ k p m ls acc cu).1 := by
  intro ls
  induction ls with
  | nil =>
    intro acc cu _ hne ha
    rcases acc with _ | a
    · exact absurd rfl (hne rfl)
    · exact ha a rfl
  | cons l ls ih =>
    intro acc cu hls hne ha
    have hm := mkS_good (cu := cu) hw (hls l List.mem_cons_self) hrs
    simp only [fldS]
    rcases hx : mkS rs σ l k p cu with ⟨fs | ⟨v, d⟩, cu'⟩
    · rw [hx] at hm; exact hm
    · rw [hx] at hm
      have ht := tkS_good (m := m) (l := l) (k := k) (d := d) hm ha
      dsimp only
      rcases hy : tkS m l k acc v d with fs | a
      · rw [hy] at ht; exact ht
      · rw [hy] at ht
        exact ih (some a) cu' (fun x hx => hls x (List.mem_cons_of_mem _ hx)) (fun _ => by simp) (fun b hb => by cases hb; exact ht)
theorem pick_mem {m : Nat} {os : List Nat} {x : Nat} (h : x ∈ pick m os) : x ∈ os := by
  unfold pick at h
  split at h
  · exact List.mem_of_mem_drop h
  · split at h
    · exact List.mem_of_mem_take h
    · exact h
theorem pick_ne {m : Nat} {os : List Nat} (h : os ≠ []) : pick m os ≠ [] := by
  unfold pick
  have : 0 < os.length := by cases os; exact absurd rfl h; simp
  split
  · intro q; simp at q; omega
  · split
    · intro q; simp at q; exact h q
    · exact h
theorem resS_good {σ : Sc} (hw : WFs σ) : ∀ (n : Nat) (p : List Nat), n + p.length = 12 → (∀ x ∈ p, x < 8) → p.Nodup → ∀ (k : Nat) (cu : CU), k < 8 → GRs p (resS σ n k p cu).1 := by
  intro n
  induction n with
  | zero =>
    intro p hn hp8 hnd k cu hk
    have : p.length ≤ 8 := nodup_le8 hp8 hnd
    omega
  | succ n ih =>
    intro p hn hp8 hnd k cu hk
    simp only [resS]
    split
    · simp [GRs]
    · split
      · simp [GRs]
      · rename_i hin
        split
        · simp [GRs]
        · rename_i hoe
          refine fldS_good hw (fun o cu2 ho => ih (p ++ [k]) (by simp; omega) (fun x hx => by
            rcases List.mem_append.mp hx with h | h
            · exact hp8 x h
            · rw [List.mem_singleton.mp h]; exact hk) (nodup_snoc hnd hin) o cu2 ho) _ none _ (fun l hl => (offS_mem σ k l (pick_mem hl)).2) (fun h => absurd h (pick_ne hoe)) (fun a ha => by cases ha)
theorem askS_good {σ : Sc} (hw : WFs σ) {k : Nat} (hk : k < 8) : GRs [] (askS σ k).1 := resS_good hw 12 [] rfl (fun x hx => by simp at hx) List.nodup_nil k (0, 0) hk
/-- the number of a key, or nothing -/
def nmS (σ : Sc) (k : Nat) : Int32 := match (askS σ k).1 with
  | .inr (.inl n, _, _) => n
  | _ => -9
theorem nmS_rng {σ : Sc} (hw : WFs σ) {k : Nat} (hk : k < 8) : nmS σ k = -9 ∨ ∃ i, i ≤ 999 ∧ nmS σ k = nI i := by
  have := askS_good hw hk
  unfold nmS
  rcases hx : (askS σ k).1 with fs | ⟨v | v, s, d⟩
  · exact Or.inl rfl
  · rw [hx] at this; exact Or.inr this
  · exact Or.inl rfl
theorem X1_numberOrNothing {M : Mem} {σ : Sc} {k : Nat} (h : RSo M 34 (askS σ k).1) : f_X1_numberOrNothing M 34 = some (nmS σ k, M) := by
  unfold f_X1_numberOrNothing nmS
  rcases hx : (askS σ k).1 with fs | ⟨v | v, s, d⟩
  · rw [hx] at h; rw [h.1, if_pos (by decide)]
  · rw [hx] at h; rw [h.1.1, h.1.2, if_neg (by decide)]
  · rw [hx] at h; rw [h.1.1, if_pos (by decide)]
theorem X8_numberOf {M : Mem} {σ : Sc} {k : Nat} (hw : WFs σ) (hk : k < 8) (h : SMr (M 164) σ) : ∃ M', f_X8_numberOf M (nI k) = some (nmS σ k, M') ∧ FRm 0 M M' := by
  obtain ⟨r, M', e1, e2, e3, e4, e5⟩ := X8_resolves hw hk h
  unfold f_X8_numberOf nmS
  rw [e1, Option.bind_some]
  dsimp only
  have h0 : ∀ r : Nat → Int32, rd 12 r 0 = some (r 0) := fun r => rd_nI (i := 0) (by decide) (by decide)
  rcases hx : (askS σ k).1 with fs | ⟨v | v, s, d⟩
  · rw [hx] at e3; rw [e3.1, if_pos rfl]; exact ⟨M', rfl, e2⟩
  · rw [hx] at e3; rw [e3.1, if_neg (by decide), h0, Option.bind_some, e3.2.1.1, if_neg (by decide), h0, Option.bind_some, e3.2.1.2]; exact ⟨M', rfl, e2⟩
  · rw [hx] at e3; rw [e3.1, if_neg (by decide), h0, Option.bind_some, e3.2.1.1, if_pos (by decide)]; exact ⟨M', rfl, e2⟩
