def offX (σ : Sc) (k l : Nat) : Bool := sOn σ l && (hasE σ l k && cntC σ k l)
def offM (σ : Sc) (k : Nat) : List Nat → Nat → Nat
  | [], b => b
  | l :: ls, b => offM σ k ls (if offX σ k l = true then (if gapE σ l k = true then 0 else b ||| 2 ^ l) else b)
theorem offM_lt (σ : Sc) (k : Nat) : ∀ (ls : List Nat) (b : Nat), (∀ l ∈ ls, l < 8) → b < 256 → offM σ k ls b < 256 := by
  intro ls
  induction ls with
  | nil => intro b _ h; exact h
  | cons l ls ih =>
    intro b hl hb
    simp only [offM]
    refine ih _ (fun x hx => hl x (List.mem_cons_of_mem _ hx)) ?_
    split
    · split
      · decide
      · exact or_lt hb (hl l List.mem_cons_self)
    · exact hb
theorem X8_offers_l {M : Mem} {σ : Sc} {k : Nat} (hw : WFs σ) (h : SMr (M 164) σ) (hk : k < 8) :
    ∀ (rest : List Nat) (i b fuel : Nat), rest.length < fuel → (ordS σ).reverse.drop i = rest → i + rest.length = 6 → b < 256 → f_X8_offers_4 fuel M (nI k) (nI b) (nI i) = some (nI (offM σ k rest b), M) := by
  intro rest
  induction rest with
  | nil =>
    intro i b fuel hf hd hi hb
    obtain ⟨fu, rfl⟩ : ∃ fu, fuel = fu + 1 := ⟨fuel - 1, by simp at hf; omega⟩
    simp at hi
    subst hi
    rw [f_X8_offers_4, if_pos (by decide)]
    rfl
  | cons l rest ih =>
    intro i b fuel hf hd hi hb
    obtain ⟨fu, rfl⟩ : ∃ fu, fuel = fu + 1 := ⟨fuel - 1, by simp at hf; omega⟩
    simp only [List.length_cons] at hf hi
    have hget : (ordS σ).reverse[i]? = some l := by
      have : ((ordS σ).reverse.drop i)[0]? = some l := by rw [hd]; rfl
      rw [List.getElem?_drop] at this
      simpa using this
    have hl : l < 6 := (ordS_mem σ l).mp (List.mem_reverse.mp (List.mem_of_getElem? hget))
    have hnx : ∀ b', b' < 256 → f_X8_offers_4 fu M (nI k) (nI b') (nI i + 1) = some (nI (offM σ k rest b'), M) := fun b' hb' => by
      rw [nI_1]
      exact ih (i + 1) b' fu (by omega) (by rw [← List.drop_drop, hd]; rfl) (by omega) hb'
    rw [f_X8_offers_4, if_neg (show ¬ (6 : Int32) ≤ nI i from nI_ge (b := 6) (by omega) (by decide)), X8_ordered hw h hget, Option.bind_some]
    dsimp only
    rw [m_a0, rd_nI (by omega) (by decide), Option.bind_some, (h.1 l hl).1]
    simp only [offM]
    by_cases c1 : sOn σ l = true
    · rw [if_pos c1, if_neg (by decide), X8_has hw h hl hk, Option.bind_some]
      dsimp only
      by_cases c2 : hasE σ l k = true
      · rw [if_pos c2, if_neg (by decide), X8_counts hw h hk 8 l hl (Or.inl (by omega)), Option.bind_some]
        dsimp only
        by_cases c3 : cntF σ k 8 l = true
        · have hx : offX σ k l = true := by unfold offX cntC; simp [c1, c2, c3]
          rw [if_pos c3, if_pos (by decide), X8_entryAt, Option.bind_some]
          dsimp only
          rw [Int32.add_zero, rd_nI (by omega) (by decide), Option.bind_some]
          obtain ⟨⟨f, n, o, its⟩, he⟩ := Option.isSome_iff_exists.mp c2
          rw [X8_type h hl hk he]
          simp only [four_t f (hw.2.2 _ _ _ _ _ he).1, if_pos hx]
          have hg : gapE σ l k = decide (f = 4) := by unfold gapE; rw [he]
          by_cases c4 : f = 4
          · rw [if_neg (fun q => q c4), if_pos (by rw [hg]; simp [c4])]
            exact hnx 0 (by decide)
          · rw [if_pos c4, if_neg (by rw [hg]; simp [c4]), Option.bind_some]
            have hor : nI b ||| 1 <<< (nI l &&& 31) = nI (b ||| 2 ^ l) := t_or b hb l (by omega)
            rw [hor]
            exact hnx _ (or_lt hb (by omega))
        · have hx : ¬ offX σ k l = true := by unfold offX cntC; simp [c3]
          rw [if_neg c3, if_neg (by decide), if_neg hx]
          exact hnx b hb
      · have hx : ¬ offX σ k l = true := by unfold offX; simp [c2]
        rw [if_neg c2, if_pos rfl, if_neg hx]
        exact hnx b hb
    · have hx : ¬ offX σ k l = true := by unfold offX; simp [c1]
      rw [if_neg c1, if_pos rfl, if_neg hx]
      exact hnx b hb
theorem offM_app (σ : Sc) (k : Nat) : ∀ (xs ys : List Nat) (b : Nat), offM σ k (xs ++ ys) b = offM σ k ys (offM σ k xs b) := by
  intro xs
  induction xs with
  | nil => intro ys b; rfl
  | cons x xs ih => intro ys b; simp only [List.cons_append, offM]; rw [ih]
def Rl (σ : Sc) (k : Nat) : List Nat → Nat
  | [] => 0
  | d :: ds => if offX σ k d = true then (if gapE σ d k = true then 0 else Rl σ k ds ||| 2 ^ d) else Rl σ k ds
theorem offM_rev (σ : Sc) (k : Nat) : ∀ D : List Nat, offM σ k D.reverse 0 = Rl σ k D := by
  intro D
  induction D with
  | nil => rfl
  | cons d ds ih =>
    rw [List.reverse_cons, offM_app, ih]
    simp only [offM, Rl]
def bitsN (acc : List Nat) : Nat := acc.foldr (fun l b => b ||| 2 ^ l) 0
theorem bitsN_tb (acc : List Nat) (j : Nat) : (bitsN acc).testBit j = decide (j ∈ acc) := by
  induction acc with
  | nil => simp [bitsN]
  | cons l acc ih =>
    show ((bitsN acc) ||| 2 ^ l).testBit j = _
    rw [tb_or, ih]
    by_cases h : l = j
    · subst h; simp
    · have : ¬ j = l := fun q => h q.symm
      simp [h, this]
theorem bitsN_lt (acc : List Nat) (h : ∀ l ∈ acc, l < 8) : bitsN acc < 256 := by
  induction acc with
  | nil => decide
  | cons l acc ih => exact or_lt (ih (fun x hx => h x (List.mem_cons_of_mem _ hx))) (h l List.mem_cons_self)
theorem bitsN_nI (acc : List Nat) (h : ∀ l ∈ acc, l < 8) : acc.foldr (fun l b => b ||| bitI l) 0 = nI (bitsN acc) := by
  induction acc with
  | nil => rfl
  | cons l acc ih =>
    have h2 : ∀ x ∈ acc, x < 8 := fun x hx => h x (List.mem_cons_of_mem _ hx)
    show acc.foldr (fun l b => b ||| bitI l) 0 ||| bitI l = nI (bitsN acc ||| 2 ^ l)
    rw [ih h2, t_or _ (bitsN_lt acc h2) l (h l List.mem_cons_self)]
theorem rk_tie {σ : Sc} {l m : Nat} (hl : l < 6) (h4 : sKd σ l = 4) (h : behS σ m l = true) : rkO σ l < rkO σ m := by
  unfold behS at h
  simp only [decide_eq_true_eq] at h
  rcases h with h | ⟨h1, h2⟩
  · exact h
  · exfalso
    unfold rkO rkS at h1
    rw [h4] at h1
    simp at h1
    split at h1
    · omega
    · split at h1
      · omega
      · split at h1
        · omega
        · split at h1 <;> omega
theorem cntS_C {σ : Sc} (hw : WFs σ) {k l : Nat} {pre rest acc : List Nat} (hD : ordS σ = pre ++ l :: rest) (hacc : ∀ x, x ∈ acc ↔ x ∈ pre ∧ offX σ k x = true ∧ gapE σ x k = false) : cntS σ l k acc = cntC σ k l := by
  have hl : l < 6 := (ordS_mem σ l).mp (by rw [hD]; simp)
  have hpw := ordD_pw σ 6
  have hD' : ordD (rkO σ) 6 = pre ++ l :: rest := hD
  rw [hD', List.pairwise_append, List.pairwise_cons] at hpw
  obtain ⟨-, ⟨p2, -⟩, p3⟩ := hpw
  unfold cntS
  by_cases c4 : sKd σ l = 4
  · rw [if_pos c4]
    rw [Bool.eq_iff_iff, cntC_weak hw hl c4, List.isEmpty_iff]
    constructor
    · rintro rfl ⟨m, hm, hu, hc⟩
      unfold upS at hu
      simp only [Bool.and_eq_true, decide_eq_true_eq, Bool.not_eq_true'] at hu
      obtain ⟨⟨⟨u1, u2⟩, u3⟩, u4⟩ := hu
      have hmD : m ∈ ordS σ := (ordS_mem σ m).mpr hm
      rw [hD] at hmD
      have hmp : m ∈ pre := by
        rcases List.mem_append.mp hmD with h | h
        · exact h
        · exfalso
          rcases List.mem_cons.mp h with rfl | h
          · omega
          · have := p2 m h
            unfold behS at this
            simp only [decide_eq_true_eq] at this
            omega
      have := (hacc m).mpr ⟨hmp, by unfold offX; simp [u2, u3, hc], u4⟩
      simp at this
    · intro hno
      apply List.eq_nil_iff_forall_not_mem.mpr
      intro m hm
      obtain ⟨h1, h2, h3⟩ := (hacc m).mp hm
      unfold offX at h2
      simp only [Bool.and_eq_true] at h2
      have hmD : m < 6 := (ordS_mem σ m).mp (by rw [hD]; simp [h1])
      refine hno ⟨m, hmD, ?_, h2.2.2⟩
      unfold upS
      simp only [Bool.and_eq_true, decide_eq_true_eq, Bool.not_eq_true']
      exact ⟨⟨⟨rk_tie hl c4 (p3 m h1 l List.mem_cons_self), h2.1⟩, h2.2.1⟩, h3⟩
  · rw [if_neg c4]
    unfold cntC
    rw [cntF]
    by_cases c5 : sKd σ l = 5
    · rw [if_pos c5, if_pos c5]
    · rw [if_neg c5, if_neg c5, if_neg c4]
theorem offG_bits {σ : Sc} (hw : WFs σ) (k : Nat) : ∀ (D pre acc : List Nat), ordS σ = pre ++ D → (∀ x, x ∈ acc ↔ x ∈ pre ∧ offX σ k x = true ∧ gapE σ x k = false) → bitsN (offG σ k D acc) = bitsN acc ||| Rl σ k D := by
  intro D
  induction D with
  | nil => intro pre acc _ _; simp [offG, Rl]
  | cons l D ih =>
    intro pre acc hD hacc
    have hc := cntS_C hw hD hacc
    have hnd : (pre ++ l :: D).Nodup := by rw [← hD]; exact ordD_nodup _ _
    have step0 : (offX σ k l = false ∨ gapE σ l k = true) → ∀ x, x ∈ acc ↔ x ∈ pre ++ [l] ∧ offX σ k x = true ∧ gapE σ x k = false := by
      intro hx x
      rw [hacc]
      constructor
      · rintro ⟨a, b⟩; exact ⟨List.mem_append_left _ a, b⟩
      · rintro ⟨a, b, c⟩
        refine ⟨?_, b, c⟩
        rcases List.mem_append.mp a with a | a
        · exact a
        · rw [List.mem_singleton.mp a] at b c
          rcases hx with hx | hx
          · rw [b] at hx; cases hx
          · rw [c] at hx; cases hx
    have hD2 : ordS σ = (pre ++ [l]) ++ D := by rw [hD]; simp
    simp only [offG, Rl]
    rcases he : sEn σ (8 * l + k) with _ | e
    · have hx : offX σ k l = false := by unfold offX hasE; rw [he]; simp
      rw [if_neg (by rw [hx]; simp)]
      exact ih _ acc hD2 (step0 (Or.inl hx))
    · have hh : hasE σ l k = true := by unfold hasE; rw [he]; rfl
      have hg : gapE σ l k = decide (e.1 = 4) := by unfold gapE; rw [he]
      by_cases hx : offX σ k l = true
      · have hx2 := hx
        unfold offX at hx2
        simp only [Bool.and_eq_true] at hx2
        rw [if_pos hx]
        dsimp only
        rw [if_pos ⟨hx2.1, by rw [hc]; exact hx2.2.2⟩]
        by_cases h4 : e.1 = 4
        · rw [if_pos h4, if_pos (by rw [hg]; simp [h4]), Nat.or_zero]
        · rw [if_neg h4, if_neg (by rw [hg]; simp [h4])]
          rw [ih (pre ++ [l]) (l :: acc) hD2 (fun x => by
            rw [List.mem_cons, hacc]
            constructor
            · rintro (rfl | ⟨a, b⟩)
              · exact ⟨by simp, hx, by rw [hg]; simp [h4]⟩
              · exact ⟨List.mem_append_left _ a, b⟩
            · rintro ⟨a, b⟩
              rcases List.mem_append.mp a with a | a
              · exact Or.inr ⟨a, b⟩
              · exact Or.inl (List.mem_singleton.mp a))]
          show (bitsN acc ||| 2 ^ l) ||| Rl σ k D = _
          rw [Nat.or_assoc, Nat.or_comm (2 ^ l)]
      · rw [if_neg hx]
        dsimp only
        rw [if_neg (by
          rintro ⟨a, b⟩
          apply hx
          unfold offX
          rw [a, hh, ← hc, b]; rfl)]
        exact ih _ acc hD2 (step0 (Or.inl (by simpa using hx)))
theorem offM_S {σ : Sc} (hw : WFs σ) (k : Nat) : offM σ k (ordS σ).reverse 0 = bitsN (offS σ k) := by
  rw [offM_rev]
  unfold offS
  rw [offG_bits hw k (ordS σ) [] [] rfl (fun x => by simp)]
  show _ = 0 ||| _
  rw [Nat.zero_or]
theorem X8_offers {M : Mem} {σ : Sc} {k : Nat} (hw : WFs σ) (h : SMr (M 164) σ) (hk : k < 8) : f_X8_offers M (nI k) = some (nI (bitsN (offS σ k)), M) := by
  unfold f_X8_offers
  rw [← offM_S hw k]
  exact X8_offers_l hw h hk (ordS σ).reverse 0 0 1000 (by simp [ordS_len]) rfl (by simp [ordS_len]) (by decide)
theorem offG_sub (σ : Sc) (k : Nat) : ∀ (D acc : List Nat), ∃ s, offG σ k D acc = s ++ acc ∧ s.Sublist D.reverse := by
  intro D
  induction D with
  | nil => intro acc; exact ⟨[], rfl, List.Sublist.refl _⟩
  | cons l D ih =>
    intro acc
    rw [List.reverse_cons]
    have sk : ∃ s, offG σ k D acc = s ++ acc ∧ s.Sublist (D.reverse ++ [l]) := by
      obtain ⟨s, e1, e2⟩ := ih acc
      exact ⟨s, e1, e2.trans (List.sublist_append_left _ _)⟩
    simp only [offG]
    split
    · exact sk
    · split
      · split
        · exact ⟨[], rfl, List.nil_sublist _⟩
        · obtain ⟨s, e1, e2⟩ := ih (l :: acc)
          exact ⟨s ++ [l], by rw [e1]; simp, e2.append (List.Sublist.refl _)⟩
      · exact sk
theorem filt_sub {s L : List Nat} (h : s.Sublist L) : L.Nodup → L.filter (fun x => decide (x ∈ s)) = s := by
  induction h with
  | slnil => intro _; rfl
  | @cons s L a h ih =>
    intro hn
    rw [List.nodup_cons] at hn
    rw [List.filter_cons_of_neg (by simp; exact fun q => hn.1 (h.subset q))]
    exact ih hn.2
  | @cons_cons s L a h ih =>
    intro hn
    rw [List.nodup_cons] at hn
    rw [List.filter_cons_of_pos (by simp)]
    congr 1
    conv => rhs; rw [← ih hn.2]
    apply List.filter_congr
    intro x hx
    have : x ≠ a := fun q => hn.1 (q ▸ hx)
    simp [this]
theorem offS_filt (σ : Sc) (k : Nat) : (ordS σ).reverse.filter (fun x => decide (x ∈ offS σ k)) = offS σ k := by
  obtain ⟨s, e1, e2⟩ := offG_sub σ k (ordS σ) []
  have : offS σ k = s := by unfold offS; rw [e1, List.append_nil]
  rw [this]
  exact filt_sub e2 ((List.reverse_perm _).nodup_iff.mpr (ordD_nodup _ _))
