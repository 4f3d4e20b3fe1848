/-! the class: gathering offers, small methods of an Outcome -/
/-- rows that a call may change: those of the resolver -/
def FRr (M M' : Mem) : Prop := ∀ i, (i < 31 ∨ 97 ≤ i) → M' i = M i
theorem FRr.rf {M : Mem} : FRr M M := fun _ _ => rfl
theorem FRr.tr {A B C : Mem} (h : FRr A B) (g : FRr B C) : FRr A C := fun i hi => (g i hi).trans (h i hi)
theorem FRr.wr {M : Mem} {i k : Nat} {x : Int32} (h : 31 ≤ i) (h2 : i < 97) : FRr M (wr M i k x) := fun j hj => wr_ne (by omega)
theorem FRr.scr {M M' : Mem} {s : Nat} {σ : Sc} (h : FRr M M') (hs : okS s) (g : SCr M s σ) : SCr M' s σ := g.fr (fun i h1 h2 => h i (Or.inl (by rcases hs with rfl | rfl | rfl <;> omega)))
theorem okS_lt {s : Nat} (h : okS s) : 0 < s ∧ s < 22 := by rcases h with rfl | rfl | rfl <;> omega
theorem kd4_t : ∀ k, k < 6 → (nI k = 4 ↔ k = 4) ∧ (nI k = 5 ↔ k = 5) := by decide +kernel
theorem len_t : ∀ n, n < 8 → (nI n = 0 ↔ n = 0) := by decide +kernel
theorem isEmpty_len (acc : List Nat) : acc.isEmpty = decide (acc.length = 0) := by cases acc <;> simp
theorem X2_counts {M : Mem} {s l k : Nat} {σ : Sc} {acc : List Nat} (hs : okS s) (h0 : M 31 0 = nI s) (h : SCr M s σ) (hw : WFs σ) (hl : l < 6) (hk : k < 8) (ha : acc.length < 8) : f_X2_counts M (nI l) (nI k) (nI acc.length) = some (if cntS σ l k acc = true then 1 else 0, M) := by
  unfold f_X2_counts cntS
  obtain ⟨e1, e2⟩ := h.2.1 l hl
  obtain ⟨w1, w2⟩ := hw.1 l
  obtain ⟨t4, t5⟩ := kd4_t _ w1
  rw [h0, rsc_eq hs, Option.bind_some, rd_nI hl (by decide), Option.bind_some, e1]
  simp only [t4, t5]
  by_cases c4 : sKd σ l = 4
  · rw [if_pos c4, if_pos c4, isEmpty_len]
    simp only [len_t _ ha]
    by_cases ce : acc.length = 0
    · rw [if_neg (by simp [ce]), if_pos (by simp [ce])]; rfl
    · rw [if_pos ce, if_neg (by simp [ce])]; rfl
  · rw [if_neg c4, if_neg c4]
    by_cases c5 : sKd σ l = 5
    · rw [if_pos c5, if_pos c5, Option.bind_some, rd_nI hl (by decide), Option.bind_some, e2]
      by_cases cf : k ≤ sFg σ l
      · rw [if_neg (nI_nlt cf (by omega)), if_pos (by simp [cf])]; rfl
      · rw [if_pos (nI_lt (by omega) (by omega)), if_neg (by simp [cf])]; rfl
    · rw [if_neg c5, if_neg c5, if_pos rfl]; rfl
/-- the offers so far in an Outcome: latest first in the list, first in the row -/
def GA (M : Mem) (o : Nat) (acc : List Nat) : Prop := M o 8 = nI acc.length ∧ (∀ i l, acc[i]? = some l → M (o + 6) (acc.length - 1 - i) = nI l) ∧ M o 9 = acc.foldr (fun l b => b ||| bitI l) 0
theorem X1_addOffer {M : Mem} {o l : Nat} {acc : List Nat} (h : GA M o acc) (ha : acc.length < 6) : ∃ M', f_X1_addOffer M o (nI l) = some M' ∧ GA M' o (l :: acc) ∧ (∀ i, i ≠ o → i ≠ o + 6 → M' i = M i) ∧ (∀ j, j ≠ 8 → j ≠ 9 → M' o j = M o j) := by
  obtain ⟨h1, h2, h3⟩ := h
  refine ⟨wr (wr (wr M (o + 6) acc.length (nI l)) o 8 (nI (acc.length + 1))) o 9 (acc.foldr (fun l b => b ||| bitI l) 0 ||| bitI l), ?_, ⟨?_, fun i x hx => ?_, ?_⟩, fun i hi hi6 => ?_, fun j hj hj9 => ?_⟩
  · unfold f_X1_addOffer
    rw [h1, wra_nI ha (by decide), Option.bind_some, wrf_eq, Option.bind_some, wrf_eq, Option.bind_some]
    congr 2
    · congr 1
      rw [wr_ap, if_neg (by omega), h1, nI_1]
    · rw [wr_ap, if_neg (by omega), wr_ap, if_neg (by omega), h3]
  · rw [wr_ap, if_neg (by omega), wr_ap, if_pos ⟨rfl, rfl⟩]; rfl
  · rw [wr_ap, if_neg (by omega), wr_ap, if_neg (by omega), wr_ap]
    cases i with
    | zero =>
      simp at hx
      subst hx
      rw [if_pos (by simp)]
    | succ i =>
      rw [List.getElem?_cons_succ] at hx
      have hl := (List.getElem?_eq_some_iff.mp hx).1
      simp only [List.length_cons]
      rw [if_neg (by omega), show acc.length + 1 - 1 - (i + 1) = acc.length - 1 - i by omega]
      exact h2 i x hx
  · rw [wr_ap, if_pos ⟨rfl, rfl⟩]; rfl
  · rw [wr_ne hi, wr_ne hi, wr_ne hi6]
  · rw [wr_ap, if_neg (by omega), wr_ap, if_neg (by omega), wr_ap, if_neg (by omega)]
theorem m1_ne : ∀ f, f < 5 → nI f ≠ -1 := by decide +kernel
theorem four_t : ∀ f, f < 5 → (nI f = 4 ↔ f = 4) := by decide +kernel
theorem X2_gather {s k o : Nat} {σ : Sc} (hs : okS s) (hw : WFs σ) (hk : k < 8) (ho : 31 < o) (ho2 : o + 6 < 97) :
    ∀ (ls acc : List Nat) (M : Mem) (fuel : Nat), ls.length < fuel → ls.length + acc.length ≤ 6 → (∀ l ∈ ls, l < 6) → M 31 0 = nI s → SCr M s σ → (∀ j d, ls[j]? = some d → M (s + 4) (ls.length - 1 - j) = nI d) → GA M o acc →
      ∃ M', f_X2_gatherOffers_2 fuel M (nI k) o (nI ls.length - 1) = some M' ∧ GA M' o (offG σ k ls acc) ∧ (∀ i, i ≠ o → i ≠ o + 6 → M' i = M i) ∧ (∀ j, j ≠ 8 → j ≠ 9 → M' o j = M o j) := by
  intro ls
  induction ls with
  | nil =>
    intro acc M fuel hf hla hls h0 h hrow hg
    obtain ⟨fu, rfl⟩ : ∃ fu, fuel = fu + 1 := ⟨fuel - 1, by simp at hf; omega⟩
    refine ⟨M, ?_, hg, fun _ _ _ => rfl, fun _ _ _ => rfl⟩
    rw [f_X2_gatherOffers_2, if_pos (by decide)]
  | cons l ls ih =>
    intro acc M fuel hf hla hls h0 h hrow hg
    obtain ⟨fu, rfl⟩ : ∃ fu, fuel = fu + 1 := ⟨fuel - 1, by simp at hf; omega⟩
    simp only [List.length_cons] at hf hla ⊢
    have hl : l < 6 := hls l List.mem_cons_self
    have hm := hrow 0 l rfl
    simp only [List.length_cons, Nat.sub_zero, Nat.add_sub_cancel] at hm
    have hnext : nI ls.length + -1 = nI ls.length - 1 := (Int32.sub_eq_add_neg _ _).symm
    have hos := okS_lt hs
    have hstep : ∀ (acc' : List Nat) (M1 : Mem), ls.length + acc'.length ≤ 6 → (∀ i, i ≠ o → i ≠ o + 6 → M1 i = M i) → GA M1 o acc' → ∃ M', f_X2_gatherOffers_2 fu M1 (nI k) o (nI ls.length - 1) = some M' ∧ GA M' o (offG σ k ls acc') ∧ (∀ i, i ≠ o → i ≠ o + 6 → M' i = M1 i) ∧ (∀ j, j ≠ 8 → j ≠ 9 → M' o j = M1 o j) := by
      intro acc' M1 hl1 hM1 hg1
      refine ih acc' M1 fu (by omega) hl1 (fun x hx => hls x (List.mem_cons_of_mem _ hx)) (by rw [hM1 31 (by omega) (by omega)]; exact h0) (h.fr (fun i h1 h2 => hM1 i (by omega) (by omega))) (fun j d hj => ?_) hg1
      rw [hM1 _ (by omega) (by omega)]
      have hjl := (List.getElem?_eq_some_iff.mp hj).1
      have := hrow (j + 1) d (by rw [List.getElem?_cons_succ]; exact hj)
      simp only [List.length_cons] at this
      rw [show ls.length - 1 - j = ls.length + 1 - 1 - (j + 1) by omega]
      exact this
    rw [f_X2_gatherOffers_2]
    rw [nI_pred1 (by omega), Nat.add_sub_cancel, if_neg (nI_pos (by omega)), h0, rsc_eq hs, Option.bind_some, rd_nI (by omega) (by decide), Option.bind_some, Option.bind_some, hm, X7_slotOf, Option.bind_some]
    simp only []
    rw [rd_nI (by omega) (by decide), Option.bind_some, hnext]
    have he := h.2.2.2.2 (8 * l + k) (by omega)
    cases hent : sEn σ (8 * l + k) with
    | none =>
      rw [hent] at he
      rw [if_pos (show M (s + 5) (8 * l + k) = -1 from he)]
      obtain ⟨M', a1, a2, a3, a4⟩ := hstep acc M (by omega) (fun _ _ _ => rfl) hg
      refine ⟨M', a1, ?_, a3, a4⟩
      simp only [offG, hent]
      exact a2
    | some en =>
      obtain ⟨f, n, ot, its⟩ := en
      rw [hent] at he
      have hf5 : f < 5 := (hw.2.2 _ _ _ _ _ hent).1
      rw [he.1, if_neg (m1_ne f hf5), h0, rsc_eq hs, Option.bind_some, X4_isOn h hl, Option.bind_some]
      simp only [offG, hent]
      by_cases hon : sOn σ l = true
      · rw [if_pos hon, if_neg (by decide : ¬ (1 : Int32) = 0), hg.1, X2_counts hs h0 h hw hl hk (by omega), Option.bind_some]
        by_cases hc : cntS σ l k acc = true
        · rw [if_pos hc, if_neg (by decide : ¬ (1 : Int32) = 0), if_pos (show sOn σ l = true ∧ cntS σ l k acc = true from ⟨hon, hc⟩)]
          simp only [four_t f hf5]
          by_cases h4 : f = 4
          · rw [if_neg (show ¬ ¬ f = 4 from fun q => q h4), if_pos h4]
            exact ⟨M, rfl, hg, fun _ _ _ => rfl, fun _ _ _ => rfl⟩
          · rw [if_pos (show ¬ f = 4 from h4), if_neg h4]
            obtain ⟨M1, b1, b2, b3, b4⟩ := X1_addOffer (l := l) hg (by omega)
            rw [b1, Option.bind_some]
            obtain ⟨M', a1, a2, a3, a4⟩ := hstep (l :: acc) M1 (by simp; omega) b3 b2
            exact ⟨M', a1, a2, fun i h1 h2 => (a3 i h1 h2).trans (b3 i h1 h2), fun j h1 h2 => (a4 j h1 h2).trans (b4 j h1 h2)⟩
        · rw [if_neg hc, if_pos rfl, if_neg (fun q => hc q.2)]
          exact hstep acc M (by omega) (fun _ _ _ => rfl) hg
      · rw [if_neg hon, if_pos rfl, if_neg (fun q => hon q.1)]
        exact hstep acc M (by omega) (fun _ _ _ => rfl) hg
theorem offG_len (σ : Sc) (k : Nat) : ∀ (ls acc : List Nat), (offG σ k ls acc).length ≤ ls.length + acc.length := by
  intro ls
  induction ls with
  | nil => intro acc; simp [offG]
  | cons l ls ih =>
    intro acc
    simp only [offG]
    split
    · have := ih acc; simp only [List.length_cons]; omega
    · split
      · split
        · simp only [List.length_cons]; omega
        · have := ih (l :: acc); simp only [List.length_cons] at this ⊢; omega
      · have := ih acc; simp only [List.length_cons]; omega
theorem offG_mem (σ : Sc) (k : Nat) (P : Nat → Prop) : ∀ (ls acc : List Nat), (∀ x ∈ ls, ∀ e, sEn σ (8 * x + k) = some e → e.1 ≠ 4 → P x) → (∀ x ∈ acc, P x) → ∀ x ∈ offG σ k ls acc, P x := by
  intro ls
  induction ls with
  | nil => intro acc _ h2; simpa [offG] using h2
  | cons l ls ih =>
    intro acc h1 h2
    simp only [offG]
    have h1' : ∀ x ∈ ls, ∀ e, sEn σ (8 * x + k) = some e → e.1 ≠ 4 → P x := fun x hx => h1 x (List.mem_cons_of_mem _ hx)
    split
    · exact ih acc h1' h2
    · rename_i e he
      split
      · split
        · exact h2
        · rename_i h4
          refine ih (l :: acc) h1' (fun x hx => ?_)
          rcases List.mem_cons.mp hx with rfl | hx
          · exact h1 _ List.mem_cons_self e he h4
          · exact h2 x hx
      · exact ih acc h1' h2
theorem ordS_len (σ : Sc) : (ordS σ).length = 6 := ordD_len _ _
theorem ordS_mem (σ : Sc) (x : Nat) : x ∈ ordS σ ↔ x < 6 := ordD_mem _ _ x
theorem offS_len (σ : Sc) (k : Nat) : (offS σ k).length ≤ 6 := by
  have := offG_len σ k (ordS σ) []
  rw [ordS_len] at this
  simpa [offS] using this
/-- an offer is an entry that is no gap -/
theorem offS_mem (σ : Sc) (k : Nat) : ∀ x ∈ offS σ k, x < 6 ∧ ∃ e, sEn σ (8 * x + k) = some e ∧ e.1 ≠ 4 :=
  offG_mem σ k _ (ordS σ) [] (fun x hx e he h4 => ⟨(ordS_mem σ x).mp hx, e, he, h4⟩) (fun x hx => by simp at hx)
theorem X2_gatherOffers {M : Mem} {s k o : Nat} {σ : Sc} (hs : okS s) (hw : WFs σ) (hk : k < 8) (ho : 31 < o) (ho2 : o + 6 < 97) (h0 : M 31 0 = nI s) (h : SCr M s σ) (hg : GA M o []) :
    ∃ M', f_X2_gatherOffers M (nI k) o = some M' ∧ GA M' o (offS σ k) ∧ (∀ i, i ≠ o → i ≠ o + 6 → M' i = M i) ∧ (∀ j, j ≠ 8 → j ≠ 9 → M' o j = M o j) := by
  unfold f_X2_gatherOffers
  have hl := ordS_len σ
  obtain ⟨M', e⟩ := X2_gather hs hw hk ho ho2 (ordS σ) [] M 1000 (by omega) (by simp [hl]) (fun l hl => (ordS_mem σ l).mp hl) h0 h h.2.2.2.1 hg
  rw [hl] at e
  exact ⟨M', e⟩
theorem X1_reset {M : Mem} {o : Nat} : ∃ M', f_X1_reset M o = some M' ∧ (∀ i, i ≠ o → M' i = M i) ∧ M' o 0 = 0 ∧ M' o 1 = 0 ∧ GA M' o [] ∧ M' o 11 = 0 ∧ M' o 12 = 0 := by
  refine ⟨_, rfl, fun i hi => ?_, ?_, ?_, ⟨?_, fun i l hl => by simp at hl, ?_⟩, ?_, ?_⟩
  · simp only [wr_ne hi]
  all_goals simp [wr_ap]
  · rfl
theorem X1_offerLayer {M : Mem} {o i l : Nat} {acc : List Nat} (h : GA M o acc) (ha : acc.length ≤ 6) (hi : acc[i]? = some l) : f_X1_offerLayer M o (nI i) = some (nI l, M) := by
  have hl := (List.getElem?_eq_some_iff.mp hi).1
  unfold f_X1_offerLayer
  rw [h.1, nI_pred1 (by omega), nI_sub (by omega), rd_nI (by omega) (by decide), Option.bind_some, h.2.1 i l hi]
