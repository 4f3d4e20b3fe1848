theorem X1_isAlike {M : Mem} {a b : Nat} {xs ys : List Int32} (hlen : xs.length = ys.length) (h10 : xs.length ≤ 10) (ha : xs.length ≤ ln a) (hb : xs.length ≤ ln b) (ha2 : ln a < 2 ^ 31) (hb2 : ln b < 2 ^ 31) (h1 : ∀ i v, xs[i]? = some v → M a i = v) (h2 : ∀ i v, ys[i]? = some v → M b i = v) : f_X1_isAlike M a b (nI xs.length) = some (if xs = ys then 1 else 0, M) := by
  have key : ∀ (r1 r2 : List Int32) (i fuel : Nat), r1.length < fuel → xs.drop i = r1 → ys.drop i = r2 → i + r1.length = xs.length → i + r2.length = xs.length → f_X1_isAlike_2 fuel M a b (nI xs.length) (nI i) = some (if r1 = r2 then 1 else 0, M) := by
    intro r1
    induction r1 with
    | nil =>
      intro r2 i fuel hf hd1 hd2 hi1 hi2
      obtain ⟨fu, rfl⟩ : ∃ fu, fuel = fu + 1 := ⟨fuel - 1, by simp at hf; omega⟩
      simp at hi1
      have : r2 = [] := by
        apply List.length_eq_zero_iff.mp
        omega
      rw [f_X1_isAlike_2, hi1, if_pos (Int32.le_refl _), this, if_pos rfl]
      rfl
    | cons x r1 ih =>
      intro r2 i fuel hf hd1 hd2 hi1 hi2
      obtain ⟨fu, rfl⟩ : ∃ fu, fuel = fu + 1 := ⟨fuel - 1, by simp at hf; omega⟩
      simp only [List.length_cons] at hf hi1
      rcases r2 with _ | ⟨y, r2⟩
      · simp at hi2; omega
      · simp only [List.length_cons] at hi2
        have g1 : xs[i]? = some x := by
          have : (xs.drop i)[0]? = some x := by rw [hd1]; rfl
          rw [List.getElem?_drop] at this
          simpa using this
        have g2 : ys[i]? = some y := by
          have : (ys.drop i)[0]? = some y := by rw [hd2]; rfl
          rw [List.getElem?_drop] at this
          simpa using this
        rw [f_X1_isAlike_2, if_neg (nI_ge (by omega) (by omega)), rd_nI (by omega) ha2, Option.bind_some, rd_nI (by omega) hb2, Option.bind_some, h1 i x g1, h2 i y g2]
        by_cases hxy : x = y
        · rw [if_pos hxy, nI_1, ih r2 (i + 1) fu (by omega) (by rw [← List.drop_drop, hd1]; rfl) (by rw [← List.drop_drop, hd2]; rfl) (by omega) (by omega)]
          by_cases hr : r1 = r2
          · rw [if_pos hr, if_pos (by rw [hxy, hr])]
          · rw [if_neg hr, if_neg (fun q => hr (List.cons.inj q).2)]
        · rw [if_neg hxy, if_neg (fun q => hxy (List.cons.inj q).1)]; rfl
  unfold f_X1_isAlike
  exact key xs ys 0 1000 (by omega) rfl rfl (by omega) (by omega)
theorem lnPr : ∀ d, d < 8 → ln (107 + 7 * d + 1) = 10 ∧ ln (107 + 7 * d + 2) = 10 ∧ ln (107 + 7 * d + 4) = 9 := by decide +kernel
theorem ln34 : ln (34 + 1) = 10 ∧ ln (34 + 2) = 10 ∧ ln (34 + 4) = 9 := by decide +kernel
theorem map_get {α β : Type} {f : α → β} {xs : List α} {i : Nat} {v : β} (h : (xs.map f)[i]? = some v) : ∃ x, xs[i]? = some x ∧ v = f x := by
  rw [List.getElem?_map] at h
  rcases hx : xs[i]? with _ | x
  · rw [hx] at h; cases h
  · rw [hx] at h; cases h; exact ⟨x, rfl, rfl⟩
theorem X1_isLike {M : Mem} {d : Nat} {r s : Rs} (hd : d < 8) (h : KPo M (107 + 7 * d) r) (g : KPo M 34 s) : f_X1_isLike M (107 + 7 * d) 34 = some (if likeS r s = true then 1 else 0, M) := by
  obtain ⟨l1, l2, l4⟩ := lnPr d hd
  obtain ⟨k1, k2, k4⟩ := ln34
  unfold f_X1_isLike
  rcases r with fs | ⟨a | xs, s1, d1⟩
  · obtain ⟨h0, h1, h2, h3⟩ := h
    rcases s with gs | ⟨b | ys, s2, d2⟩
    · obtain ⟨g0, g1, g2, g3⟩ := g
      rw [h0, g0, if_pos rfl, if_neg (by decide), if_neg (by decide), h1, g1]
      simp only [likeS]
      by_cases hl : fs.length = gs.length
      · rw [if_neg (fun q => q (by rw [hl]))]
        have := X1_isAlike (M := M) (a := 107 + 7 * d + 4) (b := 34 + 4) (xs := fs.map (·.1)) (ys := gs.map (·.1)) (by simp [hl]) (by simp; omega) (by rw [l4]; simpa using h2) (by rw [k4]; simpa using h2) (by rw [l4]; decide) (by rw [k4]; decide) (fun i v hv => by obtain ⟨x, e1, e2⟩ := map_get hv; rw [e2]; exact h3 i x e1) (fun i v hv => by obtain ⟨x, e1, e2⟩ := map_get hv; rw [e2]; exact g3 i x e1)
        rw [List.length_map] at this
        rw [this, Option.bind_some]
        dsimp only
        by_cases he : fs.map (·.1) = gs.map (·.1)
        · rw [if_pos he, if_neg (by decide)]; simp [he, bret_1]
        · rw [if_neg he, if_pos rfl]; simp [he, bret_0]
      · have hne : ¬ nI fs.length = nI gs.length := fun q => hl ((nI_eq (by omega) (by omega)).mp q)
        have hne2 : ¬ fs.map (·.1) = gs.map (·.1) := fun q => hl (by have := congrArg List.length q; simpa using this)
        rw [if_pos hne]; simp [hne2, bret_0]
    · rw [h0, show M 34 0 = 0 from g.1, if_neg (by decide)]; rfl
    · rw [h0, show M 34 0 = 1 from g.1, if_neg (by decide)]; rfl
  · obtain ⟨h0, h1⟩ := h
    rcases s with gs | ⟨b | ys, s2, d2⟩
    · rw [h0, show M 34 0 = 2 from g.1, if_neg (by decide)]; rfl
    · rw [h0, show M 34 0 = 0 from g.1, if_pos rfl, if_pos rfl, h1, show M 34 1 = b from g.2]
      simp only [likeS]
      by_cases hab : a = b
      · rw [if_neg (fun q => q hab)]; simp [hab, bret_1]
      · rw [if_pos hab]; simp [hab, bret_0]
    · rw [h0, show M 34 0 = 1 from g.1, if_neg (by decide)]; rfl
  · obtain ⟨h0, h1, h2, h3⟩ := h
    rcases s with gs | ⟨b | ys, s2, d2⟩
    · rw [h0, show M 34 0 = 2 from g.1, if_neg (by decide)]; rfl
    · rw [h0, show M 34 0 = 0 from g.1, if_neg (by decide)]; rfl
    · obtain ⟨g0, g1, g2, g3⟩ := g
      rw [h0, g0, if_pos rfl, if_neg (by decide), if_pos rfl, h1, g1]
      simp only [likeS]
      by_cases hl : xs.length = ys.length
      · rw [if_neg (fun q => q (by rw [hl]))]
        have t1 := X1_isAlike (M := M) (a := 107 + 7 * d + 1) (b := 34 + 1) (xs := xs.map (·.1)) (ys := ys.map (·.1)) (by simp [hl]) (by simp; omega) (by rw [l1]; simpa using h2) (by rw [k1]; simpa using h2) (by rw [l1]; decide) (by rw [k1]; decide) (fun i v hv => by obtain ⟨x, e1, e2⟩ := map_get hv; rw [e2]; exact (h3 i x e1).1) (fun i v hv => by obtain ⟨x, e1, e2⟩ := map_get hv; rw [e2]; exact (g3 i x e1).1)
        have t2 := X1_isAlike (M := M) (a := 107 + 7 * d + 2) (b := 34 + 2) (xs := xs.map (·.2.1)) (ys := ys.map (·.2.1)) (by simp [hl]) (by simp; omega) (by rw [l2]; simpa using h2) (by rw [k2]; simpa using h2) (by rw [l2]; decide) (by rw [k2]; decide) (fun i v hv => by obtain ⟨x, e1, e2⟩ := map_get hv; rw [e2]; exact (h3 i x e1).2) (fun i v hv => by obtain ⟨x, e1, e2⟩ := map_get hv; rw [e2]; exact (g3 i x e1).2)
        rw [List.length_map] at t1 t2
        have hboth : (xs.map (fun x => (x.1, x.2.1)) = ys.map (fun x => (x.1, x.2.1))) ↔ (xs.map (·.1) = ys.map (·.1) ∧ xs.map (·.2.1) = ys.map (·.2.1)) := by
          constructor
          · intro q
            have q1 := congrArg (List.map Prod.fst) q
            have q2 := congrArg (List.map Prod.snd) q
            simp only [List.map_map] at q1 q2
            exact ⟨q1, q2⟩
          · rintro ⟨q1, q2⟩
            apply List.ext_getElem?
            intro i
            have e1 := congrArg (fun l => l[i]?) q1
            have e2 := congrArg (fun l => l[i]?) q2
            simp only [List.getElem?_map] at e1 e2 ⊢
            rcases hx : xs[i]? with _ | x
            · rcases hy : ys[i]? with _ | y
              · rfl
              · rw [hx, hy] at e1; cases e1
            · rcases hy : ys[i]? with _ | y
              · rw [hx, hy] at e1; cases e1
              · rw [hx, hy] at e1 e2
                simp at e1 e2 ⊢
                exact ⟨e1, e2⟩
        rw [t1, Option.bind_some]
        dsimp only
        by_cases c1 : xs.map (·.1) = ys.map (·.1)
        · rw [if_pos c1, if_neg (by decide), h1, t2, Option.bind_some]
          dsimp only
          by_cases c2 : xs.map (·.2.1) = ys.map (·.2.1)
          · rw [if_pos c2, if_neg (by decide)]; simp [hboth.mpr ⟨c1, c2⟩, bret_1]
          · have hn : ¬ (xs.map (fun x => (x.1, x.2.1)) = ys.map (fun x => (x.1, x.2.1))) := fun q => c2 (hboth.mp q).2
            rw [if_neg c2, if_pos rfl]; simp [hn, bret_0]
        · have hn : ¬ (xs.map (fun x => (x.1, x.2.1)) = ys.map (fun x => (x.1, x.2.1))) := fun q => c1 (hboth.mp q).1
          rw [if_neg c1, if_pos rfl]; simp [hn, bret_0]
      · have hne : ¬ nI xs.length = nI ys.length := fun q => hl ((nI_eq (by omega) (by omega)).mp q)
        have hn : ¬ (xs.map (fun x => (x.1, x.2.1)) = ys.map (fun x => (x.1, x.2.1))) := fun q => hl (by have := congrArg List.length q; simpa using this)
        rw [if_pos hne]; simp [hn, bret_0]
