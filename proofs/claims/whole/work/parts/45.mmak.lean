def MS (M : Mem) (σ : Sc) (p : List Nat) (cu : CU) : Prop := SMr (M 164) σ ∧ M 163 24 = 0 ∧ M 163 25 = nI cu.1 ∧ M 163 26 = nI cu.2 ∧ (∀ j, j < 8 → M 179 j = if j ∈ p then 1 else 0) ∧ cu.1 ≤ 60 ∧ cu.2 < 256
def MFl (M M' : Mem) (p : List Nat) (r : Int32) (fs : Flt) (cu' : CU) : Prop := r = 0 ∧ FRm 0 M M' ∧ FLm M' fs ∧ fs.length + p.length ≤ 9 ∧ M' 163 26 = nI cu'.2 ∧ cu'.2 < 256
theorem MS.fr {M M' : Mem} {σ : Sc} {p : List Nat} {cu : CU} (h : MS M σ p cu) (h1 : M' 164 = M 164) (h2 : M' 163 = M 163) (h3 : M' 179 = M 179) : MS M' σ p cu := by
  unfold MS at *
  rw [h1, h2, h3]
  exact h
theorem MS.frd {M M' : Mem} {σ : Sc} {p : List Nat} {cu : CU} {d : Nat} (h : MS M σ p cu) (hf : FRd d M M') : MS M' σ p cu := h.fr (hf.1 _ (by decide)) (hf.1 _ (by decide)) (hf.1 _ (by decide))
theorem mfail {M0 M : Mem} {σ : Sc} {p q : List Nat} {k : Nat} {cu : CU} {code : Int32} (hp : p.length + 1 ≤ 9) (hM : MS M σ q cu) (hf : FRm 0 M0 M) : ∃ M', f_X8_fails M code (nI k) = some (0, M') ∧ MFl M0 M' p 0 [(code, k)] cu := by
  obtain ⟨h1, h2, h3, h4, h5, h6, h7⟩ := hM
  obtain ⟨M', a1, a2, a3, a4⟩ := X8_fails (code := code) (k := k) (fs := []) (M := M) ⟨h2, fun i f hf => by simp at hf⟩ (by decide)
  refine ⟨M', a1, rfl, hf.tr ⟨fun i hi => a3 i (by omega) (by omega) (by omega), fun j h1 _ _ => a4 j h1, fun i j _ _ _ => by rw [a3 i (by omega) (by omega) (by omega)], fun i j _ _ _ => by rw [a3 i (by omega) (by omega) (by omega)]⟩, a2, by simp; omega, by rw [a4 26 (by decide)]; exact h4, h7⟩
theorem X8_279_l {rs : RSF} {l s : Nat} {len : Nat} (hs : s < 12) (hl : len ≤ 10) : ∀ (m i : Nat) (M : Mem) (fuel : Nat), i + m = len → m < fuel → M 171 s = 1 → M 173 s = nI len →
    ∃ M', f_X8_makes_279 rs fuel M (nI l) (nI s) (nI i) = some (1, M') ∧ FRd s M M' ∧ (∀ a, a ≠ 178 → M' a = M a) ∧ (∀ j, j < i → M' 178 (10 * s + j) = M 178 (10 * s + j)) ∧ ∀ j, i ≤ j → j < len → M' 178 (10 * s + j) = nI l := by
  intro m
  induction m with
  | zero =>
    intro i M fuel him hf h1 h3
    obtain ⟨fu, rfl⟩ : ∃ fu, fuel = fu + 1 := ⟨fuel - 1, by omega⟩
    have : i = len := by omega
    subst this
    rw [f_X8_makes_279, rd_nI hs (by decide), Option.bind_some, h3, if_pos (Int32.le_refl _)]
    exact ⟨M, rfl, FRd.rf, fun _ _ => rfl, fun _ _ => rfl, fun j _ _ => by omega⟩
  | succ m ih =>
    intro i M fuel him hf h1 h3
    obtain ⟨fu, rfl⟩ : ∃ fu, fuel = fu + 1 := ⟨fuel - 1, by omega⟩
    rw [f_X8_makes_279, rd_nI hs (by decide), Option.bind_some, h3, if_neg (nI_ge (by omega) (by omega)), rd_nI hs (by decide), Option.bind_some, h1, if_neg (by decide), ten_at, wra_nI (by omega) (by decide), Option.bind_some, nI_1]
    obtain ⟨M', e1, e2, e3, e4, e5⟩ := ih (i + 1) (wr M 178 (10 * s + i) (nI l)) fu (by omega) (by omega) (by rw [wr_ne (by decide)]; exact h1) (by rw [wr_ne (by decide)]; exact h3)
    refine ⟨M', e1, (FRd.w2 (by decide) (by decide) (by omega)).tr e2, fun a ha => (e3 a ha).trans (wr_ne ha), fun j hj => ?_, fun j h4 h5 => ?_⟩
    · rw [e4 j (by omega), wr_ap, if_neg (by omega)]
    · by_cases hj : j = i
      · subst hj; rw [e4 j (by omega), wr_ap, if_pos ⟨rfl, rfl⟩]
      · exact e5 j (by omega) h5
theorem X8_279 {rs : RSF} {M : Mem} {l s : Nat} {v : Vl} (hs : s < 12) (hv : MV M s v) : ∃ M', f_X8_makes_279 rs 1000 M (nI l) (nI s) 0 = some (1, M') ∧ FRd s M M' ∧ MV M' s (relab l v) ∧ (∀ a, a ≠ 178 → M' a = M a) := by
  match v, hv with
  | .inl n, ⟨h0, h1⟩ =>
    refine ⟨M, ?_, FRd.rf, ⟨h0, h1⟩, fun _ _ => rfl⟩
    rw [f_X8_makes_279, rd_nI hs (by decide), Option.bind_some]
    by_cases hc : M 173 s ≤ 0
    · rw [if_pos hc]; rfl
    · rw [if_neg hc, rd_nI hs (by decide), Option.bind_some, h0, if_pos (by decide)]; rfl
  | .inr is, ⟨h0, h1, h2, h3⟩ =>
    obtain ⟨M', e1, e2, e3, e4, e5⟩ := X8_279_l (rs := rs) (l := l) hs h2 is.length 0 M 1000 (by omega) (by omega) h0 h1
    refine ⟨M', e1, e2, ⟨by rw [e3 _ (by decide)]; exact h0, by rw [e3 _ (by decide), List.length_map]; exact h1, by rw [List.length_map]; exact h2, fun j x hx => ?_⟩, e3⟩
    rw [List.getElem?_map] at hx
    rcases hi : is[j]? with _ | y
    · rw [hi] at hx; cases hx
    · rw [hi] at hx
      cases hx
      obtain ⟨g1, g2, g3⟩ := h3 j y hi
      exact ⟨by rw [e3 _ (by decide)]; exact g1, by rw [e3 _ (by decide)]; exact g2, e5 j (by omega) (List.getElem?_eq_some_iff.mp hi).1⟩
theorem two_at (a j : Nat) : nI a + 2 * nI j = nI (a + 2 * j) := by rw [show (2 : Int32) = nI 2 from rfl, nI_mul, nI_add]
theorem X8_192_l {rs : RSF} {l s e : Nat} {its : List (Int32 × Int32)} (hs : s < 12) (he : e < 48) (hl : its.length ≤ 4) : ∀ (m i : Nat) (M : Mem) (fuel : Nat), i + m = its.length → m < fuel → M 173 s = nI its.length → (∀ i x, its[i]? = some x → M 164 (34 + 12 * e + 2 * i) = x.1 ∧ M 164 (35 + 12 * e + 2 * i) = x.2) →
    ∃ M', f_X8_makes_192 rs fuel M (nI l) (nI (30 + 12 * e)) (nI s) (nI i) = f_X8_makes_266 rs M' (nI l) (nI s) ∧ FRd s M M' ∧ (∀ a, a ≠ 176 → a ≠ 177 → M' a = M a) ∧ (∀ a j, j < i → M' a (10 * s + j) = M a (10 * s + j)) ∧ ∀ j x, i ≤ j → its[j]? = some x → M' 176 (10 * s + j) = x.1 ∧ M' 177 (10 * s + j) = x.2 := by
  intro m
  induction m with
  | zero =>
    intro i M fuel him hf h3 hi
    obtain ⟨fu, rfl⟩ : ∃ fu, fuel = fu + 1 := ⟨fuel - 1, by omega⟩
    have : i = its.length := by omega
    subst this
    rw [f_X8_makes_192, rd_nI hs (by decide), Option.bind_some, h3, if_pos (Int32.le_refl _)]
    exact ⟨M, rfl, FRd.rf, fun _ _ _ => rfl, fun _ _ _ => rfl, fun j x h4 h5 => by have := (List.getElem?_eq_some_iff.mp h5).1; omega⟩
  | succ m ih =>
    intro i M fuel him hf h3 hi
    obtain ⟨fu, rfl⟩ : ∃ fu, fuel = fu + 1 := ⟨fuel - 1, by omega⟩
    obtain ⟨x, hx⟩ : ∃ x, its[i]? = some x := ⟨_, List.getElem?_eq_getElem (show i < its.length by omega)⟩
    obtain ⟨g1, g2⟩ := hi i x hx
    have e4 : nI (30 + 12 * e) + 4 + 2 * nI i = nI (34 + 12 * e + 2 * i) := by
      rw [show (4 : Int32) = nI 4 from rfl, nI_add, two_at]; congr 1; omega
    have e5 : nI (34 + 12 * e + 2 * i) + 1 = nI (35 + 12 * e + 2 * i) := by rw [nI_1]; congr 1; omega
    rw [f_X8_makes_192, rd_nI hs (by decide), Option.bind_some, h3, if_neg (nI_ge (by omega) (by omega)), e4, rd_nI (by omega) (by decide), Option.bind_some, g1, ten_at, wra_nI (by omega) (by decide), Option.bind_some, e5, rd_nI (by omega) (by decide), Option.bind_some, wr_ne (show 164 ≠ 176 by decide), g2, wra_nI (by omega) (by decide), Option.bind_some, nI_1]
    generalize hA : wr (wr M 176 (10 * s + i) x.1) 177 (10 * s + i) x.2 = A
    have hAf : FRd s M A := by rw [← hA]; exact (FRd.w2 (by decide) (by decide) (by omega)).tr (FRd.w2 (by decide) (by decide) (by omega))
    have hAr : ∀ a, a ≠ 176 → a ≠ 177 → A a = M a := fun a h1 h2 => by rw [← hA, wr_ne h2, wr_ne h1]
    have hA6 : A 176 (10 * s + i) = x.1 := by rw [← hA]; simp [wr_ap]
    have hA7 : A 177 (10 * s + i) = x.2 := by rw [← hA]; simp [wr_ap]
    have hAo : ∀ a j, j ≠ i → A a (10 * s + j) = M a (10 * s + j) := fun a j hj => by rw [← hA]; simp [wr_ap, hj]
    obtain ⟨M', b1, b2, b3, b4, b5⟩ := ih (i + 1) A fu (by omega) (by omega) (by rw [hAr _ (by decide) (by decide)]; exact h3) (fun j y hy => by rw [hAr _ (by decide) (by decide)]; exact hi j y hy)
    refine ⟨M', b1, hAf.tr b2, fun a h1 h2 => (b3 a h1 h2).trans (hAr a h1 h2), fun a j hj => ?_, fun j y h4 h5 => ?_⟩
    · rw [b4 a j (by omega), hAo a j (by omega)]
    · by_cases hj : j = i
      · subst hj
        rw [hx] at h5
        cases h5
        exact ⟨by rw [b4 176 j (by omega), hA6], by rw [b4 177 j (by omega), hA7]⟩
      · exact b5 j y (by omega) h5
def IHm (crs : RSF) (rs : Nat → List Nat → CU → Rs × CU) (σ : Sc) (p : List Nat) : Prop := ∀ (o : Nat) (cu : CU) (M : Mem), o < 8 → MS M σ p cu → ∃ r M', crs M (nI o) (nI p.length) = some (r, M') ∧ match rs o p cu with
  | (.inl fs, cu') => MFl M M' p r fs cu'
  | (.inr (v, sr, dp), cu') => r = 1 ∧ FRm p.length M M' ∧ MV M' p.length v ∧ M' 174 p.length = sr ∧ M' 175 p.length = dp ∧ MS M' σ p cu'
theorem MV.fr {M M' : Mem} {d : Nat} {v : Vl} (h : MV M d v) (h1 : M' 171 = M 171) (h2 : M' 172 d = M 172 d) (h3 : M' 173 = M 173) (h4 : ∀ a, 176 ≤ a → a ≤ 178 → M' a = M a) : MV M' d v := by
  match v, h with
  | .inl n, h => exact ⟨by rw [h1]; exact h.1, by rw [h2]; exact h.2⟩
  | .inr is, ⟨a, b, c, e⟩ => exact ⟨by rw [h1]; exact a, by rw [h3]; exact b, c, fun j x hx => by rw [h4 176 (by decide) (by decide), h4 177 (by decide) (by decide), h4 178 (by decide) (by decide)]; exact e j x hx⟩
theorem X8_122 {rs : RSF} {M : Mem} {l s : Nat} {v : Vl} (hs : s < 12) (hv : MV M s v) : ∃ M', f_X8_makes_122 rs M (nI l) (nI s) = some (1, M') ∧ FRd s M M' ∧ MV M' s (relab l v) ∧ M' 175 s = (M 175 s ||| bitI l) := by
  unfold f_X8_makes_122
  rw [rd_nI hs (by decide), Option.bind_some, wra_nI hs (by decide), Option.bind_some]
  obtain ⟨M', e1, e2, e3, e4⟩ := X8_279 (rs := rs) (l := l) (M := wr M 175 s (M 175 s ||| bitI l)) hs (hv.fr (wr_ne (by decide)) (by rw [wr_ne (by decide)]) (wr_ne (by decide)) (fun a _ _ => wr_ne (by omega)))
  exact ⟨M', e1, (FRd.w1 (by decide) (by decide)).tr e2, e3, by rw [e4 _ (by decide), wr_ap, if_pos ⟨rfl, rfl⟩]⟩
theorem X8_makes {crs : RSF} {rs : Nat → List Nat → CU → Rs × CU} {M : Mem} {k l : Nat} {σ : Sc} {p : List Nat} {cu : CU} (hw : WFs σ) (hk : k < 8) (hl : l < 6) (hp : p.length + 1 < 9) (hent : ∃ e, sEn σ (8 * l + k) = some e ∧ e.1 ≠ 4) (hM : MS M σ (p ++ [k]) cu) (hrs : IHm crs rs σ (p ++ [k])) :
    ∃ r M', f_X8_makes crs M (nI l) (nI k) (nI p.length) = some (r, M') ∧ match mkS rs σ l k p cu with
      | (.inl fs, cu') => MFl M M' p r fs cu'
      | (.inr (v, dd), cu') => r = 1 ∧ FRm (p.length + 1) M M' ∧ MV M' (p.length + 1) v ∧ M' 175 (p.length + 1) = dd ∧ MS M' σ (p ++ [k]) cu' := by
  obtain ⟨⟨f, n, ot, its⟩, hent, hf4⟩ := hent
  obtain ⟨w1, w2, w3, w4, w5⟩ := hw.2.2 _ _ _ _ _ hent
  have he48 : 8 * l + k < 48 := by omega
  have hlen : (p ++ [k]).length = p.length + 1 := by simp
  obtain ⟨t2, t3, t1, t0⟩ := form_t f w1
  have hE := hM.1.2.2 _ he48
  rw [hent] at hE
  obtain ⟨n1, n2, n3, n4⟩ := hE
  have a1 : nI (30 + 12 * (8 * l + k)) + 1 = nI (31 + 12 * (8 * l + k)) := by rw [nI_1]; congr 1; omega
  have a2 : nI (30 + 12 * (8 * l + k)) + 2 = nI (32 + 12 * (8 * l + k)) := by rw [show (2 : Int32) = nI 2 from rfl, nI_add]; congr 1; omega
  have a3 : nI (30 + 12 * (8 * l + k)) + 3 = nI (33 + 12 * (8 * l + k)) := by rw [show (3 : Int32) = nI 3 from rfl, nI_add]; congr 1; omega
  unfold f_X8_makes mkS
  simp only [hent]
  rw [X8_entryAt, Option.bind_some]
  dsimp only
  rw [Int32.add_zero, rd_nI (by omega) (by decide), Option.bind_some, n1, nI_1]
  simp only [t2, t3, t1]
  -- the refused reference
  have ref35 : (f = 2 ∨ f = 3) → ∃ r M', f_X8_makes_35 crs M (nI l) (nI k) (nI (30 + 12 * (8 * l + k))) (nI f) (nI (p.length + 1)) = some (r, M') ∧ match (match rs ot (p ++ [k]) cu with
      | (.inl fs, cu') => ((.inl ((5, k) :: fs), cu') : (Flt ⊕ (Vl × Int32)) × CU)
      | (.inr (v, _, d), cu') => if f = 2 then (.inr (relab l v, d ||| bitI l), cu') else match v with
        | .inl m => if m + n ≤ 999 then (.inr (.inl (m + n), d ||| bitI l), cu') else (.inl [(4, k)], cu')
        | .inr _ => (.inl [(3, k)], cu')) with
      | (.inl fs, cu') => MFl M M' p r fs cu'
      | (.inr (v, dd), cu') => r = 1 ∧ FRm (p.length + 1) M M' ∧ MV M' (p.length + 1) v ∧ M' 175 (p.length + 1) = dd ∧ MS M' σ (p ++ [k]) cu' := by
    intro hf23
    unfold f_X8_makes_35
    rw [a2, rd_nI (by omega) (by decide), Option.bind_some, n3 hf23]
    obtain ⟨r, M', e1, e2⟩ := hrs ot cu M w2 hM
    rw [hlen] at e1
    rw [e1, Option.bind_some]
    dsimp only
    rcases hx : rs ot (p ++ [k]) cu with ⟨fs | ⟨v, sr, d⟩, cu'⟩
    · rw [hx] at e2
      obtain ⟨g1, g2, g3, g4, g5, g6⟩ := e2
      rw [g1, if_neg (by decide)]
      rw [hlen] at g4
      obtain ⟨M2, b1, b2, b3, b4⟩ := X8_fails (code := 5) (k := k) g3 (by omega)
      rw [b1, Option.bind_some]
      refine ⟨0, M2, rfl, rfl, g2.tr ⟨fun i hi => b3 i (by omega) (by omega) (by omega), fun j h1 _ _ => b4 j h1, fun i j _ _ _ => by rw [b3 i (by omega) (by omega) (by omega)], fun i j _ _ _ => by rw [b3 i (by omega) (by omega) (by omega)]⟩, b2, by simp; omega, by rw [b4 26 (by decide)]; exact g5, g6⟩
    · rw [hx] at e2
      obtain ⟨g1, g2, g3, g4, g5, g6⟩ := e2
      rw [hlen] at g2 g3 g4 g5
      rw [g1, if_pos (by decide)]
      simp only [t3]
      by_cases f2 : f = 2
      · rw [if_pos (by omega), if_pos f2]
        obtain ⟨M2, b1, b2, b3, b4⟩ := X8_122 (rs := crs) (l := l) (s := p.length + 1) (by omega) g3
        exact ⟨1, M2, b1, rfl, g2.tr b2.m, b3, by rw [b4, g5], g6.frd b2⟩
      · have f3 : f = 3 := by omega
        rw [if_neg (fun q => q f3), if_neg f2, rd_nI (by omega) (by decide), Option.bind_some]
        match v, g3 with
        | .inr is, ⟨c0, c1, c2, c3⟩ =>
          rw [c0, if_neg (by decide)]
          obtain ⟨M2, b1, b2⟩ := mfail (p := p) (k := k) (code := 3) (by omega) g6 (g2.dn (Nat.zero_le _))
          rw [b1, Option.bind_some]
          exact ⟨0, M2, rfl, b2⟩
        | .inl m, ⟨c0, c1⟩ =>
          have hE2 := g6.1.2.2 _ he48
          rw [hent] at hE2
          rw [c0, if_pos rfl, rd_nI (by omega) (by decide), Option.bind_some, a1, rd_nI (by omega) (by decide), Option.bind_some, c1, hE2.2.1, if_pos (Or.inr f3), wra_nI (by omega) (by decide), Option.bind_some, rd_nI (by omega) (by decide), Option.bind_some]
          have hw1 : wr M' 172 (p.length + 1) (m + n) 172 (p.length + 1) = m + n := by rw [wr_ap]; simp
          rw [hw1]
          dsimp only
          have hfd : FRd (p.length + 1) M' (wr M' 172 (p.length + 1) (m + n)) := FRd.w1 (by decide) (by decide)
          by_cases hle : m + n ≤ 999
          · rw [if_pos hle, if_pos hle]
            obtain ⟨M2, b1, b2, b3, b4⟩ := X8_122 (rs := crs) (l := l) (s := p.length + 1) (M := wr M' 172 (p.length + 1) (m + n)) (v := .inl (m + n)) (by omega) ⟨by rw [wr_ne (by decide)]; exact c0, by rw [wr_ap, if_pos ⟨rfl, rfl⟩]⟩
            exact ⟨1, M2, b1, rfl, (g2.tr hfd.m).tr b2.m, b3, by rw [b4, wr_ne (by decide), g5], (g6.frd hfd).frd b2⟩
          · rw [if_neg hle, if_neg hle]
            obtain ⟨M2, b1, b2⟩ := mfail (p := p) (k := k) (code := 4) (by omega) (g6.frd hfd) ((g2.tr hfd.m).dn (Nat.zero_le _))
            rw [b1, Option.bind_some]
            exact ⟨0, M2, rfl, b2⟩
  by_cases f2 : f = 2
  · rw [if_pos f2, if_pos f2]
    obtain ⟨r, M', e1, e2⟩ := ref35 (Or.inl f2)
    refine ⟨r, M', e1, ?_⟩
    rcases hx : rs ot (p ++ [k]) cu with ⟨fs | ⟨v, sr, d⟩, cu'⟩
    · rw [hx] at e2; exact e2
    · rw [hx] at e2; simp only [if_pos f2] at e2; exact e2
  · rw [if_neg f2, if_neg f2]
    by_cases f3 : f = 3
    · rw [if_neg (fun q => q f3), if_pos f3]
      obtain ⟨r, M', e1, e2⟩ := ref35 (Or.inr f3)
      refine ⟨r, M', e1, ?_⟩
      rcases hx : rs ot (p ++ [k]) cu with ⟨fs | ⟨v | v, sr, d⟩, cu'⟩
      · rw [hx] at e2; exact e2
      · rw [hx] at e2; simp only [if_neg f2] at e2; exact e2
      · rw [hx] at e2; simp only [if_neg f2] at e2; exact e2
    · rw [if_pos f3, if_neg f3, wra_nI (by omega) (by decide), Option.bind_some, a1, rd_nI (by omega) (by decide), Option.bind_some, wr_ne (show 164 ≠ 171 by decide), n2, wra_nI (by omega) (by decide), Option.bind_some]
      by_cases f1 : f = 1
      · rw [if_neg (fun q => q f1), a3, rd_nI (by omega) (by decide), Option.bind_some, wr_ne (show 164 ≠ 172 by decide), wr_ne (show 164 ≠ 171 by decide), (n4 f1).1, wra_nI (by omega) (by decide), Option.bind_some, if_pos f1]
        generalize hA : wr (wr (wr M 171 (p.length + 1) (nI f)) 172 (p.length + 1) _) 173 (p.length + 1) (nI its.length) = A
        have hAf : FRd (p.length + 1) M A := by rw [← hA]; exact ((FRd.w1 (by decide) (by decide)).tr (FRd.w1 (by decide) (by decide))).tr (FRd.w1 (by decide) (by decide))
        have hA1 : A 171 (p.length + 1) = 1 := by rw [← hA]; simp [wr_ap, f1]; rfl
        have hA3 : A 173 (p.length + 1) = nI its.length := by rw [← hA]; simp [wr_ap]
        obtain ⟨B, b1, b2, b3, b4, b5⟩ := X8_192_l (rs := crs) (l := l) (s := p.length + 1) (its := its) (by omega) he48 w3 its.length 0 A 1000 (by omega) (by omega) hA3 (fun i x hx => by rw [hAf.1 164 (by decide)]; exact (n4 f1).2 i x hx)
        have b1' : f_X8_makes_192 crs 1000 A (nI l) (nI (30 + 12 * (8 * l + k))) (nI (p.length + 1)) 0 = _ := b1
        rw [b1']
        unfold f_X8_makes_266
        rw [wra_nI (by omega) (by decide), Option.bind_some]
        have hBf : FRd (p.length + 1) B (wr B 175 (p.length + 1) (1 <<< (nI l &&& 31))) := FRd.w1 (by decide) (by decide)
        generalize hC : wr B 175 (p.length + 1) (1 <<< (nI l &&& 31)) = C at *
        have hCr : ∀ a, a ≠ 175 → C a = B a := fun a ha => by rw [← hC, wr_ne ha]
        have hC5 : C 175 (p.length + 1) = bitI l := by rw [← hC, wr_ap, if_pos ⟨rfl, rfl⟩]
        have hC1 : C 171 (p.length + 1) = 1 := by rw [hCr _ (by decide), b3 _ (by decide) (by decide)]; exact hA1
        have hC3 : C 173 (p.length + 1) = nI its.length := by rw [hCr _ (by decide), b3 _ (by decide) (by decide)]; exact hA3
        obtain ⟨D, d1, d2, d3, d4, d5⟩ := X8_279_l (rs := crs) (l := l) (s := p.length + 1) (len := its.length) (by omega) (by omega) its.length 0 C 1000 (by omega) (by omega) hC1 hC3
        have d1' : f_X8_makes_279 crs 1000 C (nI l) (nI (p.length + 1)) 0 = some (1, D) := d1
        rw [d1']
        refine ⟨1, D, rfl, rfl, ((hAf.tr b2).tr (hBf.tr d2)).m.dn (Nat.le_refl _), ⟨by rw [d3 _ (by decide)]; exact hC1, by rw [d3 _ (by decide), List.length_map]; exact hC3, by rw [List.length_map]; omega, fun j x hx => ?_⟩, by rw [d3 _ (by decide)]; exact hC5, ((hM.frd hAf).frd b2).frd (hBf.tr d2)⟩
        rw [List.getElem?_map] at hx
        rcases hi : its[j]? with _ | y
        · rw [hi] at hx; cases hx
        · rw [hi] at hx
          cases hx
          obtain ⟨g1, g2⟩ := b5 j y (Nat.zero_le _) hi
          exact ⟨by rw [d3 _ (by decide), hCr _ (by decide)]; exact g1, by rw [d3 _ (by decide), hCr _ (by decide)]; exact g2, d5 j (Nat.zero_le _) (List.getElem?_eq_some_iff.mp hi).1⟩
      · have f0 : f = 0 := by simp at hf4; omega
        rw [if_pos f1, if_pos (Or.inl f0), wra_nI (by omega) (by decide), Option.bind_some, if_neg f1]
        generalize hA : wr (wr (wr M 171 (p.length + 1) (nI f)) 172 (p.length + 1) n) 173 (p.length + 1) 0 = A
        have hAf : FRd (p.length + 1) M A := by rw [← hA]; exact ((FRd.w1 (by decide) (by decide)).tr (FRd.w1 (by decide) (by decide))).tr (FRd.w1 (by decide) (by decide))
        have hA1 : A 171 (p.length + 1) = 0 := by rw [← hA]; simp [wr_ap, f0]; rfl
        have hA2 : A 172 (p.length + 1) = n := by rw [← hA]; simp [wr_ap]
        have hA3 : A 173 (p.length + 1) = 0 := by rw [← hA]; simp [wr_ap]
        rw [f_X8_makes_192, rd_nI (by omega) (by decide), Option.bind_some, hA3, if_pos (by decide)]
        unfold f_X8_makes_266
        rw [wra_nI (by omega) (by decide), Option.bind_some]
        have hBf : FRd (p.length + 1) A (wr A 175 (p.length + 1) (1 <<< (nI l &&& 31))) := FRd.w1 (by decide) (by decide)
        obtain ⟨D, d1, d2, d3, d4⟩ := X8_279 (rs := crs) (l := l) (s := p.length + 1) (M := wr A 175 (p.length + 1) (1 <<< (nI l &&& 31))) (v := .inl n) (by omega) ⟨by rw [wr_ne (by decide)]; exact hA1, by rw [wr_ne (by decide)]; exact hA2⟩
        rw [d1]
        exact ⟨1, D, rfl, rfl, (hAf.tr (hBf.tr d2)).m, d3, by rw [d4 _ (by decide), wr_ap, if_pos ⟨rfl, rfl⟩], (hM.frd hAf).frd (hBf.tr d2)⟩
