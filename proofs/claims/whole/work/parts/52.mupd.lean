/-! changes of the row: the reference -/
theorem SMr.setE {r r' : Nat → Int32} {e : Nat} {σ : Sc} {v : Option Ent} (h : SMr r σ) (hw : WFs σ) (he : e < 48) (hv : entM r' e v) (hr : ∀ j, (j < 30 + 12 * e ∨ 42 + 12 * e ≤ j) → r' j = r j) : SMr r' (setEn σ e v) := by
  obtain ⟨g1, g2, g3⟩ := h
  refine ⟨fun l hl => by rw [hr _ (by omega), hr _ (by omega), hr _ (by omega)]; exact g1 l hl, fun k hk => by rw [hr _ (by omega)]; exact g2 k hk, fun j hj => ?_⟩
  show entM r' j (fup (sEn σ) e v j)
  unfold fup
  by_cases hje : j = e
  · rw [if_pos hje, hje]; exact hv
  · rw [if_neg hje]
    have := g3 j hj
    rcases hx : sEn σ j with _ | ⟨f, n, o, its⟩
    · rw [hx] at this
      show r' (30 + 12 * j) = -9
      rw [hr _ (by omega)]; exact this
    · rw [hx] at this
      obtain ⟨a, b, c, d⟩ := this
      have hlen := (hw.2.2 _ _ _ _ _ hx).2.2.1
      exact ⟨by rw [hr _ (by omega)]; exact a, by rw [hr _ (by omega)]; exact b, fun hf => by rw [hr _ (by omega)]; exact c hf, fun hf => ⟨by rw [hr _ (by omega)]; exact (d hf).1, fun i x hi => by
        have hil := (List.getElem?_eq_some_iff.mp hi).1
        rw [hr _ (by omega), hr _ (by omega)]; exact (d hf).2 i x hi⟩⟩
theorem SMr.on {r r' : Nat → Int32} {l : Nat} {σ : Sc} {b : Bool} (h : SMr r σ) (hl : l < 6) (h0 : r' (3 * l) = if b = true then 1 else 0) (hr : ∀ j, j ≠ 3 * l → r' j = r j) : SMr r' (setOn σ l b) := by
  obtain ⟨g1, g2, g3⟩ := h
  refine ⟨fun j hj => ⟨?_, by rw [hr _ (by omega)]; exact (g1 j hj).2.1, by rw [hr _ (by omega)]; exact (g1 j hj).2.2⟩, fun k hk => by rw [hr _ (by omega)]; exact g2 k hk, fun e he => ?_⟩
  · show r' (3 * j) = if fup (sOn σ) l b j = true then 1 else 0
    unfold fup
    by_cases hjl : j = l
    · rw [hjl, if_pos rfl]; exact h0
    · rw [if_neg hjl, hr _ (by omega)]; exact (g1 j hj).1
  · have := g3 e he
    show entM r' e (sEn σ e)
    rcases hx : sEn σ e with _ | ⟨f, n, o, its⟩
    · rw [hx] at this
      show r' (30 + 12 * e) = -9
      rw [hr _ (by omega)]; exact this
    · rw [hx] at this
      obtain ⟨a, b, c, d⟩ := this
      exact ⟨by rw [hr _ (by omega)]; exact a, by rw [hr _ (by omega)]; exact b, fun hf => by rw [hr _ (by omega)]; exact c hf, fun hf => ⟨by rw [hr _ (by omega)]; exact (d hf).1, fun i x hi => by rw [hr _ (by omega), hr _ (by omega)]; exact (d hf).2 i x hi⟩⟩
theorem SMr.kf {r r' : Nat → Int32} {l k f : Nat} {σ : Sc} (h : SMr r σ) (hl : l < 6) (h1 : r' (3 * l + 1) = nI k) (h2 : r' (3 * l + 2) = nI f) (hr : ∀ j, j ≠ 3 * l + 1 → j ≠ 3 * l + 2 → r' j = r j) : SMr r' (setKF σ l k f) := by
  obtain ⟨g1, g2, g3⟩ := h
  refine ⟨fun j hj => ⟨by rw [hr _ (by omega) (by omega)]; exact (g1 j hj).1, ?_, ?_⟩, fun k hk => by rw [hr _ (by omega) (by omega)]; exact g2 k hk, fun e he => ?_⟩
  · show r' (3 * j + 1) = nI (fup (sKd σ) l k j)
    unfold fup
    by_cases hjl : j = l
    · rw [hjl, if_pos rfl]; exact h1
    · rw [if_neg hjl, hr _ (by omega) (by omega)]; exact (g1 j hj).2.1
  · show r' (3 * j + 2) = nI (fup (sFg σ) l f j)
    unfold fup
    by_cases hjl : j = l
    · rw [hjl, if_pos rfl]; exact h2
    · rw [if_neg hjl, hr _ (by omega) (by omega)]; exact (g1 j hj).2.2
  · have := g3 e he
    show entM r' e (sEn σ e)
    rcases hx : sEn σ e with _ | ⟨f, n, o, its⟩
    · rw [hx] at this
      show r' (30 + 12 * e) = -9
      rw [hr _ (by omega) (by omega)]; exact this
    · rw [hx] at this
      obtain ⟨a, b, c, d⟩ := this
      exact ⟨by rw [hr _ (by omega) (by omega)]; exact a, by rw [hr _ (by omega) (by omega)]; exact b, fun hf => by rw [hr _ (by omega) (by omega)]; exact c hf, fun hf => ⟨by rw [hr _ (by omega) (by omega)]; exact (d hf).1, fun i x hi => by rw [hr _ (by omega) (by omega), hr _ (by omega) (by omega)]; exact (d hf).2 i x hi⟩⟩
theorem SMr.mn {r r' : Nat → Int32} {k m : Nat} {σ : Sc} (h : SMr r σ) (hk : k < 8) (h0 : r' (20 + k) = nI m) (hr : ∀ j, j ≠ 20 + k → r' j = r j) : SMr r' (setMn σ k m) := by
  obtain ⟨g1, g2, g3⟩ := h
  refine ⟨fun j hj => by rw [hr _ (by omega), hr _ (by omega), hr _ (by omega)]; exact g1 j hj, fun j hj => ?_, fun e he => ?_⟩
  · show r' (20 + j) = nI (fup (sMn σ) k m j)
    unfold fup
    by_cases hjl : j = k
    · rw [hjl, if_pos rfl]; exact h0
    · rw [if_neg hjl, hr _ (by omega)]; exact g2 j hj
  · have := g3 e he
    show entM r' e (sEn σ e)
    rcases hx : sEn σ e with _ | ⟨f, n, o, its⟩
    · rw [hx] at this
      show r' (30 + 12 * e) = -9
      rw [hr _ (by omega)]; exact this
    · rw [hx] at this
      obtain ⟨a, b, c, d⟩ := this
      exact ⟨by rw [hr _ (by omega)]; exact a, by rw [hr _ (by omega)]; exact b, fun hf => by rw [hr _ (by omega)]; exact c hf, fun hf => ⟨by rw [hr _ (by omega)]; exact (d hf).1, fun i x hi => by rw [hr _ (by omega), hr _ (by omega)]; exact (d hf).2 i x hi⟩⟩
theorem X8_tell_l {t n o h : Int32} {e : Nat} (he : e < 48) : ∀ (m i : Nat) (M : Mem) (fuel : Nat), i + m = 12 → m < fuel → ∃ M', f_X8_tell_31 fuel M t n o (nI (30 + 12 * e)) h (nI i) = some (h, M') ∧ (∀ a, a ≠ 164 → M' a = M a) ∧ M' 164 (30 + 12 * e) = t ∧ M' 164 (31 + 12 * e) = n ∧ M' 164 (32 + 12 * e) = o ∧ (∀ j, j < 30 + 12 * e ∨ 42 + 12 * e ≤ j → M' 164 j = M 164 j) ∧ (∀ j, 33 + 12 * e ≤ j → j < 30 + 12 * e + i → M' 164 j = M 164 j) ∧ ∀ j, 33 + 12 * e ≤ j → 30 + 12 * e + i ≤ j → j < 42 + 12 * e → M' 164 j = 0 := by
  intro m
  induction m with
  | zero =>
    intro i M fuel him hf
    obtain ⟨fu, rfl⟩ : ∃ fu, fuel = fu + 1 := ⟨fuel - 1, by omega⟩
    have a1 : nI (30 + 12 * e) + 1 = nI (31 + 12 * e) := by rw [nI_1]; congr 1; omega
    have a2 : nI (30 + 12 * e) + 2 = nI (32 + 12 * e) := by rw [show (2 : Int32) = nI 2 from rfl, nI_add]; congr 1; omega
    rw [f_X8_tell_31, if_pos (show (12 : Int32) ≤ nI i from nI_le (a := 12) (by omega) (by omega))]
    unfold f_X8_tell_55
    rw [Int32.add_zero, wra_nI (by omega) (by decide), Option.bind_some, a1, wra_nI (by omega) (by decide), Option.bind_some, a2, wra_nI (by omega) (by decide), Option.bind_some]
    refine ⟨_, rfl, fun a ha => by rw [wr_ne ha, wr_ne ha, wr_ne ha], ?_, ?_, ?_, fun j hj => ?_, fun j h1 h2 => ?_, fun j h1 h2 h3 => by omega⟩
    · rw [wr_ap, if_neg (by omega), wr_ap, if_neg (by omega), wr_ap, if_pos ⟨rfl, rfl⟩]
    · rw [wr_ap, if_neg (by omega), wr_ap, if_pos ⟨rfl, rfl⟩]
    · rw [wr_ap, if_pos ⟨rfl, rfl⟩]
    · rw [wr_ap, if_neg (by omega), wr_ap, if_neg (by omega), wr_ap, if_neg (by omega)]
    · rw [wr_ap, if_neg (by omega), wr_ap, if_neg (by omega), wr_ap, if_neg (by omega)]
  | succ m ih =>
    intro i M fuel him hf
    obtain ⟨fu, rfl⟩ : ∃ fu, fuel = fu + 1 := ⟨fuel - 1, by omega⟩
    rw [f_X8_tell_31, if_neg (show ¬ (12 : Int32) ≤ nI i from nI_ge (b := 12) (by omega) (by decide)), nI_add, wra_nI (by omega) (by decide), Option.bind_some, nI_1]
    obtain ⟨M', e1, e2, e3, e4, e5, e6, e7, e8⟩ := ih (i + 1) (wr M 164 (30 + 12 * e + i) 0) fu (by omega) (by omega)
    refine ⟨M', e1, fun a ha => (e2 a ha).trans (wr_ne ha), e3, e4, e5, fun j hj => ?_, fun j h1 h2 => ?_, fun j h1 h2 h3 => ?_⟩
    · rw [e6 j hj, wr_ap, if_neg (by omega)]
    · rw [e7 j h1 (by omega), wr_ap, if_neg (by omega)]
    · by_cases hj : j = 30 + 12 * e + i
      · rw [e7 j h1 (by omega), wr_ap, if_pos ⟨rfl, hj⟩]
      · exact e8 j h1 (by omega) h3
theorem X8_tell {M : Mem} {l k : Nat} {t n o : Int32} (hl : l < 6) (hk : k < 8) : ∃ M', f_X8_tell M (nI l) (nI k) t n o = some (if M 164 (30 + 12 * (8 * l + k)) = -9 then 0 else 1, M') ∧ (∀ a, a ≠ 164 → M' a = M a) ∧ M' 164 (30 + 12 * (8 * l + k)) = t ∧ M' 164 (31 + 12 * (8 * l + k)) = n ∧ M' 164 (32 + 12 * (8 * l + k)) = o ∧ (∀ j, j < 30 + 12 * (8 * l + k) ∨ 42 + 12 * (8 * l + k) ≤ j → M' 164 j = M 164 j) ∧ ∀ j, 33 + 12 * (8 * l + k) ≤ j → j < 42 + 12 * (8 * l + k) → M' 164 j = 0 := by
  unfold f_X8_tell
  rw [X8_entryAt, Option.bind_some]
  dsimp only
  rw [Int32.add_zero, rd_nI (by omega) (by decide), Option.bind_some]
  by_cases h9 : M 164 (30 + 12 * (8 * l + k)) = -9
  · rw [if_pos h9, if_pos h9]
    obtain ⟨M', e1, e2, e3, e4, e5, e6, e7, e8⟩ := X8_tell_l (t := t) (n := n) (o := o) (h := 0) (e := 8 * l + k) (by omega) 12 0 M 1000 rfl (by decide)
    exact ⟨M', e1, e2, e3, e4, e5, e6, fun j h1 h2 => e8 j h1 (by omega) h2⟩
  · rw [if_neg h9, if_neg h9]
    obtain ⟨M', e1, e2, e3, e4, e5, e6, e7, e8⟩ := X8_tell_l (t := t) (n := n) (o := o) (h := 1) (e := 8 * l + k) (by omega) 12 0 M 1000 rfl (by decide)
    exact ⟨M', e1, e2, e3, e4, e5, e6, fun j h1 h2 => e8 j h1 (by omega) h2⟩
theorem X8_none {M : Mem} {σ : Sc} {l k : Nat} (hw : WFs σ) (h : SMr (M 164) σ) (hl : l < 6) (hk : k < 8) : (M 164 (30 + 12 * (8 * l + k)) = -9) ↔ sEn σ (8 * l + k) = none := by
  have he := h.2.2 (8 * l + k) (by omega)
  rcases hx : sEn σ (8 * l + k) with _ | ⟨f, n, o, its⟩
  · rw [hx] at he; exact ⟨fun _ => rfl, fun _ => he⟩
  · rw [hx] at he
    rw [he.1]
    exact ⟨fun q => absurd q (m9_ne f (hw.2.2 _ _ _ _ _ hx).1), fun q => by cases q⟩
theorem X8_tellE {M : Mem} {σ : Sc} {l k : Nat} {t n o : Int32} {v : Option Ent} (h : SMr (M 164) σ) (hw : WFs σ) (hl : l < 6) (hk : k < 8) (hv : ∀ r : Nat → Int32, r (30 + 12 * (8 * l + k)) = t → r (31 + 12 * (8 * l + k)) = n → r (32 + 12 * (8 * l + k)) = o → r (33 + 12 * (8 * l + k)) = 0 → entM r (8 * l + k) v) :
    ∃ M', f_X8_tell M (nI l) (nI k) t n o = some (if sEn σ (8 * l + k) = none then 0 else 1, M') ∧ SMr (M' 164) (setEn σ (8 * l + k) v) ∧ ∀ a, a ≠ 164 → M' a = M a := by
  obtain ⟨M', e1, e2, e3, e4, e5, e6, e7⟩ := X8_tell (M := M) (t := t) (n := n) (o := o) hl hk
  refine ⟨M', ?_, h.setE hw (by omega) (hv _ e3 e4 e5 (e7 _ (by omega) (by omega))) e6, e2⟩
  rw [e1]
  congr 2
  by_cases hx : sEn σ (8 * l + k) = none
  · rw [if_pos hx, if_pos ((X8_none hw h hl hk).mpr hx)]
  · rw [if_neg hx, if_neg (fun q => hx ((X8_none hw h hl hk).mp q))]
theorem X8_puts {M : Mem} {σ : Sc} {l k o : Nat} {num a b : Int32} {its : List (Int32 × Int32)} (h : SMr (M 164) σ) (hw : WFs σ) (hl : l < 6) (hk : k < 8) (hent : sEn σ (8 * l + k) = some (1, num, o, its)) (hlen : its.length < 4) :
    ∃ M', f_X8_puts M (nI l) (nI k) a b = some M' ∧ SMr (M' 164) (setEn σ (8 * l + k) (some (1, num, o, its ++ [(a, b)]))) ∧ M' 164 (33 + 12 * (8 * l + k)) = nI (its.length + 1) ∧ ∀ a, a ≠ 164 → M' a = M a := by
  have hE := h.2.2 (8 * l + k) (by omega)
  rw [hent] at hE
  obtain ⟨n1, n2, n3, n4⟩ := hE
  obtain ⟨n5, n6⟩ := n4 rfl
  have a3 : nI (30 + 12 * (8 * l + k)) + 3 = nI (33 + 12 * (8 * l + k)) := by rw [show (3 : Int32) = nI 3 from rfl, nI_add]; congr 1; omega
  have a4 : nI (30 + 12 * (8 * l + k)) + 4 + 2 * nI its.length = nI (34 + 12 * (8 * l + k) + 2 * its.length) := by
    rw [show (4 : Int32) = nI 4 from rfl, nI_add, two_at]; congr 1; omega
  have a5 : nI (34 + 12 * (8 * l + k) + 2 * its.length) + 1 = nI (35 + 12 * (8 * l + k) + 2 * its.length) := by rw [nI_1]; congr 1; omega
  unfold f_X8_puts
  rw [X8_entryAt, Option.bind_some]
  dsimp only
  rw [a3, rd_nI (by omega) (by decide), Option.bind_some, n5, a4, wra_nI (by omega) (by decide), Option.bind_some, rd_nI (by omega) (by decide), Option.bind_some]
  have hq : wr M 164 (34 + 12 * (8 * l + k) + 2 * its.length) a 164 (33 + 12 * (8 * l + k)) = nI its.length := by rw [wr_ap, if_neg (by omega), n5]
  rw [hq, a4, a5, wra_nI (by omega) (by decide), Option.bind_some, rd_nI (by omega) (by decide), Option.bind_some]
  have hq2 : wr (wr M 164 (34 + 12 * (8 * l + k) + 2 * its.length) a) 164 (35 + 12 * (8 * l + k) + 2 * its.length) b 164 (33 + 12 * (8 * l + k)) = nI its.length := by rw [wr_ap, if_neg (by omega), hq]
  rw [hq2, nI_1, wra_nI (by omega) (by decide), Option.bind_some]
  generalize hB : wr (wr (wr M 164 (34 + 12 * (8 * l + k) + 2 * its.length) a) 164 (35 + 12 * (8 * l + k) + 2 * its.length) b) 164 (33 + 12 * (8 * l + k)) (nI (its.length + 1)) = B
  have b3 : B 164 (33 + 12 * (8 * l + k)) = nI (its.length + 1) := by rw [← hB, wr_ap, if_pos ⟨rfl, rfl⟩]
  have b4 : B 164 (34 + 12 * (8 * l + k) + 2 * its.length) = a := by rw [← hB, wr_ap, if_neg (by omega), wr_ap, if_neg (by omega), wr_ap, if_pos ⟨rfl, rfl⟩]
  have b5 : B 164 (35 + 12 * (8 * l + k) + 2 * its.length) = b := by rw [← hB, wr_ap, if_neg (by omega), wr_ap, if_pos ⟨rfl, rfl⟩]
  have bo : ∀ j, j ≠ 33 + 12 * (8 * l + k) → j ≠ 34 + 12 * (8 * l + k) + 2 * its.length → j ≠ 35 + 12 * (8 * l + k) + 2 * its.length → B 164 j = M 164 j := fun j h1 h2 h3 => by rw [← hB, wr_ap, if_neg (by omega), wr_ap, if_neg (by omega), wr_ap, if_neg (by omega)]
  refine ⟨B, rfl, h.setE hw (by omega) ⟨?_, ?_, fun hf => by omega, fun _ => ⟨?_, fun i x hx => ?_⟩⟩ (fun j hj => bo j (by omega) (by omega) (by omega)), b3, fun c hc => by rw [← hB, wr_ne hc, wr_ne hc, wr_ne hc]⟩
  · rw [bo _ (by omega) (by omega) (by omega)]; exact n1
  · rw [bo _ (by omega) (by omega) (by omega)]; exact n2
  · rw [b3]; simp
  · by_cases hi : i < its.length
    · rw [List.getElem?_append_left hi] at hx
      rw [bo _ (by omega) (by omega) (by omega), bo _ (by omega) (by omega) (by omega)]
      exact n6 i x hx
    · rw [List.getElem?_append_right (by omega)] at hx
      have h0 : i - its.length = 0 := by
        have := (List.getElem?_eq_some_iff.mp hx).1
        simp at this
        omega
      have hi2 : i = its.length := by omega
      rw [h0] at hx
      simp at hx
      subst hx
      rw [hi2]
      exact ⟨b4, b5⟩
theorem X8_copies_l {a b : Nat} (ha : ln a = 640) (hb : ln b = 640) (hab : a ≠ b) : ∀ (m i : Nat) (M : Mem) (fuel : Nat), i + m = 640 → m < fuel → ∃ M', f_X8_copies_2 fuel M a b (nI i) = some M' ∧ (∀ c, c ≠ b → M' c = M c) ∧ (∀ j, j < i → M' b j = M b j) ∧ ∀ j, i ≤ j → j < 640 → M' b j = M a j := by
  intro m
  induction m with
  | zero =>
    intro i M fuel him hf
    obtain ⟨fu, rfl⟩ : ∃ fu, fuel = fu + 1 := ⟨fuel - 1, by omega⟩
    rw [f_X8_copies_2, if_pos (show (640 : Int32) ≤ nI i from nI_le (a := 640) (by omega) (by omega))]
    exact ⟨M, rfl, fun _ _ => rfl, fun _ _ => rfl, fun j _ _ => by omega⟩
  | succ m ih =>
    intro i M fuel him hf
    obtain ⟨fu, rfl⟩ : ∃ fu, fuel = fu + 1 := ⟨fuel - 1, by omega⟩
    rw [f_X8_copies_2, if_neg (show ¬ (640 : Int32) ≤ nI i from nI_ge (b := 640) (by omega) (by decide)), ha, rd_nI (by omega) (by decide), Option.bind_some, hb, wra_nI (by omega) (by decide), Option.bind_some, nI_1]
    obtain ⟨M', e1, e2, e3, e4⟩ := ih (i + 1) (wr M b i (M a i)) fu (by omega) (by omega)
    refine ⟨M', e1, fun c hc => (e2 c hc).trans (wr_ne hc), fun j hj => ?_, fun j h1 h2 => ?_⟩
    · rw [e3 j (by omega), wr_ap, if_neg (by omega)]
    · by_cases hj : j = i
      · subst hj; rw [e3 j (by omega), wr_ap, if_pos ⟨rfl, rfl⟩]
      · rw [e4 j (by omega) h2, wr_ne hab]
theorem SMr.ext {r r' : Nat → Int32} {σ : Sc} (h : SMr r σ) (hw : WFs σ) (hr : ∀ j, j < 640 → r' j = r j) : SMr r' σ := by
  obtain ⟨g1, g2, g3⟩ := h
  refine ⟨fun l hl => by rw [hr _ (by omega), hr _ (by omega), hr _ (by omega)]; exact g1 l hl, fun k hk => by rw [hr _ (by omega)]; exact g2 k hk, fun e he => ?_⟩
  have := g3 e he
  rcases hx : sEn σ e with _ | ⟨f, n, o, its⟩
  · rw [hx] at this
    show r' (30 + 12 * e) = -9
    rw [hr _ (by omega)]; exact this
  · rw [hx] at this
    obtain ⟨a, b, c, d⟩ := this
    have hlen := (hw.2.2 _ _ _ _ _ hx).2.2.1
    exact ⟨by rw [hr _ (by omega)]; exact a, by rw [hr _ (by omega)]; exact b, fun hf => by rw [hr _ (by omega)]; exact c hf, fun hf => ⟨by rw [hr _ (by omega)]; exact (d hf).1, fun i x hi => by
      have hil := (List.getElem?_eq_some_iff.mp hi).1
      rw [hr _ (by omega), hr _ (by omega)]; exact (d hf).2 i x hi⟩⟩
theorem X8_copies {M : Mem} {a b : Nat} {σ : Sc} (ha : ln a = 640) (hb : ln b = 640) (hab : a ≠ b) (h : SMr (M a) σ) (hw : WFs σ) : ∃ M', f_X8_copies M a b = some M' ∧ SMr (M' b) σ ∧ ∀ c, c ≠ b → M' c = M c := by
  unfold f_X8_copies
  obtain ⟨M', e1, e2, e3, e4⟩ := X8_copies_l ha hb hab 640 0 M 1000 rfl (by decide)
  exact ⟨M', e1, h.ext hw (fun j hj => e4 j (Nat.zero_le _) hj), e2⟩
