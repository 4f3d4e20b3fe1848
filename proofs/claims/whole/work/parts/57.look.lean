/-! calls that only look -/
theorem cnt_at2 (σ : Sc) : ∀ (ds : List Nat) (j l : Nat), ds.Pairwise (fun a b => behS σ a b = true) → ds[j]? = some l → ds.countP (fun m => behS σ m l) = j := by
  intro ds
  induction ds with
  | nil => intro j l _ h; simp at h
  | cons d ds ih =>
    intro j l hp hj
    rw [List.pairwise_cons] at hp
    cases j with
    | zero =>
      simp at hj
      subst hj
      rw [List.countP_cons_of_neg (by rw [behS_ir]; simp), List.countP_eq_zero]
      intro x hx
      rw [behS_as (hp.1 x hx)]; simp
    | succ j =>
      rw [List.getElem?_cons_succ] at hj
      have hl := List.mem_of_getElem? hj
      rw [List.countP_cons_of_pos (p := fun m => behS σ m l) (hp.1 l hl), ih j l hp.2 hj]
/-- how many layers come after -/
def posS (σ : Sc) (l : Nat) : Nat := (List.range 6).countP (fun m => behS σ m l)
theorem pos_at {σ : Sc} {j l : Nat} (h : (ordS σ)[j]? = some l) : posS σ l = j := by
  unfold posS
  rw [← (ordD_perm (rkO σ) 6).countP_eq, cnt_at2 σ (ordD (rkO σ) 6) j l (ordD_pw σ 6) h]
theorem X4_howManyBehind {M : Mem} {s l : Nat} {σ : Sc} (h : SCr M s σ) (hl : l < 6) : f_X4_howManyBehind M s (nI l) = some (nI (posS σ l), M) := by
  obtain ⟨j, hj⟩ := List.getElem?_of_mem ((ordS_mem σ l).mpr hl)
  have hj6 := (List.getElem?_eq_some_iff.mp hj).1
  have hl6 := ordS_len σ
  rw [hl6] at hj6
  rw [pos_at hj]
  have key : ∀ (m c fuel : Nat), c + m = j → m < fuel → f_X4_howManyBehind_4 fuel M s (nI l) (nI c) (nI (5 - c)) = some (nI j, M) := by
    intro m
    induction m with
    | zero =>
      intro c fuel hc hf
      obtain ⟨fu, rfl⟩ : ∃ fu, fuel = fu + 1 := ⟨fuel - 1, by omega⟩
      have hcj : c = j := by omega
      subst hcj
      rw [f_X4_howManyBehind_4]
      by_cases h5 : c = 5
      · subst h5
        rw [if_pos (by decide)]
      · have hd := h.2.2.2.1 c l hj
        rw [hl6] at hd
        rw [if_neg (show ¬ nI (5 - c) ≤ 0 from nI_ge (b := 5 - c) (a := 0) (by omega) (by omega)), rd_nI (by omega) (by decide), Option.bind_some, show 5 - c = 6 - 1 - c by omega, hd, if_pos rfl]
    | succ m ih =>
      intro c fuel hc hf
      obtain ⟨fu, rfl⟩ : ∃ fu, fuel = fu + 1 := ⟨fuel - 1, by omega⟩
      obtain ⟨d, hd⟩ : ∃ d, (ordS σ)[c]? = some d := ⟨_, List.getElem?_eq_getElem (show c < (ordS σ).length by omega)⟩
      have hd6 : d < 6 := (ordS_mem σ d).mp (List.mem_of_getElem? hd)
      have hM := h.2.2.2.1 c d hd
      rw [hl6] at hM
      have hne : ¬ nI d = nI l := fun q => by
        have := (nI_eq (by omega) (by omega)).mp q
        subst this
        have := (pos_at hd).symm.trans (pos_at hj)
        omega
      rw [f_X4_howManyBehind_4, if_neg (show ¬ nI (5 - c) ≤ 0 from nI_ge (b := 5 - c) (a := 0) (by omega) (by omega)), rd_nI (by omega) (by decide), Option.bind_some, show 5 - c = 6 - 1 - c by omega, hM, if_neg hne, nI_1, nI_m1 (by omega), show 6 - 1 - c - 1 = 5 - (c + 1) by omega]
      exact ih (c + 1) fu (by omega) (by omega)
  unfold f_X4_howManyBehind
  exact key j 0 1000 (by omega) (by omega)
theorem X8_layer_75 {M : Mem} {l : Nat} {σ : Sc} (h : SMr (M 164) σ) (hw : WFs σ) (hl : l < 6) : f_X8_layer_75 1000 M (nI l) 0 0 = some (nI (posS σ l), M) := by
  have key : ∀ (j m c fuel : Nat), m + j = 6 → j < fuel → c + ((List.range 6).drop m).countP (fun a => behS σ a l) = posS σ l → f_X8_layer_75 fuel M (nI l) (nI c) (nI m) = some (nI (posS σ l), M) := by
    intro j
    induction j with
    | zero =>
      intro m c fuel hm hf hc
      obtain ⟨fu, rfl⟩ : ∃ fu, fuel = fu + 1 := ⟨fuel - 1, by omega⟩
      have : m = 6 := by omega
      subst this
      have hc2 : c = posS σ l := by
        rw [show (List.range 6).drop 6 = [] from rfl] at hc
        simpa using hc
      rw [f_X8_layer_75, if_pos (show (6 : Int32) ≤ nI 6 by decide), hc2]
    | succ j ih =>
      intro m c fuel hm hf hc
      obtain ⟨fu, rfl⟩ : ∃ fu, fuel = fu + 1 := ⟨fuel - 1, by omega⟩
      rw [f_X8_layer_75, if_neg (show ¬ (6 : Int32) ≤ nI m from nI_ge (b := 6) (by omega) (by decide)), X8_isBehind hw h (by omega) hl, Option.bind_some]
      try dsimp only
      have hdr : (List.range 6).drop m = m :: (List.range 6).drop (m + 1) := by
        rw [List.drop_eq_getElem_cons (by simp; omega)]; simp
      rw [hdr] at hc
      by_cases hb : behS σ m l = true
      · rw [if_pos hb, if_neg (by decide), nI_1, nI_1]
        rw [List.countP_cons_of_pos (p := fun a => behS σ a l) hb] at hc
        exact ih (m + 1) (c + 1) fu (by omega) (by omega) (by omega)
      · rw [if_neg hb, if_pos rfl, nI_1, Int32.add_zero]
        rw [List.countP_cons_of_neg (p := fun a => behS σ a l) hb] at hc
        exact ih (m + 1) c fu (by omega) (by omega) hc
  exact key 6 0 0 1000 rfl (by decide) (by rw [List.drop_zero, Nat.zero_add]; rfl)
/-- what a call that changes nothing answers -/
theorem same_look {α : Type} {S : St} {X Y : Mem → Option (α × Mem)} (hw : WFS S) (a : α) (h7 : ∀ M, ClsI M S → ∃ M', X M = some (a, M') ∧ CF M M') (h8 : ∀ M, ModI M S → ∃ M', Y M = some (a, M') ∧ MK M M') : SAME S X Y :=
  ⟨a, S, fun M h => by obtain ⟨M', e1, e2⟩ := h7 M h; exact ⟨M', e1, h.cf e2, e2.f7⟩, fun M h => by obtain ⟨M', e1, e2⟩ := h8 M h; exact ⟨M', e1, h.mk e2, e2.f8⟩, hw⟩
theorem same_no {S : St} {X Y : Mem → Option (Int32 × Mem)} (hw : WFS S) (x : Int32) (c : Nat) (hx : -x = nI c) (hc : c < 7) (h7 : ∀ M, ClsI M S → ∃ M', X M = f_X7_refuse M' x ∧ CF M M') (h8 : ∀ M, ModI M S → ∃ M', Y M = f_X8_no M' x ∧ MK M M') : SAME S X Y :=
  ⟨x, bump S c, fun M h => by
    obtain ⟨M', e1, e2⟩ := h7 M h
    obtain ⟨M2, f1, f2, f3⟩ := X7_refuse hx hc (h.cf e2)
    exact ⟨M2, by rw [e1, f1], f2, e2.f7.tr f3⟩, fun M h => by
    obtain ⟨M', e1, e2⟩ := h8 M h
    obtain ⟨M2, f1, f2, f3⟩ := X8_no hx hc (h.mk e2)
    exact ⟨M2, by rw [e1, f1], f2, e2.f8.tr f3⟩, hw⟩
theorem six_cases {y : Int32} : (y = 0 ∨ y = 1 ∨ y = 2 ∨ y = 3 ∨ y = 4 ∨ y = 5) ∨ (y < 0 ∨ ¬ y < 6) := by
  rcases argc y 6 (by decide) with ⟨k, hk, rfl⟩ | h
  · left
    have : k = 0 ∨ k = 1 ∨ k = 2 ∨ k = 3 ∨ k = 4 ∨ k = 5 := by omega
    rcases this with rfl | rfl | rfl | rfl | rfl | rfl
    · exact Or.inl rfl
    · exact Or.inr (Or.inl rfl)
    · exact Or.inr (Or.inr (Or.inl rfl))
    · exact Or.inr (Or.inr (Or.inr (Or.inl rfl)))
    · exact Or.inr (Or.inr (Or.inr (Or.inr (Or.inl rfl))))
    · exact Or.inr (Or.inr (Or.inr (Or.inr (Or.inr rfl))))
  · exact Or.inr h
theorem ne_of_bad {y : Int32} {n i : Nat} (h : y < 0 ∨ ¬ y < nI n) (hi : i < n) (hn : n < 2 ^ 31) : ¬ y = nI i := by
  rintro rfl
  rcases h with h | h
  · exact nI_pos (by omega) h
  · exact h (nI_lt hi hn)
theorem layer_same {S : St} (hw : WFS S) (x y : Int32) : SAME S (fun M => f_X7_layer M x y) (fun M => f_X8_layer M x y) := by
  rcases argL x with ⟨l, hl, rfl⟩ | hx
  · have p7 : ∀ M, f_X7_layer M (nI l) y = if y = 0 then (Option.bind (f_X4_isOn M 1 (nI l)) fun z4 => if z4.1 = 0 then some (0, z4.2) else some (1, z4.2)) else if y = 1 then (Option.bind (rd 6 (M 2) (nI l)) fun v7 => some (v7, M)) else if y = 2 then (Option.bind (rd 6 (M 3) (nI l)) fun v9 => some (v9, M)) else if y = 3 then (Option.bind (f_X4_rank M 1 (nI l)) fun z11 => some (z11.1 + 100, z11.2)) else if y = 4 then f_X4_keyBits M 1 (nI l) else if y = 5 then f_X4_howManyBehind M 1 (nI l) else f_X7_refuse M (-2) := by
      intro M
      unfold f_X7_layer
      rw [X7_noLayer hl, Option.bind_some]
      try dsimp only
      rw [if_pos rfl]
      simp only [bind_eta]
    have p8 : ∀ M, f_X8_layer M (nI l) y = Option.bind (f_X8_isIn M y 0 5) fun z3 => if ¬ z3.1 = 0 then (if 3 ≤ y then (if ¬ y = 3 then (if ¬ y = 4 then f_X8_layer_75 1000 z3.2 (nI l) 0 0 else f_X8_entries z3.2 (nI l)) else (Option.bind (f_X8_rank z3.2 (nI l)) fun z9 => some (z9.1 + 100, z9.2))) else (Option.bind (rd 640 (z3.2 164) (3 * nI l + y)) fun v10 => some (v10, z3.2))) else f_X8_no z3.2 (-2) := by
      intro M
      unfold f_X8_layer
      rw [X8_isLayer hl, Option.bind_some]
      try dsimp only
      rw [if_pos (by decide)]
      simp only [bind_eta]
    have in8 : ∀ (M : Mem) (i : Nat), i < 6 → f_X8_isIn M (nI i) 0 5 = some (1, M) := fun M i hi => X8_isIn (n := 6) hi (by decide)
    rcases six_cases (y := y) with (rfl | rfl | rfl | rfl | rfl | rfl) | hy
    · refine same_look hw (if sOn (gS S) l = true then 1 else 0) (fun M h => ?_) (fun M h => ?_)
      · try dsimp only
        rw [p7, if_pos rfl, X4_isOn h.1 hl, Option.bind_some]
        refine ⟨M, ?_, CF.rf⟩
        by_cases hb : sOn (gS S) l = true
        · simp [hb]
        · simp [hb]
      · try dsimp only
        rw [p8, show f_X8_isIn M 0 0 5 = some (1, M) from in8 M 0 (by decide), Option.bind_some]
        try dsimp only
        rw [if_pos (by decide), if_neg (by decide), m_a0, rd_nI (by omega) (by decide), Option.bind_some, (h.1.1 l hl).1]
        exact ⟨M, rfl, MK.rf⟩
    · refine same_look hw (nI (sKd (gS S) l)) (fun M h => ?_) (fun M h => ?_)
      · try dsimp only
        rw [p7, if_neg (by decide), if_pos rfl, rd_nI hl (by decide), Option.bind_some, (h.1.2.1 l hl).1]
        exact ⟨M, rfl, CF.rf⟩
      · try dsimp only
        rw [p8, show f_X8_isIn M 1 0 5 = some (1, M) from in8 M 1 (by decide), Option.bind_some]
        try dsimp only
        rw [if_pos (by decide), if_neg (by decide), m_a1, rd_nI (by omega) (by decide), Option.bind_some, (h.1.1 l hl).2.1]
        exact ⟨M, rfl, MK.rf⟩
    · refine same_look hw (nI (sFg (gS S) l)) (fun M h => ?_) (fun M h => ?_)
      · try dsimp only
        rw [p7, if_neg (by decide), if_neg (by decide), if_pos rfl, rd_nI hl (by decide), Option.bind_some, (h.1.2.1 l hl).2]
        exact ⟨M, rfl, CF.rf⟩
      · try dsimp only
        rw [p8, show f_X8_isIn M 2 0 5 = some (1, M) from in8 M 2 (by decide), Option.bind_some]
        try dsimp only
        rw [if_pos (by decide), if_neg (by decide), m_a2, rd_nI (by omega) (by decide), Option.bind_some, (h.1.1 l hl).2.2]
        exact ⟨M, rfl, MK.rf⟩
    · refine same_look hw (rI (rkO (gS S) l) + 100) (fun M h => ?_) (fun M h => ?_)
      · try dsimp only
        rw [p7, if_neg (by decide), if_neg (by decide), if_neg (by decide), if_pos rfl, X4_rank hl (h.1.2.1 l hl).1 (h.1.2.1 l hl).2 (hw.1.1 l).1 (hw.1.1 l).2, Option.bind_some]
        exact ⟨M, rfl, CF.rf⟩
      · try dsimp only
        rw [p8, show f_X8_isIn M 3 0 5 = some (1, M) from in8 M 3 (by decide), Option.bind_some]
        try dsimp only
        rw [if_pos (by decide), if_pos (by decide), if_neg (by decide), X8_rank hw.1 h.1 hl, Option.bind_some]
        exact ⟨M, rfl, MK.rf⟩
    · refine same_look hw (nI (kbS (gS S) l)) (fun M h => ?_) (fun M h => ?_)
      · try dsimp only
        rw [p7, if_neg (by decide), if_neg (by decide), if_neg (by decide), if_neg (by decide), if_pos rfl, X4_keyBits h.1 hw.1 hl]
        exact ⟨M, rfl, CF.rf⟩
      · try dsimp only
        rw [p8, show f_X8_isIn M 4 0 5 = some (1, M) from in8 M 4 (by decide), Option.bind_some]
        try dsimp only
        rw [if_pos (by decide), if_pos (by decide), if_pos (by decide), if_neg (by decide), X8_entries h.1 hw.1 hl]
        exact ⟨M, rfl, MK.rf⟩
    · refine same_look hw (nI (posS (gS S) l)) (fun M h => ?_) (fun M h => ?_)
      · try dsimp only
        rw [p7, if_neg (by decide), if_neg (by decide), if_neg (by decide), if_neg (by decide), if_neg (by decide), if_pos rfl, X4_howManyBehind h.1 hl]
        exact ⟨M, rfl, CF.rf⟩
      · try dsimp only
        rw [p8, show f_X8_isIn M 5 0 5 = some (1, M) from in8 M 5 (by decide), Option.bind_some]
        try dsimp only
        rw [if_pos (by decide), if_pos (by decide), if_pos (by decide), if_pos (by decide), X8_layer_75 h.1 hw.1 hl]
        exact ⟨M, rfl, MK.rf⟩
    · have nb : ∀ i, i < 6 → ¬ y = nI i := fun i hi => ne_of_bad (n := 6) hy hi (by decide)
      refine same_no hw (-2) 2 neg2 (by decide) (fun M h => ?_) (fun M h => ?_)
      · try dsimp only
        rw [p7, if_neg (show ¬ y = 0 from nb 0 (by decide)), if_neg (show ¬ y = 1 from nb 1 (by decide)), if_neg (show ¬ y = 2 from nb 2 (by decide)), if_neg (show ¬ y = 3 from nb 3 (by decide)), if_neg (show ¬ y = 4 from nb 4 (by decide)), if_neg (show ¬ y = 5 from nb 5 (by decide))]
        exact ⟨M, rfl, CF.rf⟩
      · try dsimp only
        rw [p8, show f_X8_isIn M y 0 5 = some (0, M) from X8_isIn' (n := 6) hy (by decide) (by decide), Option.bind_some]
        try dsimp only
        rw [if_neg (by decide)]
        exact ⟨M, rfl, MK.rf⟩
  · refine same_no hw (-1) 1 neg1 (by decide) (fun M h => ?_) (fun M h => ?_)
    · unfold f_X7_layer
      try dsimp only
      rw [X7_noLayer' hx, Option.bind_some]
      try dsimp only
      rw [if_neg (by decide), bind_eta]
      exact ⟨M, rfl, CF.rf⟩
    · unfold f_X8_layer
      try dsimp only
      rw [X8_isLayer' hx, Option.bind_some]
      try dsimp only
      rw [if_neg (by decide), bind_eta]
      exact ⟨M, rfl, MK.rf⟩
theorem entry_same {S : St} (hw : WFS S) (x y w : Int32) : SAME S (fun M => f_X7_entry M x y w) (fun M => f_X8_entry_ M x y w) := by
  rcases argL x with ⟨l, hl, rfl⟩ | hx
  · rcases argK y with ⟨k, hk, rfl⟩ | hy
    · have he48 : 8 * l + k < 48 := by omega
      rcases hent : sEn (gS S) (8 * l + k) with _ | ⟨f, n, o, its⟩
      · have hh : hasE (gS S) l k = false := by unfold hasE; rw [hent]; rfl
        refine same_no hw (-1) 1 neg1 (by decide) (fun M h => ?_) (fun M h => ?_)
        · unfold f_X7_entry
          try dsimp only
          rw [noEntry_of h hw hl hk, hh, if_neg (by decide), Option.bind_some]
          try dsimp only
          rw [if_neg (by decide), bind_eta]
          exact ⟨M, rfl, CF.rf⟩
        · unfold f_X8_entry_
          try dsimp only
          rw [X8_isLayer hl, Option.bind_some]
          try dsimp only
          rw [if_neg (by decide), X8_isKey hk, Option.bind_some]
          try dsimp only
          rw [if_neg (by decide), X8_has hw.1 h.1 hl hk, hh, if_neg (by decide), Option.bind_some]
          try dsimp only
          rw [if_neg (by decide), bind_eta]
          exact ⟨M, rfl, MK.rf⟩
      · have hh : hasE (gS S) l k = true := by unfold hasE; rw [hent]; rfl
        obtain ⟨w1, w2, w3, w4, w5⟩ := hw.1.2.2 _ _ _ _ _ hent
        obtain ⟨t2, t3, t1, t0⟩ := form_t f w1
        have p7 : ∀ M, ClsI M S → f_X7_entry M (nI l) (nI k) w = if w = 0 then some (nI f, M) else if w = 1 then some (if f = 1 then nI its.length else if f = 0 ∨ f = 3 then n else 0, M) else if w = 2 then some (if f = 2 ∨ f = 3 then nI o else -9, M) else f_X7_refuse M (-2) := by
          intro M h
          have hE := h.1.2.2.2.2 _ he48
          rw [hent] at hE
          obtain ⟨n1, n2, n3, n4⟩ := hE
          unfold f_X7_entry
          rw [noEntry_of h hw hl hk, hh, if_pos rfl, Option.bind_some]
          try dsimp only
          rw [if_pos rfl, X7_slotOf, Option.bind_some]
          try dsimp only
          rw [rd_nI he48 (by decide), rd_nI he48 (by decide), rd_nI he48 (by decide), Option.bind_some, Option.bind_some, Option.bind_some, bind_eta, show M 6 (8 * l + k) = nI f from n1, show M 7 (8 * l + k) = _ from n2, show M 8 (8 * l + k) = _ from n3]
        have p8 : ∀ M, ModI M S → f_X8_entry_ M (nI l) (nI k) w = Option.bind (f_X8_isIn M w 0 2) fun z9 => if ¬ z9.1 = 0 then f_X8_entry__80 z9.2 w (nI (30 + 12 * (8 * l + k))) (nI f) (if f = 2 ∨ f = 3 then 1 else 0) else f_X8_no z9.2 (-2) := by
          intro M h
          have hE := h.1.2.2 _ he48
          rw [hent] at hE
          unfold f_X8_entry_
          rw [X8_isLayer hl, Option.bind_some]
          try dsimp only
          rw [if_neg (by decide), X8_isKey hk, Option.bind_some]
          try dsimp only
          rw [if_neg (by decide), X8_has hw.1 h.1 hl hk, hh, if_pos rfl, Option.bind_some]
          try dsimp only
          rw [if_pos (by decide)]
          have hin : ∀ a, f_X8_isIn M w 0 2 = some (a, M) ∨ f_X8_isIn M w 0 2 = some (a, M) ∨ True := fun _ => Or.inr (Or.inr trivial)
          rcases argc w 3 (by decide) with ⟨i, hi, rfl⟩ | hbad
          · rw [show f_X8_isIn M (nI i) 0 2 = some (1, M) from X8_isIn (n := 3) hi (by decide), Option.bind_some, Option.bind_some]
            try dsimp only
            rw [if_pos (by decide), if_pos (by decide), X8_entryAt, Option.bind_some]
            try dsimp only
            rw [Int32.add_zero, rd_nI (by omega) (by decide), Option.bind_some, hE.1]
            unfold f_X8_entry__75
            simp only [t2, t3]
            by_cases f2 : f = 2
            · rw [if_pos f2, if_pos (Or.inl f2)]
            · rw [if_neg f2]
              by_cases f3 : f = 3
              · rw [if_neg (fun q => q f3), if_pos (Or.inr f3)]
              · rw [if_pos f3, if_neg (by omega)]
          · rw [show f_X8_isIn M w 0 2 = some (0, M) from X8_isIn' (n := 3) hbad (by decide) (by decide), Option.bind_some, Option.bind_some]
            try dsimp only
            rw [if_neg (by decide), if_neg (by decide), bind_eta]
        have in8 : ∀ (M : Mem) (i : Nat), i < 3 → f_X8_isIn M (nI i) 0 2 = some (1, M) := fun M i hi => X8_isIn (n := 3) hi (by decide)
        have a1 : nI (30 + 12 * (8 * l + k)) + 1 = nI (31 + 12 * (8 * l + k)) := by rw [nI_1]; congr 1; omega
        have a2 : nI (30 + 12 * (8 * l + k)) + 2 = nI (32 + 12 * (8 * l + k)) := by rw [show (2 : Int32) = nI 2 from rfl, nI_add]; congr 1; omega
        have a3 : nI (30 + 12 * (8 * l + k)) + 3 = nI (33 + 12 * (8 * l + k)) := by rw [show (3 : Int32) = nI 3 from rfl, nI_add]; congr 1; omega
        rcases argc w 3 (by decide) with ⟨i, hi, rfl⟩ | hbad
        · have hi3 : i = 0 ∨ i = 1 ∨ i = 2 := by omega
          rcases hi3 with rfl | rfl | rfl
          · refine same_look hw (nI f) (fun M h => ?_) (fun M h => ?_)
            · try dsimp only
              rw [p7 M h, if_pos (by decide)]
              exact ⟨M, rfl, CF.rf⟩
            · try dsimp only
              rw [p8 M h, in8 M 0 hi, Option.bind_some]
              try dsimp only
              rw [if_pos (by decide)]
              unfold f_X8_entry__80
              rw [if_neg (by decide)]
              exact ⟨M, rfl, MK.rf⟩
          · refine same_look hw (if f = 1 then nI its.length else if f = 0 ∨ f = 3 then n else 0) (fun M h => ?_) (fun M h => ?_)
            · try dsimp only
              rw [p7 M h, if_neg (by decide), if_pos (by decide)]
              exact ⟨M, rfl, CF.rf⟩
            · have hE := h.1.2.2 _ he48
              rw [hent] at hE
              try dsimp only
              rw [p8 M h, in8 M 1 hi, Option.bind_some]
              try dsimp only
              rw [if_pos (by decide)]
              unfold f_X8_entry__80
              rw [if_pos (by decide), if_neg (by decide)]
              simp only [t1]
              by_cases f1 : f = 1
              · rw [if_neg (fun q => q f1), if_pos f1, a3, rd_nI (by omega) (by decide), Option.bind_some, (hE.2.2.2 f1).1]
                exact ⟨M, rfl, MK.rf⟩
              · rw [if_pos f1, if_neg f1, a1, rd_nI (by omega) (by decide), Option.bind_some, hE.2.1]
                exact ⟨M, rfl, MK.rf⟩
          · refine same_look hw (if f = 2 ∨ f = 3 then nI o else -9) (fun M h => ?_) (fun M h => ?_)
            · try dsimp only
              rw [p7 M h, if_neg (by decide), if_neg (by decide), if_pos (by decide)]
              exact ⟨M, rfl, CF.rf⟩
            · have hE := h.1.2.2 _ he48
              rw [hent] at hE
              try dsimp only
              rw [p8 M h, in8 M 2 hi, Option.bind_some]
              try dsimp only
              rw [if_pos (by decide)]
              unfold f_X8_entry__80
              rw [if_pos (by decide), if_pos (by decide)]
              by_cases f23 : f = 2 ∨ f = 3
              · rw [if_pos f23, if_pos f23, if_neg (by decide), a2, rd_nI (by omega) (by decide), Option.bind_some, hE.2.2.1 f23]
                exact ⟨M, rfl, MK.rf⟩
              · rw [if_neg f23, if_neg f23, if_pos rfl]
                exact ⟨M, rfl, MK.rf⟩
        · have nb : ∀ i, i < 3 → ¬ w = nI i := fun i hi => ne_of_bad (n := 3) hbad hi (by decide)
          refine same_no hw (-2) 2 neg2 (by decide) (fun M h => ?_) (fun M h => ?_)
          · try dsimp only
            rw [p7 M h, if_neg (show ¬ w = 0 from nb 0 (by decide)), if_neg (show ¬ w = 1 from nb 1 (by decide)), if_neg (show ¬ w = 2 from nb 2 (by decide))]
            exact ⟨M, rfl, CF.rf⟩
          · try dsimp only
            rw [p8 M h, show f_X8_isIn M w 0 2 = some (0, M) from X8_isIn' (n := 3) hbad (by decide) (by decide), Option.bind_some]
            try dsimp only
            rw [if_neg (by decide)]
            exact ⟨M, rfl, MK.rf⟩
    · refine same_no hw (-1) 1 neg1 (by decide) (fun M h => ?_) (fun M h => ?_)
      · unfold f_X7_entry
        try dsimp only
        rw [noEntry_bad (Or.inr ⟨⟨l, hl, rfl⟩, hy⟩), Option.bind_some]
        try dsimp only
        rw [if_neg (by decide), bind_eta]
        exact ⟨M, rfl, CF.rf⟩
      · unfold f_X8_entry_
        try dsimp only
        rw [X8_isLayer hl, Option.bind_some]
        try dsimp only
        rw [if_neg (by decide), X8_isKey' hy, Option.bind_some]
        try dsimp only
        rw [if_pos rfl, bind_eta]
        exact ⟨M, rfl, MK.rf⟩
  · refine same_no hw (-1) 1 neg1 (by decide) (fun M h => ?_) (fun M h => ?_)
    · unfold f_X7_entry
      try dsimp only
      rw [noEntry_bad (Or.inl hx), Option.bind_some]
      try dsimp only
      rw [if_neg (by decide), bind_eta]
      exact ⟨M, rfl, CF.rf⟩
    · unfold f_X8_entry_
      try dsimp only
      rw [X8_isLayer' hx, Option.bind_some]
      try dsimp only
      rw [if_pos rfl, bind_eta]
      exact ⟨M, rfl, MK.rf⟩
