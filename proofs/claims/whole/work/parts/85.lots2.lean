theorem MT.z {M : Mem} {x : Int32} : MT M (wr M 163 11 x) := ⟨fun i hi => wr_ne (by omega), by rw [wr_ap, if_neg (by decide)], by rw [wr_ap, if_neg (by decide)], by rw [wr_ap, if_neg (by decide)]⟩
theorem pc8 (p : Nat → Bool) : pcN (mskB p 8) ≤ 8 := by rw [pc_cB]; exact cB_le p 8
theorem X8_lots_72 {n w : Nat} {K : Mem → Int32 → Int32 → Int32 → Int32 → Option (Int32 × Mem)} {acc l5 : Int32} : ∀ (m i : Nat) (M : Mem) (fuel : Nat) (x : Sc × Int32), i + m = 4 → m < fuel → WFs x.1 → SMr (M 164) x.1 → M 163 11 = x.2 → ∃ M', f_X8_lots_72 K fuel M (nI n) (nI w) acc l5 (nI i) = f_X8_lots_129 K M' (nI n) (nI w) acc l5 ∧ SMr (M' 164) (drN m x).1 ∧ M' 163 11 = (drN m x).2 ∧ MT M M' ∧ M' 166 = M 166 := by
  intro m
  induction m with
  | zero =>
    intro i M fuel x him hf hw h hz
    obtain ⟨fu, rfl⟩ : ∃ fu, fuel = fu + 1 := ⟨fuel - 1, by omega⟩
    rw [f_X8_lots_72, if_pos (show (4 : Int32) ≤ nI i from nI_le (a := 4) (by omega) (by omega))]
    exact ⟨M, rfl, h, hz, MT.rf, rfl⟩
  | succ m ih =>
    intro i M fuel x him hf hw h hz
    obtain ⟨fu, rfl⟩ : ∃ fu, fuel = fu + 1 := ⟨fuel - 1, by omega⟩
    have b1 : ∀ A, f_X8_draw A 6 = some (nI (drw (A 163 11) 6), wr A 163 11 (nzI (A 163 11))) := fun A => X8_draw (m := 6) (by decide) (by decide)
    have b2 : ∀ A, f_X8_draw A 8 = some (nI (drw (A 163 11) 8), wr A 163 11 (nzI (A 163 11))) := fun A => X8_draw (m := 8) (by decide) (by decide)
    have b3 : ∀ A, f_X8_draw A 100 = some (nI (drw (A 163 11) 100), wr A 163 11 (nzI (A 163 11))) := fun A => X8_draw (m := 100) (by decide) (by decide)
    have hl := drw_lt x.2 (m := 6) (by decide)
    have hk := drw_lt (nzI x.2) (m := 8) (by decide)
    rw [f_X8_lots_72, if_neg (show ¬ (4 : Int32) ≤ nI i from nI_ge (b := 4) (by omega) (by decide)), b1, Option.bind_some]
    dsimp only
    rw [hz]
    have mA : MT M (wr M 163 11 (nzI x.2)) := MT.z
    generalize hA : wr M 163 11 (nzI x.2) = A at *
    have a0 : A 163 11 = nzI x.2 := by rw [← hA, wr_ap, if_pos ⟨rfl, rfl⟩]
    have a1 : ∀ j, j ≠ 163 → A j = M j := fun j hj => by rw [← hA, wr_ne hj]
    rw [b2, Option.bind_some]
    dsimp only
    rw [a0]
    have mB : MT A (wr A 163 11 (nzI (nzI x.2))) := MT.z
    generalize hB : wr A 163 11 (nzI (nzI x.2)) = B at *
    have c0 : B 163 11 = nzI (nzI x.2) := by rw [← hB, wr_ap, if_pos ⟨rfl, rfl⟩]
    have c1 : ∀ j, j ≠ 163 → B j = M j := fun j hj => by rw [← hB, wr_ne hj, a1 j hj]
    rw [m_a0, wra_nI (by omega) (by decide), Option.bind_some, b3, Option.bind_some]
    dsimp only
    have hon : SMr (wr B 164 (3 * drw x.2 6) 1 164) (setOn x.1 (drw x.2 6) true) := SMr.on (r := B 164) (by rw [c1 164 (by decide)]; exact h) hl (by rw [wr_ap, if_pos ⟨rfl, rfl⟩]; rfl) (fun j hj => by rw [wr_ap, if_neg (by omega)])
    have mC : MT B (wr B 164 (3 * drw x.2 6) 1) := MT.one (Or.inl rfl) (fun j hj => wr_ne hj)
    have d0 : wr B 164 (3 * drw x.2 6) 1 163 11 = nzI (nzI x.2) := by rw [wr_ne (by decide)]; exact c0
    have d1 : ∀ j, j ≠ 163 → j ≠ 164 → wr B 164 (3 * drw x.2 6) 1 j = M j := fun j hj h4 => by rw [wr_ne h4, c1 j hj]
    generalize hC : wr B 164 (3 * drw x.2 6) 1 = C at *
    rw [d0]
    have mD : MT C (wr C 163 11 (nzI (nzI (nzI x.2)))) := MT.z
    have hon2 : SMr (wr C 163 11 (nzI (nzI (nzI x.2))) 164) (setOn x.1 (drw x.2 6) true) := by rw [wr_ne (by decide)]; exact hon
    have e0 : wr C 163 11 (nzI (nzI (nzI x.2))) 163 11 = nzI (nzI (nzI x.2)) := by rw [wr_ap, if_pos ⟨rfl, rfl⟩]
    have e1 : wr C 163 11 (nzI (nzI (nzI x.2))) 166 = M 166 := by rw [wr_ne (by decide)]; exact d1 166 (by decide) (by decide)
    generalize hD : wr C 163 11 (nzI (nzI (nzI x.2))) = D at *
    obtain ⟨M1, f1, f2, f3⟩ := X8_tellE (M := D) (t := 0) (n := nI (drw (nzI (nzI x.2)) 100)) (o := 0) (v := some (0, nI (drw (nzI (nzI x.2)) 100), 0, [])) hon2 (hw.on1 _ _) hl hk (fun r a b c d => ⟨a, by rw [b]; rfl, fun q => by omega, fun q => by cases q⟩)
    obtain ⟨M', g1, g2, g3, g4, g5⟩ := ih (i + 1) M1 fu (dr1 x) (by omega) (by omega) (dr1_wf hw) f2 (by rw [f3 163 (by decide)]; exact e0)
    rw [f1, Option.bind_some, nI_1]
    dsimp only
    exact ⟨M', g1, g2, g3, ((((mA.tr mB).tr mC).tr mD).tr (MT.one (Or.inl rfl) f3)).tr g4, by rw [g5, f3 166 (by decide)]; exact e1⟩
theorem X8_lots_63 {σ : Sc} {n w : Nat} (hw : WFs σ) (hn : n ≤ 20) (hw2 : w < 2) : ∀ (m i : Nat) (M : Mem) (fuel : Nat) (acc z : Int32), i + m = n → m < fuel → SMr (M 164) σ → SMr (M 166) σ → M 163 11 = z → ∃ M', f_X8_lots_63 fuel M (nI n) (nI w) acc (nI i) = some (lotT σ w m z acc, M') ∧ MT M M' ∧ SMr (M' 164) σ := by
  intro m
  induction m with
  | zero =>
    intro i M fuel acc z him hf h h6 hz
    obtain ⟨fu, rfl⟩ : ∃ fu, fuel = fu + 1 := ⟨fuel - 1, by omega⟩
    rw [f_X8_lots_63, if_pos (nI_le (by omega) (by omega))]
    exact ⟨M, rfl, MT.rf, h⟩
  | succ m ih =>
    intro i M fuel acc z him hf h h6 hz
    obtain ⟨fu, rfl⟩ : ∃ fu, fuel = fu + 1 := ⟨fuel - 1, by omega⟩
    obtain ⟨M1, a1, a2, a3, a4, a5⟩ := X8_lots_72 (n := n) (w := w) (K := f_X8_lots_63 fu) (acc := acc) (l5 := nI i) 4 0 M 1000 (σ, z) rfl (by decide) hw h hz
    have a1' : f_X8_lots_72 (f_X8_lots_63 fu) 1000 M (nI n) (nI w) acc (nI i) 0 = _ := a1
    have hwd := drN_wf 4 (σ, z) hw
    rw [f_X8_lots_63, if_neg (nI_ge (by omega) (by omega)), a1']
    unfold f_X8_lots_129
    simp only [lotT]
    have fin : ∀ (A : Mem) (v : Nat), FRm 0 M1 A → v = lotV w (drN 4 (σ, z)).1 → ∃ M', f_X8_lots_153 (f_X8_lots_63 fu) A (nI n) (nI w) (nI i) (nI v) acc = some (lotT σ w m (drN 4 (σ, z)).2 (acc + nI (lotV w (drN 4 (σ, z)).1)), M') ∧ MT M M' ∧ SMr (M' 164) σ := by
      intro A v hA hv
      subst hv
      have h66 : SMr (A 166) σ := by rw [hA.1 166 (by omega), a5]; exact h6
      obtain ⟨M2, b1, b2, b3⟩ := X8_copies ln640.2.2.1 ln640.1 (by decide) h66 hw
      obtain ⟨M', f1, f2, f3⟩ := ih (i + 1) M2 fu (acc + nI (lotV w (drN 4 (σ, z)).1)) (drN 4 (σ, z)).2 (by omega) (by omega) b2 (by rw [b3 166 (by decide)]; exact h66) (by rw [b3 163 (by decide), hA.2.1 11 (by decide) (by decide) (by decide)]; exact a3)
      unfold f_X8_lots_153
      rw [b1, Option.bind_some, nI_1]
      exact ⟨M', f1, ((a4.tr hA.mk.mt).tr (MT.one (Or.inl rfl) b3)).tr f2, f3⟩
    by_cases hw0 : w = 0
    · subst hw0
      obtain ⟨M2, c1, c2⟩ := X8_sum hwd a2
      obtain ⟨M', f1⟩ := fin M2 (tvS (drN 4 (σ, z)).1 8) c2 rfl
      rw [if_neg (fun q => q rfl), c1, Option.bind_some]
      exact ⟨M', f1⟩
    · obtain ⟨M2, c1, c2⟩ := X8_allSo (w := 1) hwd (by decide) a2
      have c1' : f_X8_allSo M1 1 = _ := c1
      obtain ⟨M', f1⟩ := fin M2 (8 - pcN (mskB (soS (drN 4 (σ, z)).1 1) 8)) c2 (by unfold lotV; rw [if_neg hw0])
      rw [if_pos (show ¬ nI w = 0 from fun q => hw0 ((nI_eq (b := 0) (by omega) (by decide)).mp q)), c1', Option.bind_some]
      dsimp only
      rw [mskI_B _ 8 (by decide), X8_ones (mskB_lt _ 8 (by decide)), Option.bind_some]
      dsimp only
      rw [show (8 : Int32) - nI (pcN (mskB (soS (drN 4 (σ, z)).1 1) 8)) = nI (8 - pcN (mskB (soS (drN 4 (σ, z)).1 1) 8)) from nI_sub (a := 8) (pc8 _)]
      exact ⟨M', f1⟩
theorem lots_same {S : St} (hw : WFS S) (x y u : Int32) : SAME S (fun M => f_X7_lots M x y u) (fun M => f_X8_lots M x y u) := by
  have c7 : ∀ M, f_X7_lots M x y u = if 1 ≤ x then (if x ≤ 20 then (if u < 0 then f_X7_refuse M (-2) else if u ≤ 1 then (Option.bind (wrf M 104 0 y) fun M6 => f_X7_lots_55 1000 M6 x u 0 0) else f_X7_refuse M (-2)) else f_X7_refuse M (-6)) else f_X7_refuse M (-4) := by
    intro M
    unfold f_X7_lots
    simp only [bind_eta]
  have c8 : ∀ M, f_X8_lots M x y u = if 1 ≤ x then (if x ≤ 20 then (Option.bind (f_X8_isIn M u 0 1) fun z3 => if ¬ z3.1 = 0 then (Option.bind (wrf z3.2 163 11 y) fun M5 => Option.bind (f_X8_copies M5 164 166) fun z6 => f_X8_lots_63 1000 z6 x u 0 0) else f_X8_no z3.2 (-2)) else f_X8_no M (-6)) else f_X8_no M (-4) := by
    intro M
    unfold f_X8_lots
    simp only [bind_eta]
  by_cases hx1 : (1 : Int32) ≤ x
  · by_cases hx20 : x ≤ (20 : Int32)
    · rcases argc u 2 (by decide) with ⟨w, hw2, rfl⟩ | hu
      · have hxn : ∃ n, n ≤ 20 ∧ x = nI n := by
          rcases argo x 20 (by decide) with ⟨t, ht, rfl⟩ | hz | ⟨-, hz⟩
          · exact ⟨t, ht, rfl⟩
          · exact absurd hz (Int32.not_lt.mpr (Int32.le_trans (by decide) hx1))
          · exact absurd hx20 hz
        obtain ⟨n, hn, rfl⟩ := hxn
        refine same_try hw (lotT (gS S) w n y 0) (fun M h => ?_) (fun M h => ?_)
        · rw [c7, if_pos hx1, if_pos hx20, if_neg (nI_pos (by omega)), if_pos (show nI w ≤ 1 from nI_le (b := 1) (by omega) (by decide)), wrf_eq, Option.bind_some]
          have hc : CF M (wr M 104 0 y) := fun j hj => wr_ne (by omega)
          obtain ⟨M', f1, f2⟩ := X7_lots_55 hw hn hw2 n 0 (wr M 104 0 y) 1000 0 y (by omega) (by omega) (h.cf hc) (by rw [wr_ap, if_pos ⟨rfl, rfl⟩])
          exact ⟨M', f1, hc.tr f2⟩
        · rw [c8, if_pos hx1, if_pos hx20, show f_X8_isIn M (nI w) 0 1 = some (1, M) from X8_isIn (n := 2) hw2 (by decide), Option.bind_some]
          dsimp only
          have h1 : SMr (wr M 163 11 y 164) (gS S) := by rw [wr_ne (by decide)]; exact h.1
          obtain ⟨M2, b1, b2, b3⟩ := X8_copies (M := wr M 163 11 y) ln640.1 ln640.2.2.1 (by decide) h1 hw.1
          obtain ⟨M', f1, f2, f3⟩ := X8_lots_63 hw.1 hn hw2 n 0 M2 1000 0 y (by omega) (by omega) (by rw [b3 164 (by decide)]; exact h1) b2 (by rw [b3 163 (by decide), wr_ap, if_pos ⟨rfl, rfl⟩])
          rw [if_pos (show ¬ (1 : Int32) = 0 by decide), wrf_eq, Option.bind_some, b1, Option.bind_some]
          exact ⟨M', f1, (MT.z.tr (MT.one (by omega) b3)).tr f2, f3⟩
      · have hu2 : ¬ (¬ u < 0 ∧ u ≤ 1) := fun q => by
          obtain ⟨i, hi, rfl⟩ := nI_of q.1
          rcases hu with hu | hu
          · exact q.1 hu
          · exact nI_ge (a := 1) (b := i) (by
              by_cases h3 : i < 2
              · exact absurd (nI_lt h3 (by decide)) hu
              · omega) hi q.2
        refine same_no hw (-2) 2 neg2 (by decide) (fun M h => ⟨M, ?_, CF.rf⟩) (fun M h => ⟨M, ?_, MK.rf⟩)
        · rw [c7, if_pos hx1, if_pos hx20]
          by_cases h0 : u < 0
          · rw [if_pos h0]
          · rw [if_neg h0, if_neg (fun q => hu2 ⟨h0, q⟩)]
        · rw [c8, if_pos hx1, if_pos hx20, show f_X8_isIn M u 0 1 = some (0, M) from X8_isIn' (n := 2) hu (by decide) (by decide), Option.bind_some]
          dsimp only
          rw [if_neg (by decide)]
    · refine same_no hw (-6) 6 neg6 (by decide) (fun M h => ⟨M, ?_, CF.rf⟩) (fun M h => ⟨M, ?_, MK.rf⟩)
      · rw [c7, if_pos hx1, if_neg hx20]
      · rw [c8, if_pos hx1, if_neg hx20]
  · refine same_no hw (-4) 4 neg4 (by decide) (fun M h => ⟨M, ?_, CF.rf⟩) (fun M h => ⟨M, ?_, MK.rf⟩)
    · rw [c7, if_neg hx1]
    · rw [c8, if_neg hx1]
