def PM (M : Mem) (ls : List Int32) (s : PS) : Prop := LsI (M 163 7) (M 169) ls ∧ M 163 9 = nI (ps s) ∧ ps s ≤ ls.length ∧ M 163 10 = (match s with | .inl q => -1000 - nI q | .inr _ => 0)
def FZ (d : Bool) (M M' : Mem) : Prop := (∀ i, i ≠ 163 → i ≠ 164 → M' i = M i) ∧ (∀ j, j ≠ 9 → j ≠ 10 → M' 163 j = M 163 j) ∧ (d = false → M' 164 = M 164)
theorem FZ.rf {d : Bool} {M : Mem} : FZ d M M := ⟨fun _ _ _ => rfl, fun _ _ _ => rfl, fun _ => rfl⟩
theorem FZ.tr {d : Bool} {A B C : Mem} (h : FZ d A B) (g : FZ d B C) : FZ d A C := ⟨fun i a b => (g.1 i a b).trans (h.1 i a b), fun j a b => (g.2.1 j a b).trans (h.2.1 j a b), fun a => (g.2.2 a).trans (h.2.2 a)⟩
theorem FZ.up {d : Bool} {A B : Mem} (h : FZ false A B) : FZ d A B := ⟨h.1, h.2.1, fun _ => h.2.2 rfl⟩
theorem FZ.w {d : Bool} {M : Mem} {k : Nat} {x : Int32} (h : k = 9 ∨ k = 10) : FZ d M (wr M 163 k x) := ⟨fun i a _ => wr_ne a, fun j a b => by rw [wr_ap, if_neg (by omega)], fun _ => wr_ne (by decide)⟩
/-- only the reference's scene changed -/
theorem FZ.sc {A B : Mem} (h : ∀ i, i ≠ 164 → B i = A i) : FZ true A B := ⟨fun i _ b => h i b, fun j _ _ => by rw [h 163 (by decide)], fun q => by cases q⟩
theorem PM.sc {A B : Mem} {ls : List Int32} {s : PS} (h : PM A ls s) (g : ∀ i, i ≠ 164 → B i = A i) : PM B ls s := by unfold PM at *; rw [g 163 (by decide), g 169 (by decide)]; exact h
theorem flt_t : ∀ q, q < 100 → ¬ (-1000 : Int32) - nI q = 0 ∧ ¬ (-2000 : Int32) - nI q = 0 := by decide +kernel
theorem PM.flt {M : Mem} {ls : List Int32} {q : Nat} (hl : LW ls) (h : PM M ls (.inl q)) : ¬ M 163 10 = 0 := by
  have h3 : q ≤ ls.length := h.2.2.1
  have hl1 := hl.1
  rw [show M 163 10 = -1000 - nI q from h.2.2.2]
  exact (flt_t q (by omega)).1
theorem X8_isAt {M : Mem} {ls : List Int32} {p lo hi : Nat} (hl : LW ls) (hlo : lo ≤ 255) (hhi : hi ≤ 255) (h : PM M ls (.inr p)) : f_X8_isAt M (nI lo) (nI hi) = some (if lo ≤ cN ls p ∧ cN ls p ≤ hi then 1 else 0, M) := by
  obtain ⟨h1, h2, h3, h4⟩ := h
  have hl1 := hl.1
  have h3' : p ≤ ls.length := h3
  have h2' : M 163 9 = nI p := h2
  unfold f_X8_isAt
  rw [h1.1, h2']
  by_cases hp : p < ls.length
  · obtain ⟨n, hn, e1, e2⟩ := lw_in hl hp
    rw [if_neg (nI_ge (by omega) (by omega)), rd_nI (by omega) (by decide), Option.bind_some, h1.2 p _ e1, e2]
    by_cases ha : lo ≤ n
    · rw [if_neg (nI_nlt (by omega) (by omega)), Option.bind_some]
      by_cases hb : n ≤ hi
      · rw [if_neg (nI_nlt (by omega) (by omega)), if_pos ⟨ha, hb⟩]; rfl
      · rw [if_pos (nI_lt (by omega) (by omega)), if_neg (fun q => hb q.2)]; rfl
    · rw [if_pos (nI_lt (by omega) (by omega)), if_neg (fun q => ha q.1)]; rfl
  · rw [if_pos (nI_le (by omega) (by omega)), lw_out hp, if_neg (by omega)]; rfl
theorem X8_takT {M : Mem} {ls : List Int32} {s : PS} {lo hi : Nat} (hl : LW ls) (hlo : lo ≤ 255) (hhi : hi ≤ 255) (h : PM M ls s) : ∃ M', f_X8_takes_ M (nI lo) (nI hi) = some (nI (tv ls lo hi s), M') ∧ PM M' ls (tk ls lo hi s) ∧ FZ false M M' := by
  unfold f_X8_takes_
  rcases s with q | p
  · rw [if_neg (h.flt hl)]
    exact ⟨M, rfl, h, FZ.rf⟩
  · have h0 : M 163 10 = 0 := h.2.2.2
    have h9 : M 163 9 = nI p := h.2.1
    have h3 : p ≤ ls.length := h.2.2.1
    have hl1 := hl.1
    rw [if_pos h0, X8_isAt hl hlo hhi h, Option.bind_some]
    dsimp only
    unfold tv tk
    dsimp only
    by_cases hc : lo ≤ cN ls p ∧ cN ls p ≤ hi
    · have hp := cN_lt hc.2 hhi
      obtain ⟨n, hn, e1, e2⟩ := lw_in hl hp
      rw [if_pos hc, if_pos (show ¬ (1 : Int32) = 0 by decide), wrf_eq, Option.bind_some, if_pos hc, if_pos hc]
      rw [wr_sf, h9, nI_1, nI_pred1 (by omega), Nat.add_sub_cancel, wr_ne (show 169 ≠ 163 by decide), rd_nI (by omega) (by decide), Option.bind_some, h.1.2 p _ e1, e2, nI_sub (by omega)]
      refine ⟨_, rfl, ⟨?_, wr_sf, hp, ?_⟩, FZ.w (Or.inl rfl)⟩
      · rw [wr_ap, if_neg (by decide), wr_ne (by decide)]; exact h.1
      · rw [wr_ap, if_neg (by decide)]; exact h0
    · rw [if_neg hc, if_neg (show ¬ ¬ (0 : Int32) = 0 by decide), wrf_eq, Option.bind_some, if_neg hc, if_neg hc]
      refine ⟨_, rfl, ⟨?_, ?_, h3, ?_⟩, FZ.w (Or.inr rfl)⟩
      · rw [wr_ap, if_neg (by decide), wr_ne (by decide)]; exact h.1
      · rw [wr_ap, if_neg (by decide)]; exact h9
      · rw [wr_sf, h9]
theorem X8_digit {M : Mem} {ls : List Int32} {s : PS} (hl : LW ls) (h : PM M ls s) : ∃ M', f_X8_digit M = some (nI (dv ls s), M') ∧ PM M' ls (dg ls s) ∧ FZ false M M' := by
  obtain ⟨M', e1, e2, e3⟩ := X8_takT (lo := 48) (hi := 57) hl (by decide) (by decide) h
  unfold f_X8_digit
  rw [show f_X8_takes_ M 48 57 = _ from e1]
  exact ⟨M', rfl, e2, e3⟩
theorem X8_key {M : Mem} {ls : List Int32} {s : PS} (hl : LW ls) (h : PM M ls s) : ∃ M', f_X8_takes_ M 97 104 = some (nI (kv ls s), M') ∧ PM M' ls (ky ls s) ∧ FZ false M M' := X8_takT (lo := 97) (hi := 104) hl (by decide) (by decide) h
theorem X8_two {M : Mem} {ls : List Int32} {s : PS} (hl : LW ls) (h : PM M ls s) : ∃ M', f_X8_twoDigits M = some (nI (twv ls s), M') ∧ PM M' ls (tw ls s) ∧ FZ false M M' := by
  obtain ⟨M1, e1, e2, e3⟩ := X8_digit hl h
  obtain ⟨M2, g1, g2, g3⟩ := X8_digit hl e2
  unfold f_X8_twoDigits
  rw [e1, Option.bind_some]
  dsimp only
  rw [g1, Option.bind_some]
  dsimp only
  rw [show (10 : Int32) = nI 10 from rfl, nI_mul, nI_add]
  exact ⟨M2, rfl, g2, e3.tr g3⟩
/-! the items -/
def mayB (l : Nat) (its : List (Int32 × Int32)) : Bool := decide (l < 6) && decide (its.length ≤ 4) && !(stL its).2
theorem oI_and (a b : Bool) : oI a &&& oI b = oI (a && b) := by cases a <;> cases b <;> decide
theorem mayB_snoc (l : Nat) (its : List (Int32 × Int32)) (x : Int32 × Int32) : mayB l (its ++ [x]) = (mayB l its && (decide (its.length < 4) && decide (((stL its).1 >>> (x.1 &&& 31)) &&& 1 = 0))) := by
  unfold mayB
  rw [stL_snoc]
  have : (its ++ [x]).length = its.length + 1 := by simp
  rw [this]
  by_cases h1 : its.length < 4
  · have a : its.length + 1 ≤ 4 := by omega
    have b : its.length ≤ 4 := by omega
    simp only [h1, a, b, decide_true, Bool.and_true, Bool.true_and]
    cases decide (l < 6) <;> cases (stL its).2 <;> simp
  · have a : ¬ its.length + 1 ≤ 4 := by omega
    simp [h1, a]
theorem X8_items {ls : List Int32} {l k : Nat} {d : Bool} {σ : Sc} (hl : LW ls) (hw : WFs σ) (hk : k < 8) : ∀ (n fuel : Nat) (s : PS) (M : Mem) (acc : List (Int32 × Int32)), (∀ p, s = .inr p → ls.length < p + n) → n + 1 < fuel → PM M ls s → acc.length + n < 2 ^ 20 → (d = true → mayB l acc = true → SMr (M 164) (setEn σ (8 * l + k) (some (1, 0, 0, acc)))) →
    ∃ M', f_X8_entry_278 fuel M (nI l) (nI k) (oI d) (oI (mayB l acc)) (nI acc.length) (stL acc).1 = some (oI (mayB l (itG ls n s acc).1), M') ∧ PM M' ls (sg ls 93 (itG ls n s acc).2) ∧ FZ d M M' ∧ (d = true → mayB l (itG ls n s acc).1 = true → SMr (M' 164) (setEn σ (8 * l + k) (some (1, 0, 0, (itG ls n s acc).1)))) := by
  have fin : ∀ (s : PS) (M : Mem) (acc : List (Int32 × Int32)), PM M ls s → (d = true → mayB l acc = true → SMr (M 164) (setEn σ (8 * l + k) (some (1, 0, 0, acc)))) → ∃ M', f_X8_entry_368 M (oI (mayB l acc)) = some (oI (mayB l acc), M') ∧ PM M' ls (sg ls 93 s) ∧ FZ d M M' ∧ (d = true → mayB l acc = true → SMr (M' 164) (setEn σ (8 * l + k) (some (1, 0, 0, acc)))) := by
    intro s M acc h hs
    obtain ⟨M', e1, e2, e3⟩ := X8_takT (lo := 93) (hi := 93) hl (by decide) (by decide) h
    unfold f_X8_entry_368
    rw [show f_X8_takes_ M 93 93 = _ from e1, Option.bind_some]
    refine ⟨M', ?_, e2, e3.up, fun a b => by rw [e3.2.2 rfl]; exact hs a b⟩
    cases mayB l acc <;> rfl
  intro n
  induction n with
  | zero =>
    intro fuel s M acc hs hf h ha hsc
    obtain ⟨fu, rfl⟩ : ∃ fu, fuel = fu + 1 := ⟨fuel - 1, by omega⟩
    rcases s with q | p
    · rw [itG_inl, f_X8_entry_278, if_pos (h.flt hl)]
      exact fin _ M acc h hsc
    · have := hs p rfl
      have h3 : p ≤ ls.length := h.2.2.1
      omega
  | succ n ih =>
    intro fuel s M acc hs hf h ha hsc
    obtain ⟨fu, rfl⟩ : ∃ fu, fuel = fu + 1 := ⟨fuel - 1, by omega⟩
    rcases s with q | p
    · rw [itG_inl, f_X8_entry_278, if_pos (h.flt hl)]
      exact fin _ M acc h hsc
    · have h0 : M 163 10 = 0 := h.2.2.2
      have hia : f_X8_isAt M 48 57 = some (if 48 ≤ cN ls p ∧ cN ls p ≤ 57 then 1 else 0, M) := X8_isAt (lo := 48) (hi := 57) hl (by decide) (by decide) h
      rw [f_X8_entry_278, if_neg (fun q => q h0), hia, Option.bind_some]
      dsimp only
      by_cases hc : 48 ≤ cN ls p ∧ cN ls p ≤ 57
      · have e1 : dg ls (.inr p) = .inr (p + 1) := if_pos hc
        have hg : itG ls (n + 1) (.inr p) acc = itG ls n (tw ls (.inr (p + 1))) (acc ++ [(nI (dv ls (.inr p)), nI (twv ls (.inr (p + 1))))]) := by
          simp only [itG]; rw [e1]
        have hp := cN_lt hc.2 (by decide)
        obtain ⟨M1, a1, a2, a3⟩ := X8_digit hl h
        rw [e1] at a2
        obtain ⟨M2, b1, b2, b3⟩ := X8_two hl a2
        have hz : FZ false M M2 := a3.tr b3
        rw [if_pos hc, if_neg (show ¬ (1 : Int32) = 0 by decide), a1, Option.bind_some]
        dsimp only
        rw [b1, Option.bind_some, hg]
        dsimp only
        generalize hx : (nI (dv ls (.inr p)), nI (twv ls (.inr (p + 1)))) = x at *
        have hx1 : nI (dv ls (.inr p)) = x.1 := by rw [← hx]
        have hx2 : nI (twv ls (.inr (p + 1))) = x.2 := by rw [← hx]
        rw [hx1, hx2]
        have hs' : ∀ r, tw ls (.inr (p + 1)) = .inr r → ls.length < r + n := fun r hr => by
          have h1 := hs p rfl
          obtain ⟨u, hu, hru, -⟩ := tk_inr hr
          obtain ⟨v, hv, huv, -⟩ := tk_inr hu
          cases hv
          omega
        -- one more item
        have go : ∀ t : Bool, t = (decide (acc.length < 4) && decide (((stL acc).1 >>> (x.1 &&& 31)) &&& 1 = 0)) → ∃ M', f_X8_entry_331 (f_X8_entry_278 fu) M2 (nI l) (nI k) (oI d) (nI acc.length) (stL acc).1 x.1 x.2 (oI t) (oI (mayB l acc)) = some (oI (mayB l (itG ls n (tw ls (.inr (p + 1))) (acc ++ [x])).1), M') ∧ PM M' ls (sg ls 93 (itG ls n (tw ls (.inr (p + 1))) (acc ++ [x])).2) ∧ FZ d M M' ∧ (d = true → mayB l (itG ls n (tw ls (.inr (p + 1))) (acc ++ [x])).1 = true → SMr (M' 164) (setEn σ (8 * l + k) (some (1, 0, 0, (itG ls n (tw ls (.inr (p + 1))) (acc ++ [x])).1)))) := by
          intro t ht
          have hm : (mayB l acc && t) = mayB l (acc ++ [x]) := by rw [mayB_snoc, ht]
          have next : ∀ A : Mem, PM A ls (tw ls (.inr (p + 1))) → FZ d M A → (d = true → mayB l (acc ++ [x]) = true → SMr (A 164) (setEn σ (8 * l + k) (some (1, 0, 0, acc ++ [x])))) → ∃ M', f_X8_entry_353 (f_X8_entry_278 fu) A (nI l) (nI k) (oI d) (oI (mayB l (acc ++ [x]))) (nI acc.length) (stL acc).1 x.1 = some (oI (mayB l (itG ls n (tw ls (.inr (p + 1))) (acc ++ [x])).1), M') ∧ PM M' ls (sg ls 93 (itG ls n (tw ls (.inr (p + 1))) (acc ++ [x])).2) ∧ FZ d M M' ∧ (d = true → mayB l (itG ls n (tw ls (.inr (p + 1))) (acc ++ [x])).1 = true → SMr (M' 164) (setEn σ (8 * l + k) (some (1, 0, 0, (itG ls n (tw ls (.inr (p + 1))) (acc ++ [x])).1)))) := by
            intro A gA fA sA
            obtain ⟨M', f1, f2, f3, f4⟩ := ih fu (tw ls (.inr (p + 1))) A (acc ++ [x]) hs' (by omega) gA (by simp; omega) sA
            unfold f_X8_entry_353
            rw [Option.bind_some, nI_1]
            rw [stL_snoc, show (acc ++ [x]).length = acc.length + 1 by simp] at f1
            exact ⟨M', f1, f2, fA.tr f3, f4⟩
          unfold f_X8_entry_331
          rw [oI_and, hm]
          by_cases hd : d = true
          · subst hd
            rw [if_neg (show ¬ oI true = 0 by decide)]
            by_cases hmm : mayB l (acc ++ [x]) = true
            · rw [hmm, if_neg (show ¬ oI true = 0 by decide)]
              have hmm2 := hmm
              rw [mayB_snoc] at hmm2
              simp only [Bool.and_eq_true, decide_eq_true_eq] at hmm2
              have hl6 : l < 6 := by
                have := hmm2.1
                unfold mayB at this
                simp only [Bool.and_eq_true, decide_eq_true_eq] at this
                exact this.1.1
              have hE : SMr (M2 164) (setEn σ (8 * l + k) (some (1, 0, 0, acc))) := by rw [hz.2.2 rfl]; exact hsc rfl hmm2.1
              obtain ⟨M3, c1, c2, -, c4⟩ := X8_puts (a := x.1) (b := x.2) hE (hw.en ⟨by decide, by decide, by omega, by decide, by decide⟩) hl6 hk (sEn_set _ _ _) hmm2.2.1
              rw [setEn2] at c2
              have := next M3 (b2.sc c4) (hz.up.tr (FZ.sc c4)) (fun _ _ => c2)
              rw [hmm] at this
              rw [c1, Option.bind_some]
              exact this
            · have hmf : mayB l (acc ++ [x]) = false := by simpa using hmm
              have := next M2 b2 hz.up (fun _ q => absurd q hmm)
              rw [hmf] at this
              rw [hmf, if_pos (show oI false = 0 by decide)]
              exact this
          · have hdf : d = false := by simpa using hd
            subst hdf
            rw [if_pos (show oI false = 0 by decide)]
            exact next M2 b2 hz.up (fun q => by cases q)
        by_cases h4 : 4 ≤ acc.length
        · rw [if_pos (show (4 : Int32) ≤ nI acc.length from nI_le (a := 4) h4 (by omega))]
          exact go false (by simp; omega)
        · rw [if_neg (show ¬ (4 : Int32) ≤ nI acc.length from nI_ge (b := 4) (by omega) (by decide))]
          by_cases hb : ((stL acc).1 >>> (x.1 &&& 31)) &&& 1 = 0
          · rw [if_neg (fun q => q hb)]
            exact go true (by simp [hb]; omega)
          · rw [if_pos hb]
            exact go false (by simp [hb])
      · have e1 : dg ls (.inr p) = .inl p := if_neg hc
        have hg : itG ls (n + 1) (.inr p) acc = (acc, .inr p) := by simp only [itG]; rw [e1]
        rw [hg, if_neg hc, if_pos rfl]
        exact fin _ M acc h hsc
