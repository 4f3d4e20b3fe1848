def STR (X : Option (Int32 × Mem)) (M : Mem) (ls : List Int32) (d : Bool) (σ : Sc) (p : Nat) : Prop := ∃ r M', X = some (oI r, M') ∧ PM M' ls (stQ ls p) ∧ FZ d M M' ∧ (d = true → ∀ q, stQ ls p = .inr q → (appQ ls p σ = none → r = false) ∧ ∀ τ, appQ ls p σ = some τ → r = true ∧ SMr (M' 164) τ)
theorem X8_st_359 {M A : Mem} {ls : List Int32} {s : PS} {d r : Bool} {σ : Sc} {p : Nat} (hl : LW ls) (hA : PM A ls s) (hs : stQ ls p = sg ls 59 s) (hF : FZ d M A) (hq : d = true → (∃ t, s = .inr t) → (appQ ls p σ = none → r = false) ∧ ∀ τ, appQ ls p σ = some τ → r = true ∧ SMr (A 164) τ) : STR (f_X8_statement_359 A (oI r)) M ls d σ p := by
  obtain ⟨M', e1, e2, e3⟩ := X8_takT (lo := 59) (hi := 59) hl (by decide) (by decide) hA
  unfold f_X8_statement_359
  rw [show f_X8_takes_ A 59 59 = _ from e1, Option.bind_some]
  refine ⟨r, M', bret_oI r M', by rw [hs]; exact e2, hF.tr e3.up, fun hd q hq2 => ?_⟩
  rw [hs] at hq2
  obtain ⟨t, ht, -⟩ := tk_inr hq2
  obtain ⟨h1, h2⟩ := hq hd ⟨t, ht⟩
  exact ⟨h1, fun τ hτ => ⟨(h2 τ hτ).1, by rw [e3.2.2 rfl]; exact (h2 τ hτ).2⟩⟩
theorem oI_n0 {b : Bool} (h : b = true) : ¬ oI b = 0 := by subst h; decide
theorem oI_0 {b : Bool} (h : ¬ b = true) : oI b = 0 := by
  have : b = false := by simpa using h
  subst this; rfl
theorem X8_st_69 {M : Mem} {ls : List Int32} {p : Nat} {d : Bool} {σ : Sc} (hl : LW ls) (hw : WFs σ) (h : PM M ls (.inr p)) (hsc : SMr (M 164) σ) (hp : p < ls.length) (hv : cN ls p = 108 ∨ cN ls p = 111 ∨ cN ls p = 101 ∨ cN ls p = 100 ∨ cN ls p = 109) : STR (f_X8_statement_69 M (oI d) (nI (cN ls p))) M ls d σ p := by
  have hl1 := hl.1
  unfold f_X8_statement_69
  rw [wrf_eq, Option.bind_some]
  have hz1 : FZ false M (wr M 163 9 (M 163 9 + 1)) := FZ.w (Or.inl rfl)
  have h1 := h.step hp
  generalize wr M 163 9 (M 163 9 + 1) = A at *
  have hsA : SMr (A 164) σ := by rw [hz1.2.2 rfl]; exact hsc
  have hdl : dv ls (.inr (p + 1)) ≤ 57 - 48 := tv_le
  have hkl : kv ls (dg ls (.inr (p + 1))) ≤ 104 - 97 := tv_le
  have ne : ∀ c, c ≤ 255 → ¬ cN ls p = c → ¬ nI (cN ls p) = nI c := fun c hc hne q => hne ((nI_eq (by omega) (by omega)).mp q)
  by_cases h108 : cN ls p = 108
  · rw [h108, if_neg (show ¬ ¬ nI 108 = 108 by decide)]
    have hdk : dv ls (dg ls (.inr (p + 1))) ≤ 57 - 48 := tv_le
    have hst : stQ ls p = sg ls 59 (dg ls (dg ls (dg ls (.inr (p + 1))))) := by unfold stQ; rw [if_pos h108]
    have hap : appQ ls p σ = if dv ls (.inr (p + 1)) < 6 ∧ dv ls (dg ls (.inr (p + 1))) < 6 then some (setKF σ (dv ls (.inr (p + 1))) (dv ls (dg ls (.inr (p + 1)))) (dv ls (dg ls (dg ls (.inr (p + 1)))))) else none := by unfold appQ; rw [if_pos h108]
    obtain ⟨M1, a1, a2, a3⟩ := X8_digit hl h1
    obtain ⟨M2, b1, b2, b3⟩ := X8_digit hl a2
    obtain ⟨M3, c1, c2, c3⟩ := X8_digit hl b2
    have hz : FZ false M M3 := ((hz1.tr a3).tr b3).tr c3
    have hs3 : SMr (M3 164) σ := by rw [hz.2.2 rfl]; exact hsc
    rw [a1, Option.bind_some]
    dsimp only
    rw [b1, Option.bind_some]
    dsimp only
    rw [c1, Option.bind_some]
    dsimp only
    have fin : ∀ m : Bool, m = decide (dv ls (.inr (p + 1)) < 6 ∧ dv ls (dg ls (.inr (p + 1))) < 6) → STR (f_X8_statement_121 M3 (oI d) (nI (dv ls (.inr (p + 1)))) (nI (dv ls (dg ls (.inr (p + 1))))) (nI (dv ls (dg ls (dg ls (.inr (p + 1)))))) (oI m)) M ls d σ p := by
      intro m hm
      unfold f_X8_statement_121
      by_cases hd : d = true
      · subst hd
        rw [if_neg (show ¬ oI true = 0 by decide)]
        by_cases hmm : dv ls (.inr (p + 1)) < 6 ∧ dv ls (dg ls (.inr (p + 1))) < 6
        · have : m = true := by rw [hm]; simp [hmm]
          subst this
          rw [if_neg (show ¬ oI true = 0 by decide), show (3 : Int32) * nI (dv ls (.inr (p + 1))) + 1 = nI (3 * dv ls (.inr (p + 1)) + 1) from m_at _ 1, wra_nI (by omega) (by decide), Option.bind_some, show (3 : Int32) * nI (dv ls (.inr (p + 1))) + 2 = nI (3 * dv ls (.inr (p + 1)) + 2) from m_at _ 2, wra_nI (by omega) (by decide), Option.bind_some]
          refine X8_st_359 (r := true) hl (c2.sc (fun i hi => by rw [wr_ne hi, wr_ne hi])) hst (hz.up.tr (FZ.sc (fun i hi => by rw [wr_ne hi, wr_ne hi]))) (fun _ _ => ⟨fun q => ?_, fun τ hτ => ⟨rfl, ?_⟩⟩)
          · rw [hap, if_pos hmm] at q; cases q
          · rw [hap, if_pos hmm] at hτ; cases hτ
            exact hs3.kf hmm.1 (by rw [wr_ap, if_neg (by omega), wr_sf]) (by rw [wr_sf]) (fun j x y => by rw [wr_ap, if_neg (by omega), wr_ap, if_neg (by omega)])
        · have : m = false := by rw [hm]; simp only [decide_eq_false_iff_not]; exact hmm
          subst this
          rw [if_pos (show oI false = 0 by decide)]
          refine X8_st_359 (r := false) hl c2 hst hz.up (fun _ _ => ⟨fun q => rfl, fun τ hτ => ?_⟩)
          rw [hap, if_neg hmm] at hτ; cases hτ
      · rw [if_pos (oI_0 hd)]
        exact X8_st_359 hl c2 hst hz.up (fun q => absurd q hd)
    by_cases hl6 : dv ls (.inr (p + 1)) < 6
    · rw [if_neg (show ¬ (6 : Int32) ≤ nI (dv ls (.inr (p + 1))) from nI_ge (b := 6) hl6 (by decide))]
      by_cases hk6 : dv ls (dg ls (.inr (p + 1))) < 6
      · rw [if_neg (show ¬ (5 : Int32) < nI (dv ls (dg ls (.inr (p + 1)))) from nI_nlt (a := 5) (by omega) (by omega))]
        exact fin true (by simp [hl6, hk6])
      · rw [if_pos (show (5 : Int32) < nI (dv ls (dg ls (.inr (p + 1)))) from nI_lt (a := 5) (by omega) (by omega))]
        exact fin false (by simp [hk6])
    · rw [if_pos (show (6 : Int32) ≤ nI (dv ls (.inr (p + 1))) from nI_le (a := 6) (by omega) (by omega))]
      exact fin false (by simp [hl6])
  rw [if_pos (show ¬ nI (cN ls p) = 108 from ne 108 (by decide) h108)]
  by_cases h111 : cN ls p = 111
  · rw [h111, if_neg (show ¬ ¬ nI 111 = 111 by decide)]
    have hst : stQ ls p = sg ls 59 (dg ls (.inr (p + 1))) := by unfold stQ; rw [if_neg h108, if_pos h111]
    have hap : appQ ls p σ = if dv ls (.inr (p + 1)) < 6 then some (setOn σ (dv ls (.inr (p + 1))) (!sOn σ (dv ls (.inr (p + 1))))) else none := by unfold appQ; rw [if_neg h108, if_pos h111]
    obtain ⟨M1, a1, a2, a3⟩ := X8_digit hl h1
    have hz : FZ false M M1 := hz1.tr a3
    have hs1 : SMr (M1 164) σ := by rw [hz.2.2 rfl]; exact hsc
    rw [a1, Option.bind_some]
    dsimp only
    have fin : ∀ m : Bool, m = decide (dv ls (.inr (p + 1)) < 6) → STR (f_X8_statement_183 M1 (oI d) (nI (dv ls (.inr (p + 1)))) (oI m)) M ls d σ p := by
      intro m hm
      unfold f_X8_statement_183
      by_cases hd : d = true
      · subst hd
        rw [if_neg (show ¬ oI true = 0 by decide)]
        by_cases hmm : dv ls (.inr (p + 1)) < 6
        · have : m = true := by rw [hm]; simp [hmm]
          subst this
          rw [if_neg (show ¬ oI true = 0 by decide), m_a0, rd_nI (by omega) (by decide), Option.bind_some, wra_nI (by omega) (by decide), Option.bind_some]
          refine X8_st_359 (r := true) hl (a2.sc (fun i hi => wr_ne hi)) hst (hz.up.tr (FZ.sc (fun i hi => wr_ne hi))) (fun _ _ => ⟨fun q => ?_, fun τ hτ => ⟨rfl, ?_⟩⟩)
          · rw [hap, if_pos hmm] at q; cases q
          · rw [hap, if_pos hmm] at hτ; cases hτ
            refine hs1.on hmm ?_ (fun j x => by rw [wr_ap, if_neg (by omega)])
            rw [wr_sf, (hs1.1 _ hmm).1]
            cases sOn σ (dv ls (.inr (p + 1))) <;> decide
        · have : m = false := by rw [hm]; simp only [decide_eq_false_iff_not]; exact hmm
          subst this
          rw [if_pos (show oI false = 0 by decide)]
          refine X8_st_359 (r := false) hl a2 hst hz.up (fun _ _ => ⟨fun q => rfl, fun τ hτ => ?_⟩)
          rw [hap, if_neg hmm] at hτ; cases hτ
      · rw [if_pos (oI_0 hd)]
        exact X8_st_359 hl a2 hst hz.up (fun q => absurd q hd)
    by_cases hl6 : dv ls (.inr (p + 1)) < 6
    · rw [if_neg (show ¬ (6 : Int32) ≤ nI (dv ls (.inr (p + 1))) from nI_ge (b := 6) hl6 (by decide))]
      exact fin true (by simp [hl6])
    · rw [if_pos (show (6 : Int32) ≤ nI (dv ls (.inr (p + 1))) from nI_le (a := 6) (by omega) (by omega))]
      exact fin false (by simp [hl6])
  rw [if_pos (show ¬ nI (cN ls p) = 111 from ne 111 (by decide) h111)]
  by_cases h109 : cN ls p = 109
  · rw [h109, if_neg (show ¬ ¬ nI 109 = 109 by decide)]
    have hst : stQ ls p = sg ls 59 (dg ls (ky ls (.inr (p + 1)))) := by unfold stQ; rw [if_neg h108, if_neg h111, if_pos h109]
    have hap : appQ ls p σ = if dv ls (ky ls (.inr (p + 1))) < 5 then some (setMn σ (kv ls (.inr (p + 1))) (dv ls (ky ls (.inr (p + 1))))) else none := by unfold appQ; rw [if_neg h108, if_neg h111, if_pos h109]
    have hdm : dv ls (ky ls (.inr (p + 1))) ≤ 57 - 48 := tv_le
    have hk2 : kv ls (.inr (p + 1)) ≤ 104 - 97 := tv_le
    obtain ⟨M1, a1, a2, a3⟩ := X8_key hl h1
    obtain ⟨M2, b1, b2, b3⟩ := X8_digit hl a2
    have hz : FZ false M M2 := (hz1.tr a3).tr b3
    have hs2 : SMr (M2 164) σ := by rw [hz.2.2 rfl]; exact hsc
    rw [a1, Option.bind_some]
    dsimp only
    rw [b1, Option.bind_some]
    dsimp only
    have fin : ∀ m : Bool, m = decide (dv ls (ky ls (.inr (p + 1))) < 5) → STR (f_X8_statement_252 M2 (oI d) (nI (kv ls (.inr (p + 1)))) (nI (dv ls (ky ls (.inr (p + 1))))) (oI m)) M ls d σ p := by
      intro m hm
      unfold f_X8_statement_252
      by_cases hd : d = true
      · subst hd
        rw [if_neg (show ¬ oI true = 0 by decide)]
        by_cases hmm : dv ls (ky ls (.inr (p + 1))) < 5
        · have : m = true := by rw [hm]; simp [hmm]
          subst this
          rw [if_neg (show ¬ oI true = 0 by decide), show (20 : Int32) + nI (kv ls (.inr (p + 1))) = nI (20 + kv ls (.inr (p + 1))) from nI_add 20 _, wra_nI (by omega) (by decide), Option.bind_some]
          refine X8_st_359 (r := true) hl (b2.sc (fun i hi => wr_ne hi)) hst (hz.up.tr (FZ.sc (fun i hi => wr_ne hi))) (fun _ _ => ⟨fun q => ?_, fun τ hτ => ⟨rfl, ?_⟩⟩)
          · rw [hap, if_pos hmm] at q; cases q
          · rw [hap, if_pos hmm] at hτ; cases hτ
            exact hs2.mn (by omega) (by rw [wr_sf]) (fun j x => by rw [wr_ap, if_neg (by omega)])
        · have : m = false := by rw [hm]; simp only [decide_eq_false_iff_not]; exact hmm
          subst this
          rw [if_pos (show oI false = 0 by decide)]
          refine X8_st_359 (r := false) hl b2 hst hz.up (fun _ _ => ⟨fun q => rfl, fun τ hτ => ?_⟩)
          rw [hap, if_neg hmm] at hτ; cases hτ
      · rw [if_pos (oI_0 hd)]
        exact X8_st_359 hl b2 hst hz.up (fun q => absurd q hd)
    by_cases hm5 : dv ls (ky ls (.inr (p + 1))) < 5
    · rw [if_neg (show ¬ (4 : Int32) < nI (dv ls (ky ls (.inr (p + 1)))) from nI_nlt (a := 4) (by omega) (by omega))]
      exact fin true (by simp [hm5])
    · rw [if_pos (show (4 : Int32) < nI (dv ls (ky ls (.inr (p + 1)))) from nI_lt (a := 4) (by omega) (by omega))]
      exact fin false (by simp [hm5])
  rw [if_pos (show ¬ nI (cN ls p) = 109 from ne 109 (by decide) h109)]
  obtain ⟨M1, a1, a2, a3⟩ := X8_digit hl h1
  obtain ⟨M2, b1, b2, b3⟩ := X8_key hl a2
  have hz : FZ false M M2 := (hz1.tr a3).tr b3
  have hs2 : SMr (M2 164) σ := by rw [hz.2.2 rfl]; exact hsc
  rw [a1, Option.bind_some]
  dsimp only
  rw [b1, Option.bind_some]
  dsimp only
  by_cases h101 : cN ls p = 101
  · rw [h101, if_neg (show ¬ ¬ nI 101 = 101 by decide)]
    have hst : stQ ls p = sg ls 59 (eQ ls (ky ls (dg ls (.inr (p + 1))))) := by unfold stQ; rw [if_neg h108, if_neg h111, if_neg h109, if_pos h101]
    have hap : appQ ls p σ = if dv ls (.inr (p + 1)) < 6 ∧ (eV ls (ky ls (dg ls (.inr (p + 1))))).2.2.2.length ≤ 4 ∧ (stL (eV ls (ky ls (dg ls (.inr (p + 1))))).2.2.2).2 = false then some (setEn σ (8 * dv ls (.inr (p + 1)) + kv ls (dg ls (.inr (p + 1)))) (some (eV ls (ky ls (dg ls (.inr (p + 1))))))) else none := by unfold appQ; rw [if_neg h108, if_neg h111, if_neg h109, if_pos h101]
    obtain ⟨r, M3, c1, c2, c3, c4⟩ := X8_entryT (l := dv ls (.inr (p + 1))) (k := kv ls (dg ls (.inr (p + 1)))) (d := d) (σ := σ) hl hw (by omega) (by omega) b2 (fun _ => hs2)
    rw [c1, Option.bind_some]
    dsimp only
    refine X8_st_359 hl c2 hst (hz.up.tr c3) (fun hd ht => ?_)
    obtain ⟨t, ht⟩ := ht
    obtain ⟨hr, hsm⟩ := c4 hd t ht
    have hmb : (mayB (dv ls (.inr (p + 1))) (eV ls (ky ls (dg ls (.inr (p + 1))))).2.2.2 = true) ↔ (dv ls (.inr (p + 1)) < 6 ∧ (eV ls (ky ls (dg ls (.inr (p + 1))))).2.2.2.length ≤ 4 ∧ (stL (eV ls (ky ls (dg ls (.inr (p + 1))))).2.2.2).2 = false) := by
      unfold mayB
      simp [and_assoc]
    by_cases hm : mayB (dv ls (.inr (p + 1))) (eV ls (ky ls (dg ls (.inr (p + 1))))).2.2.2 = true
    · rw [hap, if_pos (hmb.mp hm)]
      refine ⟨fun q => (by cases q), fun τ hτ => ?_⟩
      cases hτ
      exact ⟨hr.trans hm, hsm (hr.trans hm)⟩
    · rw [hap, if_neg (fun q => hm (hmb.mpr q))]
      exact ⟨fun _ => by rw [hr]; simpa using hm, fun τ hτ => by cases hτ⟩
  · have h100 : cN ls p = 100 := by omega
    rw [if_pos (show ¬ nI (cN ls p) = 101 from ne 101 (by decide) h101)]
    have hst : stQ ls p = sg ls 59 (ky ls (dg ls (.inr (p + 1)))) := by unfold stQ; rw [if_neg h108, if_neg h111, if_neg h109, if_neg h101, if_pos h100]
    have hap : appQ ls p σ = if dv ls (.inr (p + 1)) < 6 ∧ hasE σ (dv ls (.inr (p + 1))) (kv ls (dg ls (.inr (p + 1)))) = true then some (setEn σ (8 * dv ls (.inr (p + 1)) + kv ls (dg ls (.inr (p + 1)))) none) else none := by unfold appQ; rw [if_neg h108, if_neg h111, if_neg h109, if_neg h101]
    have fin : ∀ m : Bool, m = decide (dv ls (.inr (p + 1)) < 6 ∧ hasE σ (dv ls (.inr (p + 1))) (kv ls (dg ls (.inr (p + 1)))) = true) → STR (f_X8_statement_334 M2 (oI d) (nI (dv ls (.inr (p + 1)))) (nI (kv ls (dg ls (.inr (p + 1))))) (oI m)) M ls d σ p := by
      intro m hm
      unfold f_X8_statement_334
      by_cases hd : d = true
      · subst hd
        rw [if_neg (show ¬ oI true = 0 by decide)]
        by_cases hmm : dv ls (.inr (p + 1)) < 6 ∧ hasE σ (dv ls (.inr (p + 1))) (kv ls (dg ls (.inr (p + 1)))) = true
        · have : m = true := by rw [hm]; simp [hmm]
          subst this
          have hl6 := hmm.1
          have ha : f_X8_entryAt M2 (nI (dv ls (.inr (p + 1)))) (nI (kv ls (dg ls (.inr (p + 1))))) = some (nI (30 + 12 * (8 * dv ls (.inr (p + 1)) + kv ls (dg ls (.inr (p + 1))))), M2) := X8_entryAt _ _ _
          rw [if_neg (show ¬ oI true = 0 by decide), ha, Option.bind_some]
          dsimp only
          rw [Int32.add_zero, wra_nI (by omega) (by decide), Option.bind_some]
          refine X8_st_359 (r := true) hl (b2.sc (fun i hi => wr_ne hi)) hst (hz.up.tr (FZ.sc (fun i hi => wr_ne hi))) (fun _ _ => ⟨fun q => ?_, fun τ hτ => ⟨rfl, ?_⟩⟩)
          · rw [hap, if_pos hmm] at q; cases q
          · rw [hap, if_pos hmm] at hτ; cases hτ
            exact hs2.setE hw (by omega) (by show _ = (-9 : Int32); rw [wr_sf]) (fun j hj => by rw [wr_ap, if_neg (by omega)])
        · have : m = false := by rw [hm]; simp only [decide_eq_false_iff_not]; exact hmm
          subst this
          rw [if_pos (show oI false = 0 by decide)]
          refine X8_st_359 (r := false) hl b2 hst hz.up (fun _ _ => ⟨fun q => rfl, fun τ hτ => ?_⟩)
          rw [hap, if_neg hmm] at hτ; cases hτ
      · rw [if_pos (oI_0 hd)]
        exact X8_st_359 hl b2 hst hz.up (fun q => absurd q hd)
    by_cases hl6 : dv ls (.inr (p + 1)) < 6
    · rw [if_neg (show ¬ (6 : Int32) ≤ nI (dv ls (.inr (p + 1))) from nI_ge (b := 6) hl6 (by decide)), X8_has hw hs2 hl6 (by omega), Option.bind_some]
      dsimp only
      by_cases hh : hasE σ (dv ls (.inr (p + 1))) (kv ls (dg ls (.inr (p + 1)))) = true
      · rw [if_pos hh, if_neg (show ¬ (1 : Int32) = 0 by decide)]
        exact fin true (by simp [hl6, hh])
      · rw [if_neg hh, if_pos rfl]
        exact fin false (by simp [hh])
    · rw [if_pos (show (6 : Int32) ≤ nI (dv ls (.inr (p + 1))) from nI_le (a := 6) (by omega) (by omega))]
      exact fin false (by simp [hl6])
theorem X8_statement {M : Mem} {ls : List Int32} {p : Nat} {d : Bool} {σ : Sc} (hl : LW ls) (hw : WFs σ) (h : PM M ls (.inr p)) (hsc : SMr (M 164) σ) : STR (f_X8_statement M (oI d)) M ls d σ p := by
  have hl1 := hl.1
  have hps : p ≤ ls.length := h.2.2.1
  have h9 : M 163 9 = nI p := h.2.1
  have c : f_X8_statement M (oI d) = f_X8_statement_24 M (oI d) (if p < ls.length then nI (cN ls p) else 0) := by
    unfold f_X8_statement
    rw [h.1.1, h9]
    by_cases hp : p < ls.length
    · obtain ⟨n, hn, e1, e2⟩ := lw_in hl hp
      rw [if_neg (nI_ge (by omega) (by omega)), rd_nI (by omega) (by decide), Option.bind_some, h.1.2 _ _ e1, if_pos hp, e2]
    · rw [if_pos (nI_le (by omega) (by omega)), if_neg hp]
  rw [c]
  have c100 : ((if p < ls.length then nI (cN ls p) else 0) = 100) ↔ cN ls p = 100 := let8 (p := p) (c := 100) hl (by decide) (by decide)
  have c101 : ((if p < ls.length then nI (cN ls p) else 0) = 101) ↔ cN ls p = 101 := let8 (p := p) (c := 101) hl (by decide) (by decide)
  have c108 : ((if p < ls.length then nI (cN ls p) else 0) = 108) ↔ cN ls p = 108 := let8 (p := p) (c := 108) hl (by decide) (by decide)
  have c109 : ((if p < ls.length then nI (cN ls p) else 0) = 109) ↔ cN ls p = 109 := let8 (p := p) (c := 109) hl (by decide) (by decide)
  have c111 : ((if p < ls.length then nI (cN ls p) else 0) = 111) ↔ cN ls p = 111 := let8 (p := p) (c := 111) hl (by decide) (by decide)
  have hpos : p < ls.length → (if p < ls.length then nI (cN ls p) else 0) = nI (cN ls p) := fun q => if_pos q
  generalize (if p < ls.length then nI (cN ls p) else 0) = x at *
  by_cases hv : cN ls p = 108 ∨ cN ls p = 111 ∨ cN ls p = 101 ∨ cN ls p = 100 ∨ cN ls p = 109
  · have hp := cN_lt (ls := ls) (p := p) (m := 255) (by omega) (by decide)
    have e : f_X8_statement_24 M (oI d) x = f_X8_statement_69 M (oI d) x := by
      unfold f_X8_statement_24
      rcases hv with hv | hv | hv | hv | hv
      · rw [if_pos (c108.mpr hv)]
      · rw [if_neg (fun q => by have := c108.mp q; omega), if_pos (c111.mpr hv)]
      · rw [if_neg (fun q => by have := c108.mp q; omega), if_neg (fun q => by have := c111.mp q; omega), if_pos (c101.mpr hv)]
      · rw [if_neg (fun q => by have := c108.mp q; omega), if_neg (fun q => by have := c111.mp q; omega), if_neg (fun q => by have := c101.mp q; omega), if_pos (c100.mpr hv)]
      · rw [if_neg (fun q => by have := c108.mp q; omega), if_neg (fun q => by have := c111.mp q; omega), if_neg (fun q => by have := c101.mp q; omega), if_neg (fun q => by have := c100.mp q; omega), if_pos (c109.mpr hv)]
    rw [e, hpos hp]
    exact X8_st_69 hl hw h hsc hp hv
  · have e : stQ ls p = .inl p := by
      unfold stQ
      rw [if_neg (by omega), if_neg (by omega), if_neg (by omega), if_neg (by omega), if_neg (by omega)]
    unfold f_X8_statement_24
    rw [if_neg (fun q => by have := c108.mp q; omega), if_neg (fun q => by have := c111.mp q; omega), if_neg (fun q => by have := c101.mp q; omega), if_neg (fun q => by have := c100.mp q; omega), if_neg (fun q => by have := c109.mp q; omega), wrf_eq, Option.bind_some]
    exact ⟨false, _, rfl, by rw [e]; exact h.fail, FZ.w (Or.inr rfl), fun _ q hq => by rw [e] at hq; cases hq⟩
