theorem tk_ge {ls : List Int32} {lo hi m : Nat} {s : PS} (hm : m ≤ ps s) : m ≤ ps (tk ls lo hi s) := by
  rcases s with q | p
  · exact hm
  · unfold tk
    dsimp only
    split
    · exact Nat.le_trans hm (Nat.le_succ _)
    · exact hm
theorem itG_ge {ls : List Int32} {m : Nat} : ∀ (n : Nat) (s : PS) (acc : List (Int32 × Int32)), m ≤ ps s → m ≤ ps (itG ls n s acc).2 := by
  intro n
  induction n with
  | zero => intro s acc h; rcases s with q | q <;> exact h
  | succ n ih =>
    intro s acc h
    rcases s with q | q
    · exact h
    · simp only [itG]
      rcases hd : dg ls (.inr q) with t | t
      · exact h
      · have : m ≤ ps (dg ls (.inr q)) := tk_ge h
        rw [hd] at this
        exact ih _ _ (tk_ge (tk_ge this))
theorem eQ_ge {ls : List Int32} {m : Nat} {s : PS} (h : m ≤ ps s) : m ≤ ps (eQ ls s) := by
  rcases s with q | p
  · exact h
  · have h1 : m ≤ ps (.inr (p + 1)) := Nat.le_trans h (Nat.le_succ _)
    unfold eQ
    dsimp only
    split
    · exact tk_ge (tk_ge h1)
    split
    · exact h1
    split
    · exact tk_ge h1
    split
    · exact tk_ge (tk_ge (tk_ge h1))
    split
    · exact tk_ge (itG_ge 100 _ [] h1)
    · exact h
theorem stQ_inr {ls : List Int32} {p q : Nat} (h : stQ ls p = .inr q) : p < q ∧ q ≤ ls.length := by
  have key : ∀ s : PS, p + 1 ≤ ps s → sg ls 59 s = .inr q → p < q ∧ q ≤ ls.length := by
    intro s hs hq
    obtain ⟨r, e1, e2, e3, e4⟩ := tk_inr hq
    subst e1
    have := cN_lt e4 (by decide)
    have hs' : p + 1 ≤ r := hs
    omega
  have h0 : p + 1 ≤ ps (.inr (p + 1)) := Nat.le_refl _
  unfold stQ at h
  split at h
  · exact key _ (tk_ge (tk_ge (tk_ge h0))) h
  split at h
  · exact key _ (tk_ge h0) h
  split at h
  · exact key _ (tk_ge (tk_ge h0)) h
  split at h
  · exact key _ (eQ_ge (tk_ge (tk_ge h0))) h
  split at h
  · exact key _ (tk_ge (tk_ge h0)) h
  · cases h
def pass1 (ls : List Int32) : Nat → Nat → Option Nat
  | 0, _ => none
  | n + 1, p => match stQ ls p with
    | .inl q => some q
    | .inr q => if q < ls.length then pass1 ls n q else none
def pass2 (ls : List Int32) : Nat → Nat → Sc → Nat → Int32 × Option Sc
  | 0, _, σ, c => (nI c, some σ)
  | n + 1, p, σ, c => if ls.length ≤ p then (nI c, some σ) else match stQ ls p, appQ ls p σ with
    | .inr q, some τ => pass2 ls n q τ (c + 1)
    | _, _ => (-2000 - nI p, none)
def setA (ls : List Int32) (σ : Sc) : Int32 × Option Sc := match pass1 ls 100 0 with
  | some q => (-1000 - nI q, none)
  | none => pass2 ls 100 0 σ 0
theorem pass2_wf {ls : List Int32} : ∀ (n p : Nat) (σ τ : Sc) (c : Nat), WFs σ → (pass2 ls n p σ c).2 = some τ → WFs τ := by
  intro n
  induction n with
  | zero => intro p σ τ c hw h; cases h; exact hw
  | succ n ih =>
    intro p σ τ c hw h
    simp only [pass2] at h
    split at h
    · cases h; exact hw
    · split at h
      · rename_i q ρ e1 e2
        exact ih _ _ _ _ (appQ_wf hw e2) h
      · cases h
theorem setA_wf {ls : List Int32} {σ τ : Sc} (hw : WFs σ) (h : (setA ls σ).2 = some τ) : WFs τ := by
  unfold setA at h
  split at h
  · cases h
  · exact pass2_wf _ _ _ _ _ hw h
abbrev P1R (X : Option (Int32 × Mem)) (M : Mem) (ls : List Int32) : Option Nat → Prop
  | some q => ∃ M', X = some (0, M') ∧ AT M' ls q ∧ FX M M'
  | none => ∃ M', X = some (1, M') ∧ (∃ q, AT M' ls q) ∧ FX M M'
theorem P1R.pre {X : Option (Int32 × Mem)} {M M1 : Mem} {ls : List Int32} {o : Option Nat} (h : P1R X M1 ls o) (hf : FX M M1) : P1R X M ls o := by
  rcases o with _ | q
  · obtain ⟨M', a, b, c⟩ := h; exact ⟨M', a, b, hf.tr c⟩
  · obtain ⟨M', a, b, c⟩ := h; exact ⟨M', a, b, hf.tr c⟩
theorem X6_wf_30 {ls : List Int32} (hl : LW ls) : ∀ (n p c fuel : Nat) (M : Mem), ls.length < p + n + 1 → c ≤ p → n < fuel → AT M ls p → P1R (f_X6_isWellFormed_30 (f_X6_isWellFormed_7 fuel) M (nI c)) M ls (pass1 ls (n + 1) p) := by
  intro n
  induction n with
  | zero =>
    intro p c fuel M hp hcp hf h
    have h1 := X6_readStatement hl h
    unfold f_X6_isWellFormed_30
    simp only [pass1]
    rcases hs : stQ ls p with q | q
    · rw [hs] at h1
      obtain ⟨M1, a, b, d⟩ := h1
      rw [a, Option.bind_some]
      dsimp only
      rw [if_neg (show ¬ ¬ (0 : Int32) = 0 by decide)]
      exact ⟨M1, rfl, b, d⟩
    · have := stQ_inr hs
      have := h.2.1
      omega
  | succ n ih =>
    intro p c fuel M hp hcp hf h
    obtain ⟨fu, rfl⟩ : ∃ fu, fuel = fu + 1 := ⟨fuel - 1, by omega⟩
    have h1 := X6_readStatement hl h
    have hl1 := hl.1
    have hp0 := h.2.1
    unfold f_X6_isWellFormed_30
    have hu : pass1 ls (n + 1 + 1) p = match stQ ls p with | .inl q => some q | .inr q => if q < ls.length then pass1 ls (n + 1) q else none := rfl
    rw [hu]
    rcases hs : stQ ls p with q | q
    · rw [hs] at h1
      obtain ⟨M1, a, b, d⟩ := h1
      rw [a, Option.bind_some]
      dsimp only
      rw [if_neg (show ¬ ¬ (0 : Int32) = 0 by decide)]
      exact ⟨M1, rfl, b, d⟩
    · rw [hs] at h1
      obtain ⟨M1, a, b, d, -⟩ := h1
      have hpq := stQ_inr hs
      rw [a, Option.bind_some]
      dsimp only
      rw [if_pos (show ¬ (1 : Int32) = 0 by decide), nI_1, f_X6_isWellFormed_7]
      by_cases h96 : 96 ≤ c + 1
      · rw [if_pos (show (96 : Int32) ≤ nI (c + 1) from nI_le (a := 96) h96 (by omega)), if_neg (show ¬ q < ls.length by omega)]
        exact ⟨M1, rfl, ⟨q, b⟩, d⟩
      · rw [if_neg (show ¬ (96 : Int32) ≤ nI (c + 1) from nI_ge (b := 96) (by omega) (by decide)), if_neg (show ¬ nI (c + 1) ≤ 0 from nI_ge (a := 0) (b := c + 1) (by omega) (by omega)), b.1, b.2.2.1]
        by_cases hq : q < ls.length
        · rw [if_pos (nI_lt hq (by omega)), if_pos hq]
          exact (ih q (c + 1) fu M1 (by omega) (by omega) (by omega) b).pre d
        · rw [if_neg (nI_nlt (by omega) (by omega)), if_neg hq]
          exact ⟨M1, rfl, ⟨q, b⟩, d⟩
theorem X6_isWellFormed {M : Mem} {ls : List Int32} (hl : LW ls) (h : LsI (M 97 1) (M 98) ls) : P1R (f_X6_isWellFormed M) M ls (pass1 ls 100 0) := by
  have hl1 := hl.1
  unfold f_X6_isWellFormed
  rw [wrf_eq, Option.bind_some]
  have hA : AT (wr M 97 2 0) ls 0 := ⟨wr_sf, Nat.zero_le _, by rw [wr_ap, if_neg (by decide), wr_ne (by decide)]; exact h⟩
  have h0 := X6_wf_30 hl 99 0 0 999 (wr M 97 2 0) (by omega) (Nat.le_refl _) (by decide) hA
  have e : f_X6_isWellFormed_7 1000 (wr M 97 2 0) 0 = f_X6_isWellFormed_30 (f_X6_isWellFormed_7 999) (wr M 97 2 0) 0 := by
    rw [f_X6_isWellFormed_7, if_neg (by decide), if_pos (by decide)]
  rw [e]
  exact P1R.pre h0 FX.at2
/-! the second time, on a trial -/
def CG (M M' : Mem) : Prop := (∀ i, (i = 0 ∨ (11 ≤ i ∧ i ≤ 20) ∨ i = 98 ∨ i = 102 ∨ i = 103 ∨ i = 106 ∨ 163 ≤ i) → M' i = M i) ∧ ∀ j, j ≠ 2 → M' 97 j = M 97 j
theorem CG.tr {A B C : Mem} (h : CG A B) (g : CG B C) : CG A C := ⟨fun i a => (g.1 i a).trans (h.1 i a), fun j a => (g.2 j a).trans (h.2 j a)⟩
theorem FX.cg {A B : Mem} (h : FX A B) : CG A B := ⟨fun i a => h.1 i (by omega) (by omega) (by omega) (by omega), h.2⟩
abbrev P2R (X : Option (Int32 × Mem)) (M : Mem) : Int32 × Option Sc → Prop
  | (a, some ρ) => ∃ M', X = some (a, M') ∧ SCr M' 1 ρ ∧ CG M M'
  | (a, none) => ∃ M', X = some (a, M') ∧ (∀ i, 1 ≤ i → i ≤ 10 → M' i = M i) ∧ CG M M'
theorem P2R.pre {X : Option (Int32 × Mem)} {M M1 : Mem} {o : Int32 × Option Sc} (h : P2R X M1 o) (hf : CG M M1) (h1 : ∀ i, 1 ≤ i → i ≤ 10 → M1 i = M i) : P2R X M o := by
  rcases o with ⟨a, _ | q⟩
  · obtain ⟨M', a, b, c⟩ := h; exact ⟨M', a, fun i x y => (b i x y).trans (h1 i x y), hf.tr c⟩
  · obtain ⟨M', a, b, c⟩ := h; exact ⟨M', a, b, hf.tr c⟩
theorem X7_applyTold_21 {ls : List Int32} (hl : LW ls) : ∀ (n p c fuel : Nat) (M : Mem) (τ : Sc), ls.length < p + n → c ≤ p → n < fuel → AT M ls p → SCr M 21 τ → WFs τ → P2R (f_X7_applyTold_21 fuel M (nI c)) M (pass2 ls n p τ c) := by
  have done : ∀ (M : Mem) (τ : Sc) (c : Nat), SCr M 21 τ → WFs τ → P2R (f_X7_applyTold_91 M (nI c)) M (nI c, some τ) := by
    intro M τ c h hw
    unfold f_X7_applyTold_91
    obtain ⟨M', e1, e2, e3⟩ := X4_become (s := 1) h hw (by omega)
    rw [e1]
    exact ⟨M', rfl, e2, fun i hi => e3 i (by omega), fun j _ => by rw [e3 97 (by omega)]⟩
  intro n
  induction n with
  | zero =>
    intro p c fuel M τ hp hcp hf h hs hw
    have := h.2.1
    omega
  | succ n ih =>
    intro p c fuel M τ hp hcp hf h hs hw
    obtain ⟨fu, rfl⟩ : ∃ fu, fuel = fu + 1 := ⟨fuel - 1, by omega⟩
    have hl1 := hl.1
    have hp0 := h.2.1
    rw [f_X7_applyTold_21]
    have hu : pass2 ls (n + 1) p τ c = if ls.length ≤ p then (nI c, some τ) else match stQ ls p, appQ ls p τ with
      | .inr q, some τ => pass2 ls n q τ (c + 1)
      | _, _ => (-2000 - nI p, none) := rfl
    rw [hu, h.1, h.2.2.1]
    by_cases h96 : 96 ≤ c
    · rw [if_pos (show (96 : Int32) ≤ nI c from nI_le (a := 96) h96 (by omega)), if_pos (by omega)]
      exact done M τ c hs hw
    rw [if_neg (show ¬ (96 : Int32) ≤ nI c from nI_ge (b := 96) (by omega) (by decide))]
    by_cases hlp : ls.length ≤ p
    · rw [if_pos (nI_le hlp (by omega)), if_pos hlp]
      exact done M τ c hs hw
    rw [if_neg (nI_ge (by omega) (by omega)), if_neg hlp]
    have h1 := X6_readStatement hl h
    rcases hst : stQ ls p with q | q
    · rw [hst] at h1
      obtain ⟨M1, a, b, d⟩ := h1
      rw [a, Option.bind_some]
      dsimp only
      rw [if_pos rfl]
      exact ⟨M1, rfl, fun i x y => d.1 i (by omega) (by omega) (by omega) (by omega), d.cg⟩
    · rw [hst] at h1
      obtain ⟨M1, a, b, d, e⟩ := h1
      have hs1 : SCr M1 21 τ := hs.fr (fun i x y => d.1 i (by omega) (by omega) (by omega) (by omega))
      have hpq := stQ_inr hst
      have hap := X5_applyTo hw hs1 e ⟨q, hst⟩
      rw [a, Option.bind_some]
      dsimp only
      rw [if_neg (show ¬ (1 : Int32) = 0 by decide)]
      have d1 : ∀ i, 1 ≤ i → i ≤ 10 → M1 i = M i := fun i x y => d.1 i (by omega) (by omega) (by omega) (by omega)
      rcases hq : appQ ls p τ with _ | ρ
      · rw [hq] at hap
        have hap' : f_X5_applyTo M1 21 = some (0, M1) := hap
        rw [hap', Option.bind_some]
        dsimp only
        rw [if_neg (show ¬ ¬ (0 : Int32) = 0 by decide)]
        exact ⟨M1, rfl, d1, d.cg⟩
      · rw [hq] at hap
        obtain ⟨M2, g1, g2, g3⟩ := hap
        rw [g1, Option.bind_some]
        dsimp only
        rw [if_pos (show ¬ (1 : Int32) = 0 by decide), nI_1]
        have hA2 : AT M2 ls q := by unfold AT at *; rw [g3 97 (by omega), g3 98 (by omega)]; exact b
        have hcg : CG M M2 := d.cg.tr ⟨fun i hi => g3 i (by omega), fun j _ => by rw [g3 97 (by omega)]⟩
        exact (ih q (c + 1) fu M2 ρ (by omega) (by omega) (by omega) hA2 g2 (appQ_wf hw hq)).pre hcg (fun i x y => by rw [g3 i (by omega), d1 i x y])
def setS' (S : St) : St := ((setA (gT S) (gS S)).2.getD (gS S), gI S, gR S, [], gF S)
theorem settings7 {S : St} (hw : WFS S) : R7 S f_X7_settings (setA (gT S) (gS S)).1 (setS' S) := by
  intro M h
  have hl : LW (gT S) := ⟨hw.2.2.2.2.1, hw.2.2.2.2.2⟩
  -- the end
  have fin : ∀ (M1 : Mem) (σ' : Sc) (a : Int32), (setA (gT S) (gS S)).2.getD (gS S) = σ' → SCr M1 1 σ' → CG M M1 → ∃ M', f_X7_settings_28 M1 a = some (a, M') ∧ ClsI M' (setS' S) ∧ F7 M M' := by
    intro M1 σ' a hσ h1 hc
    unfold f_X7_settings_28
    rw [wrf_eq, Option.bind_some]
    refine ⟨_, rfl, ⟨?_, ?_, ?_, ?_, fun i hi => ?_⟩, fun i hi => by rw [wr_ne (by omega), hc.1 i (by omega)]⟩
    · show SCr _ 1 ((setA (gT S) (gS S)).2.getD (gS S))
      rw [hσ]
      exact h1.fr (fun i x y => wr_ne (by omega))
    · exact h.2.1.fr (by rw [wr_ne (by decide), hc.1 0 (by omega)]) (fun i x y => by rw [wr_ne (by omega), hc.1 i (by omega)])
    · rw [wr_ne (by decide), wr_ne (by decide), hc.1 102 (by omega), hc.1 103 (by omega)]; exact h.2.2.1
    · show LsI _ _ []
      exact ⟨by rw [wr_sf]; rfl, fun i v hv => by simp at hv⟩
    · rw [wr_ne (by decide), hc.1 106 (by omega)]; exact h.2.2.2.2 i hi
  have hsf : ∀ M1, (∀ i, 1 ≤ i → i ≤ 10 → M1 i = M i) → SCr M1 1 (gS S) := fun M1 h1 => h.1.fr (fun i x y => h1 i x (by omega))
  unfold f_X7_settings
  have h1 := X6_isWellFormed hl h.2.2.2.1
  rcases hp : pass1 (gT S) 100 0 with _ | q
  · rw [hp] at h1
    obtain ⟨M1, a, ⟨q, b⟩, d⟩ := h1
    have d1 : ∀ i, 1 ≤ i → i ≤ 10 → M1 i = M i := fun i x y => d.1 i (by omega) (by omega) (by omega) (by omega)
    rw [a, Option.bind_some]
    dsimp only
    rw [if_neg (show ¬ (1 : Int32) = 0 by decide)]
    unfold f_X7_applyTold
    obtain ⟨M2, e1, e2, e3⟩ := X4_become (s := 21) (hsf M1 d1) hw.1 (by omega)
    rw [e1, Option.bind_some, wrf_eq, Option.bind_some]
    have hA : AT (wr M2 97 2 0) (gT S) 0 := ⟨wr_sf, Nat.zero_le _, by rw [wr_ap, if_neg (by decide), wr_ne (by decide), e3 97 (by omega), e3 98 (by omega)]; exact b.2.2⟩
    have hl1 := hl.1
    have hR := X7_applyTold_21 hl 100 0 0 1000 (wr M2 97 2 0) (gS S) (by omega) (Nat.le_refl _) (by decide) hA (e2.fr (fun i x y => wr_ne (by omega))) hw.1
    have hcg : CG M (wr M2 97 2 0) := d.cg.tr ⟨fun i hi => by rw [wr_ne (by omega), e3 i (by omega)], fun j hj => by rw [wr_ap, if_neg (fun q => hj q.2), e3 97 (by omega)]⟩
    have hR2 := hR.pre hcg (fun i x y => by rw [wr_ne (by omega), e3 i (by omega), d1 i x y])
    have hset : setA (gT S) (gS S) = pass2 (gT S) 100 0 (gS S) 0 := by unfold setA; rw [hp]
    rcases ho : pass2 (gT S) 100 0 (gS S) 0 with ⟨x, _ | ρ⟩
    · rw [ho] at hR2
      obtain ⟨M3, f1, f2, f3⟩ := hR2
      have f1' : f_X7_applyTold_21 1000 (wr M2 97 2 0) 0 = _ := f1
      rw [f1', Option.bind_some, hset, ho]
      exact fin M3 (gS S) x (by rw [hset, ho]; rfl) (hsf M3 f2) f3
    · rw [ho] at hR2
      obtain ⟨M3, f1, f2, f3⟩ := hR2
      have f1' : f_X7_applyTold_21 1000 (wr M2 97 2 0) 0 = _ := f1
      rw [f1', Option.bind_some, hset, ho]
      exact fin M3 ρ x (by rw [hset, ho]; rfl) f2 f3
  · rw [hp] at h1
    obtain ⟨M1, a, b, d⟩ := h1
    have hset : setA (gT S) (gS S) = (-1000 - nI q, none) := by unfold setA; rw [hp]
    rw [a, Option.bind_some]
    dsimp only
    rw [if_pos rfl, b.1, hset]
    exact fin M1 (gS S) _ (by rw [hset]; rfl) (hsf M1 (fun i x y => d.1 i (by omega) (by omega) (by omega) (by omega))) d.cg
