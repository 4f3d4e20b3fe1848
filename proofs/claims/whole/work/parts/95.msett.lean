def MZ (M M' : Mem) : Prop := (∀ i, i ≠ 163 → i ≠ 164 → i ≠ 167 → M' i = M i) ∧ ∀ j, j ≠ 7 → j ≠ 9 → j ≠ 10 → M' 163 j = M 163 j
theorem MZ.tr {A B C : Mem} (h : MZ A B) (g : MZ B C) : MZ A C := ⟨fun i a b c => (g.1 i a b c).trans (h.1 i a b c), fun j a b c => (g.2 j a b c).trans (h.2 j a b c)⟩
theorem FZ.mz {d : Bool} {A B : Mem} (h : FZ d A B) : MZ A B := ⟨fun i a b _ => h.1 i a b, fun j _ a b => h.2.1 j a b⟩
theorem MZ.one {A B : Mem} {c : Nat} (hc : c = 164 ∨ c = 167) (h : ∀ i, i ≠ c → B i = A i) : MZ A B := ⟨fun i a b d => h i (by omega), fun j _ _ _ => by rw [h 163 (by omega)]⟩
theorem MZ.w {M : Mem} {k : Nat} {x : Int32} (h : k = 7 ∨ k = 9 ∨ k = 10) : MZ M (wr M 163 k x) := ⟨fun i a _ _ => wr_ne a, fun j a b c => by rw [wr_ap, if_neg (by omega)]⟩
/-- how it ends -/
def END (X : Option (Int32 × Mem)) (M : Mem) (a : Int32) (ρ : Sc) : Prop := ∃ M', X = some (a, M') ∧ SMr (M' 164) ρ ∧ M' 163 7 = 0 ∧ MZ M M'
theorem END.pre {X : Option (Int32 × Mem)} {M M1 : Mem} {a : Int32} {ρ : Sc} (h : END X M1 a ρ) (hf : MZ M M1) : END X M a ρ := by
  obtain ⟨M', e1, e2, e3, e4⟩ := h
  exact ⟨M', e1, e2, e3, hf.tr e4⟩
theorem X8_s123 {M : Mem} {c : Int32} {ρ : Sc} (h : SMr (M 164) ρ) : END (f_X8_settings_123 M c) M (if M 163 10 = 0 then c else M 163 10) ρ := by
  unfold f_X8_settings_123
  rw [wrf_eq, Option.bind_some, show wr M 163 7 0 163 10 = M 163 10 by rw [wr_ap, if_neg (by decide)]]
  refine ⟨wr M 163 7 0, ?_, by rw [wr_ne (by decide)]; exact h, wr_sf, MZ.w (Or.inl rfl)⟩
  by_cases h0 : M 163 10 = 0
  · rw [if_pos h0, if_pos h0]
  · rw [if_neg h0, if_neg h0]
theorem X8_s59 {ls : List Int32} {σ0 : Sc} (hl : LW ls) (hw0 : WFs σ0) : ∀ (n p c fuel : Nat) (M : Mem) (τ : Sc), ls.length < p + n → n + 1 < fuel → PM M ls (.inr p) → SMr (M 164) τ → SMr (M 167) σ0 → WFs τ → (ls.length ≤ p ∨ pass1 ls n p = none) → END (f_X8_settings_59 fuel M (nI c)) M (pass2 ls n p τ c).1 ((pass2 ls n p τ c).2.getD σ0) := by
  intro n
  induction n with
  | zero =>
    intro p c fuel M τ hp hf h hs h7 hw hok
    have h3 : p ≤ ls.length := h.2.2.1
    omega
  | succ n ih =>
    intro p c fuel M τ hp hf h hs h7 hw hok
    obtain ⟨fu, rfl⟩ : ∃ fu, fuel = fu + 1 := ⟨fuel - 1, by omega⟩
    have hl1 := hl.1
    have h3 : p ≤ ls.length := h.2.2.1
    have h9 : M 163 9 = nI p := h.2.1
    have h0 : M 163 10 = 0 := h.2.2.2
    have hu : pass2 ls (n + 1) p τ c = if ls.length ≤ p then (nI c, some τ) else match stQ ls p, appQ ls p τ with
      | .inr q, some τ => pass2 ls n q τ (c + 1)
      | _, _ => (-2000 - nI p, none) := rfl
    rw [f_X8_settings_59, h.1.1, h9, hu]
    by_cases hlp : ls.length ≤ p
    · rw [if_pos (nI_le hlp (by omega)), if_pos hlp]
      unfold f_X8_settings_105
      rw [if_pos h0]
      have := X8_s123 (c := nI c) hs
      rw [if_pos h0] at this
      exact this
    rw [if_neg (nI_ge (by omega) (by omega)), if_neg (fun q => q h0), if_neg hlp]
    have hok1 := hok.resolve_left hlp
    have hu1 : pass1 ls (n + 1) p = match stQ ls p with | .inl q => some q | .inr q => if q < ls.length then pass1 ls n q else none := rfl
    rw [hu1] at hok1
    obtain ⟨r, M1, e1, e2, e3, e4⟩ := X8_statement (d := true) hl hw h hs
    have e1' : f_X8_statement M 1 = _ := e1
    rw [e1', Option.bind_some]
    dsimp only
    rcases hst : stQ ls p with q | q
    · rw [hst] at hok1; cases hok1
    · rw [hst] at hok1 e2
      have hpq := stQ_inr hst
      obtain ⟨g1, g2⟩ := e4 rfl q hst
      have h71 : SMr (M1 167) σ0 := by rw [e3.1 167 (by decide) (by decide)]; exact h7
      rcases hq : appQ ls p τ with _ | ρ
      · have hr := g1 hq
        subst hr
        rw [if_neg (show ¬ ¬ oI false = 0 by decide), wrf_eq, Option.bind_some, nI_1]
        obtain ⟨fv, rfl⟩ : ∃ fv, fu = fv + 1 := ⟨fu - 1, by omega⟩
        have f10 : wr M1 163 10 (-2000 - nI p) 163 10 = -2000 - nI p := wr_sf
        have hne : ¬ wr M1 163 10 (-2000 - nI p) 163 10 = 0 := by rw [f10]; exact (flt_t p (by omega)).2
        have hE : END (f_X8_settings_105 (wr M1 163 10 (-2000 - nI p)) (nI (c + 1))) (wr M1 163 10 (-2000 - nI p)) (-2000 - nI p) σ0 := by
          unfold f_X8_settings_105
          rw [if_neg hne]
          obtain ⟨M2, b1, b2, b3⟩ := X8_copies (M := wr M1 163 10 (-2000 - nI p)) (a := 167) (b := 164) (σ := σ0) ln640.2.2.2 ln640.1 (by decide) (by rw [wr_ne (by decide)]; exact h71) hw0
          rw [b1, Option.bind_some]
          have := X8_s123 (c := nI (c + 1)) b2
          rw [b3 163 (by decide), if_neg hne, f10] at this
          exact this.pre (MZ.one (Or.inl rfl) b3)
        rw [f_X8_settings_59]
        have hE2 : END (if wr M1 163 10 (-2000 - nI p) 163 7 ≤ wr M1 163 10 (-2000 - nI p) 163 9 then f_X8_settings_105 (wr M1 163 10 (-2000 - nI p)) (nI (c + 1)) else f_X8_settings_105 (wr M1 163 10 (-2000 - nI p)) (nI (c + 1))) (wr M1 163 10 (-2000 - nI p)) (-2000 - nI p) σ0 := by
          split <;> exact hE
        rw [if_pos hne]
        exact hE2.pre (e3.mz.tr (MZ.w (Or.inr (Or.inr rfl))))
      · obtain ⟨hr, hsm⟩ := g2 ρ hq
        subst hr
        rw [if_pos (show ¬ oI true = 0 by decide), nI_1]
        refine (ih q (c + 1) fu M1 ρ (by omega) (by omega) e2 hsm h71 (appQ_wf hw hq) ?_).pre e3.mz
        by_cases hql : q < ls.length
        · right
          dsimp only at hok1
          rw [if_pos hql] at hok1
          exact hok1
        · left; omega
theorem X8_s10 {ls : List Int32} {σ : Sc} (hl : LW ls) (hw : WFs σ) : ∀ (n p fuel : Nat) (M : Mem), ls.length < p + n + 1 → n < fuel → PM M ls (.inr p) → SMr (M 164) σ → ∃ M' s, f_X8_settings_10 fuel M = f_X8_settings_34 M' ∧ PM M' ls s ∧ SMr (M' 164) σ ∧ FZ false M M' ∧ (match pass1 ls (n + 1) p with | some q => s = .inl q | none => ∃ q, s = .inr q) := by
  intro n
  induction n with
  | zero =>
    intro p fuel M hp hf h hs
    obtain ⟨fu, rfl⟩ : ∃ fu, fuel = fu + 1 := ⟨fuel - 1, by omega⟩
    obtain ⟨r, M1, e1, e2, e3, -⟩ := X8_statement (d := false) hl hw h hs
    have h3 : p ≤ ls.length := h.2.2.1
    rw [f_X8_settings_10, show f_X8_statement M 0 = _ from e1, Option.bind_some]
    simp only [pass1]
    rcases hst : stQ ls p with q | q
    · rw [hst] at e2
      rw [if_pos (e2.flt hl)]
      exact ⟨M1, .inl q, rfl, e2, by rw [e3.2.2 rfl]; exact hs, e3, rfl⟩
    · have := stQ_inr hst
      omega
  | succ n ih =>
    intro p fuel M hp hf h hs
    obtain ⟨fu, rfl⟩ : ∃ fu, fuel = fu + 1 := ⟨fuel - 1, by omega⟩
    obtain ⟨r, M1, e1, e2, e3, -⟩ := X8_statement (d := false) hl hw h hs
    have h3 : p ≤ ls.length := h.2.2.1
    have hl1 := hl.1
    have hs1 : SMr (M1 164) σ := by rw [e3.2.2 rfl]; exact hs
    have hu1 : pass1 ls (n + 1 + 1) p = match stQ ls p with | .inl q => some q | .inr q => if q < ls.length then pass1 ls (n + 1) q else none := rfl
    rw [f_X8_settings_10, show f_X8_statement M 0 = _ from e1, Option.bind_some, hu1]
    rcases hst : stQ ls p with q | q
    · rw [hst] at e2
      rw [if_pos (e2.flt hl)]
      exact ⟨M1, .inl q, rfl, e2, hs1, e3, rfl⟩
    · rw [hst] at e2
      have hpq := stQ_inr hst
      have h0 : M1 163 10 = 0 := e2.2.2.2
      have h9 : M1 163 9 = nI q := e2.2.1
      rw [if_neg (fun x => x h0)]
      dsimp only
      by_cases hq : q < ls.length
      · rw [if_pos (show M1 163 9 < M1 163 7 by rw [h9, e2.1.1]; exact nI_lt hq (by omega)), if_pos hq]
        obtain ⟨M', s, f1, f2, f3, f4, f5⟩ := ih q fu M1 (by omega) (by omega) e2 hs1
        exact ⟨M', s, f1, f2, f3, e3.tr f4, f5⟩
      · rw [if_neg (show ¬ M1 163 9 < M1 163 7 by rw [h9, e2.1.1]; exact nI_nlt (by omega) (by omega)), if_neg hq]
        exact ⟨M1, .inr q, rfl, e2, hs1, e3, ⟨q, rfl⟩⟩
theorem settings8 {S : St} (hw : WFS S) : R8 S f_X8_settings (setA (gT S) (gS S)).1 (setS' S) := by
  intro M h
  have hl : LW (gT S) := ⟨hw.2.2.2.2.1, hw.2.2.2.2.2⟩
  have hl1 := hl.1
  have hE : END (f_X8_settings M) M (setA (gT S) (gS S)).1 ((setA (gT S) (gS S)).2.getD (gS S)) := by
    unfold f_X8_settings
    rw [wrf_eq, Option.bind_some, wrf_eq, Option.bind_some]
    have hz : MZ M (wr (wr M 163 9 0) 163 10 0) := (MZ.w (Or.inr (Or.inl rfl))).tr (MZ.w (Or.inr (Or.inr rfl)))
    have hP : PM (wr (wr M 163 9 0) 163 10 0) (gT S) (.inr 0) := ⟨by rw [wr_ap, if_neg (by decide), wr_ap, if_neg (by decide), wr_ne (by decide), wr_ne (by decide)]; exact h.2.2.2.1, by rw [wr_ap, if_neg (by decide), wr_sf]; rfl, Nat.zero_le _, wr_sf⟩
    have hS : SMr (wr (wr M 163 9 0) 163 10 0 164) (gS S) := by rw [wr_ne (by decide), wr_ne (by decide)]; exact h.1
    generalize wr (wr M 163 9 0) 163 10 0 = A at *
    obtain ⟨M1, s, f1, f2, f3, f4, f5⟩ := X8_s10 hl hw.1 99 0 1000 A (by omega) (by decide) hP hS
    rw [f1]
    refine END.pre ?_ (hz.tr f4.mz)
    unfold f_X8_settings_34
    rcases hp : pass1 (gT S) 100 0 with _ | q
    · rw [hp] at f5
      obtain ⟨q, rfl⟩ := f5
      have h0 : M1 163 10 = 0 := f2.2.2.2
      rw [if_neg (fun x => x h0)]
      obtain ⟨M2, b1, b2, b3⟩ := X8_copies (M := M1) (a := 164) (b := 167) (σ := gS S) ln640.1 ln640.2.2.2 (by decide) f3 hw.1
      rw [b1, Option.bind_some, wrf_eq, Option.bind_some]
      have hset : setA (gT S) (gS S) = pass2 (gT S) 100 0 (gS S) 0 := by unfold setA; rw [hp]
      rw [hset]
      have hP2 : PM (wr M2 163 9 0) (gT S) (.inr 0) := ⟨by rw [wr_ap, if_neg (by decide), wr_ne (by decide), b3 163 (by decide), b3 169 (by decide)]; exact f2.1, wr_sf, Nat.zero_le _, by rw [wr_ap, if_neg (by decide), b3 163 (by decide)]; exact h0⟩
      have hR := X8_s59 hl hw.1 100 0 0 1000 (wr M2 163 9 0) (gS S) (by omega) (by decide) hP2 (by rw [wr_ne (by decide), b3 164 (by decide)]; exact f3) (by rw [wr_ne (by decide)]; exact b2) hw.1 (Or.inr hp)
      exact hR.pre ((MZ.one (Or.inr rfl) b3).tr (MZ.w (Or.inr (Or.inl rfl))))
    · rw [hp] at f5
      have f5' : s = .inl q := f5
      subst f5'
      have hset : setA (gT S) (gS S) = (-1000 - nI q, none) := by unfold setA; rw [hp]
      rw [if_pos (f2.flt hl), hset]
      have := X8_s123 (c := 0) f3
      rw [if_neg (f2.flt hl), show M1 163 10 = -1000 - nI q from f2.2.2.2] at this
      exact this
  obtain ⟨M', e1, e2, e3, e4⟩ := hE
  refine ⟨M', e1, ⟨e2, h.2.1.fr (e4.2 12 (by decide) (by decide) (by decide)) (e4.1 165 (by decide) (by decide) (by decide)), ?_, ?_, fun i hi => ?_⟩, fun i hi => e4.1 i (by omega) (by omega) (by omega)⟩
  · rw [e4.2 8 (by decide) (by decide) (by decide), e4.1 170 (by decide) (by decide) (by decide)]; exact h.2.2.1
  · refine ⟨e3, fun i v hv => ?_⟩
    have hv' : ([] : List Int32)[i]? = some v := hv
    simp at hv'
  · rw [e4.1 168 (by decide) (by decide) (by decide)]; exact h.2.2.2.2 i hi
theorem settings_same {S : St} (hw : WFS S) : SAME S f_X7_settings f_X8_settings := by
  refine ⟨_, _, settings7 hw, settings8 hw, ?_⟩
  refine ⟨?_, hw.2.1, hw.2.2.1, hw.2.2.2.1, by show (0 : Nat) ≤ 96; decide, fun c hc => by cases hc⟩
  show WFs ((setA (gT S) (gS S)).2.getD (gS S))
  rcases ho : (setA (gT S) (gS S)).2 with _ | ρ
  · exact hw.1
  · exact setA_wf hw.1 ho
