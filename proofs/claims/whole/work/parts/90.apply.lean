def appQ (ls : List Int32) (p : Nat) (σ : Sc) : Option Sc :=
  if cN ls p = 108 then (if dv ls (.inr (p + 1)) < 6 ∧ dv ls (dg ls (.inr (p + 1))) < 6 then some (setKF σ (dv ls (.inr (p + 1))) (dv ls (dg ls (.inr (p + 1)))) (dv ls (dg ls (dg ls (.inr (p + 1)))))) else none)
  else if cN ls p = 111 then (if dv ls (.inr (p + 1)) < 6 then some (setOn σ (dv ls (.inr (p + 1))) (!sOn σ (dv ls (.inr (p + 1))))) else none)
  else if cN ls p = 109 then (if dv ls (ky ls (.inr (p + 1))) < 5 then some (setMn σ (kv ls (.inr (p + 1))) (dv ls (ky ls (.inr (p + 1))))) else none)
  else if cN ls p = 101 then (if dv ls (.inr (p + 1)) < 6 ∧ (eV ls (ky ls (dg ls (.inr (p + 1))))).2.2.2.length ≤ 4 ∧ (stL (eV ls (ky ls (dg ls (.inr (p + 1))))).2.2.2).2 = false then some (setEn σ (8 * dv ls (.inr (p + 1)) + kv ls (dg ls (.inr (p + 1)))) (some (eV ls (ky ls (dg ls (.inr (p + 1))))))) else none)
  else (if dv ls (.inr (p + 1)) < 6 ∧ hasE σ (dv ls (.inr (p + 1))) (kv ls (dg ls (.inr (p + 1)))) = true then some (setEn σ (8 * dv ls (.inr (p + 1)) + kv ls (dg ls (.inr (p + 1)))) none) else none)
theorem setEn2 (σ : Sc) (e : Nat) (a b : Option Ent) : setEn (setEn σ e a) e b = setEn σ e b := by
  unfold setEn
  show (_, _, _, _, fup (fup (sEn σ) _ _) _ _) = _
  rw [fup_fup]
theorem sEn_set (σ : Sc) (e : Nat) (a : Option Ent) : sEn (setEn σ e a) e = a := by
  show fup (sEn σ) e a e = a
  unfold fup
  rw [if_pos rfl]
theorem twv_le {ls : List Int32} {s : PS} : twv ls s ≤ 99 := by
  have h1 : dv ls s ≤ 57 - 48 := tv_le
  have h2 : dv ls (dg ls s) ≤ 57 - 48 := tv_le
  show 10 * dv ls s + dv ls (dg ls s) ≤ 99
  omega
theorem eV_shape (ls : List Int32) (s : PS) : ((eV ls s).2.2.2 = [] ∨ ((eV ls s).1 = 1 ∧ (eV ls s).2.1 = 0 ∧ (eV ls s).2.2.1 = 0)) ∧ (eV ls s).1 < 5 ∧ (eV ls s).2.2.1 < 8 ∧ 0 ≤ (eV ls s).2.1 ∧ (eV ls s).2.1 ≤ 99 := by
  rcases s with q | p
  · exact ⟨Or.inl rfl, by show (0 : Nat) < 5; decide, by show (0 : Nat) < 8; decide, by show (0 : Int32) ≤ 0; decide, by show (0 : Int32) ≤ 99; decide⟩
  · unfold eV
    dsimp only
    have ho : kv ls (.inr (p + 1)) ≤ 104 - 97 := tv_le
    have h1 := ni99 (twv_le (ls := ls) (s := .inr (p + 1)))
    have h2 := ni99 (twv_le (ls := ls) (s := ky ls (.inr (p + 1))))
    split
    · exact ⟨Or.inl rfl, by show (0 : Nat) < 5; decide, by show (0 : Nat) < 8; decide, h1⟩
    split
    · exact ⟨Or.inl rfl, by show (4 : Nat) < 5; decide, by show (0 : Nat) < 8; decide, by show (0 : Int32) ≤ 0; decide, by show (0 : Int32) ≤ 99; decide⟩
    split
    · exact ⟨Or.inl rfl, by show (2 : Nat) < 5; decide, by show kv ls (.inr (p + 1)) < 8; omega, by show (0 : Int32) ≤ 0; decide, by show (0 : Int32) ≤ 99; decide⟩
    split
    · exact ⟨Or.inl rfl, by show (3 : Nat) < 5; decide, by show kv ls (.inr (p + 1)) < 8; omega, h2⟩
    · exact ⟨Or.inr ⟨rfl, rfl, rfl⟩, by show (1 : Nat) < 5; decide, by show (0 : Nat) < 8; decide, by show (0 : Int32) ≤ 0; decide, by show (0 : Int32) ≤ 99; decide⟩
theorem itG_len (ls : List Int32) : ∀ (n : Nat) (s : PS) (acc : List (Int32 × Int32)), (itG ls n s acc).1.length ≤ acc.length + n := by
  intro n
  induction n with
  | zero => intro s acc; rcases s with q | q <;> exact Nat.le_refl _
  | succ n ih =>
    intro s acc
    rcases s with q | q
    · exact Nat.le_add_right _ _
    · simp only [itG]
      split
      · exact Nat.le_add_right _ _
      · refine Nat.le_trans (ih _ _) ?_
        simp
        omega
theorem eV_len (ls : List Int32) (s : PS) : (eV ls s).2.2.2.length ≤ 100 := by
  rcases s with q | p
  · exact Nat.zero_le _
  · unfold eV
    dsimp only
    split
    · exact Nat.zero_le _
    split
    · exact Nat.zero_le _
    split
    · exact Nat.zero_le _
    split
    · exact Nat.zero_le _
    · exact Nat.le_trans (itG_len ls 100 _ []) (by decide)
theorem appQ_wf {ls : List Int32} {p : Nat} {σ τ : Sc} (hw : WFs σ) (h : appQ ls p σ = some τ) : WFs τ := by
  unfold appQ at h
  split at h
  · split at h
    · cases h
      rename_i hc
      have : dv ls (dg ls (dg ls (.inr (p + 1)))) ≤ 57 - 48 := tv_le
      exact hw.kf (by omega) (by omega)
    · cases h
  split at h
  · split at h
    · cases h; exact hw.on1 _ _
    · cases h
  split at h
  · split at h
    · cases h; rename_i hc; exact hw.mn hc
    · cases h
  split at h
  · split at h
    · cases h
      rename_i hc
      obtain ⟨-, a, b, c, d⟩ := eV_shape ls (ky ls (dg ls (.inr (p + 1))))
      exact hw.en ⟨a, b, hc.2.1, c, d⟩
    · cases h
  · split at h
    · cases h; exact hw.en trivial
    · cases h
theorem X5_items {e : Nat} {its : List (Int32 × Int32)} (he : e < 48) (h4 : its.length ≤ 4) : ∀ (m i : Nat) (M : Mem) (fuel : Nat) (σ : Sc), i + m = its.length → m < fuel → WFs σ → SCr M 21 σ → ITM M its → sEn σ e = some (1, 0, 0, its.take i) → ∃ M', f_X5_applyEntry_58 fuel M 21 (nI e) (nI i) = some (1, M') ∧ SCr M' 21 (setEn σ e (some (1, 0, 0, its))) ∧ ∀ j, (j < 21 ∨ 31 ≤ j) → M' j = M j := by
  intro m
  induction m with
  | zero =>
    intro i M fuel σ him hf hw h hI hE
    obtain ⟨fu, rfl⟩ : ∃ fu, fuel = fu + 1 := ⟨fuel - 1, by omega⟩
    rw [f_X5_applyEntry_58, hI.1, if_pos (nI_le (by omega) (by omega))]
    refine ⟨M, rfl, ?_, fun _ _ => rfl⟩
    rw [List.take_of_length_le (by omega)] at hE
    have : setEn σ e (some (1, 0, 0, its)) = σ := by
      unfold setEn
      rw [← hE, fup_same]
    rw [this]; exact h
  | succ m ih =>
    intro i M fuel σ him hf hw h hI hE
    obtain ⟨fu, rfl⟩ : ∃ fu, fuel = fu + 1 := ⟨fuel - 1, by omega⟩
    have hx : its[i]? = some its[i] := List.getElem?_eq_getElem (by omega)
    obtain ⟨v1, v2⟩ := hI.2.2.2 i its[i] (by omega) hx
    have hlen : (its.take i).length < 4 := by rw [List.length_take]; omega
    obtain ⟨M1, a1, a2, a3⟩ := X4_addItem (a := its[i].1) (b := its[i].2) h hw he hE hlen
    rw [f_X5_applyEntry_58, hI.1, if_neg (nI_ge (by omega) (by omega)), rd_nI (by omega) (by decide), Option.bind_some, rd_nI (by omega) (by decide), Option.bind_some, v1, v2, a1, Option.bind_some, nI_1]
    have ht : its.take i ++ [(its[i].1, its[i].2)] = its.take (i + 1) := by
      rw [List.take_succ, hx]; rfl
    rw [ht] at a2
    have hI1 : ITM M1 its := by unfold ITM at *; rw [a3 99 (by omega), a3 100 (by omega), a3 101 (by omega)]; exact hI
    have hw1 : WFs (setEn σ e (some (1, 0, 0, its.take (i + 1)))) := hw.en ⟨by decide, by decide, by rw [List.length_take]; omega, by decide, by decide⟩
    obtain ⟨M', f1, f2, f3⟩ := ih (i + 1) M1 fu _ (by omega) (by omega) hw1 a2 hI1 (sEn_set σ e _)
    rw [setEn2] at f2
    exact ⟨M', f1, f2, fun j hj => by rw [f3 j hj, a3 j (by omega)]⟩
abbrev APR (X : Option (Int32 × Mem)) (M : Mem) : Option Sc → Prop
  | none => X = some (0, M)
  | some τ => ∃ M', X = some (1, M') ∧ SCr M' 21 τ ∧ ∀ j, (j < 21 ∨ 31 ≤ j) → M' j = M j
theorem X5_applyTo {M : Mem} {ls : List Int32} {p : Nat} {σ : Sc} (hw : WFs σ) (h : SCr M 21 σ) (hS : STM M ls p) (hv : ∃ q, stQ ls p = .inr q) : APR (f_X5_applyTo M 21) M (appQ ls p σ) := by
  obtain ⟨h0, h1, h2, h3, h4, h5⟩ := hS
  have hdl : dv ls (.inr (p + 1)) ≤ 57 - 48 := tv_le
  have hkl : kv ls (dg ls (.inr (p + 1))) ≤ 104 - 97 := tv_le
  unfold f_X5_applyTo appQ
  rw [h0]
  have lay : ∀ A : Mem, dv ls (.inr (p + 1)) < 6 → f_X7_noLayer A (nI (dv ls (.inr (p + 1)))) = some (0, A) := fun A h => X7_noLayer h
  have lay' : ∀ A : Mem, ¬ dv ls (.inr (p + 1)) < 6 → f_X7_noLayer A (nI (dv ls (.inr (p + 1)))) = some (1, A) := fun A h => X7_noLayer' (Or.inr (nI_nlt (b := 6) (by omega) (by omega)))
  by_cases h108 : cN ls p = 108
  · rw [h108, if_neg (show ¬ nI 108 = 100 by decide), if_neg (show ¬ nI 108 = 101 by decide), if_pos (show nI 108 = 108 by decide), if_pos rfl]
    obtain ⟨k1, k2⟩ := h2 h108
    have hdf : dv ls (dg ls (dg ls (.inr (p + 1)))) ≤ 57 - 48 := tv_le
    have hdk : dv ls (dg ls (.inr (p + 1))) ≤ 57 - 48 := tv_le
    by_cases hl : dv ls (.inr (p + 1)) < 6
    · have c : f_X5_applyKind M 21 = if M 99 3 < 6 then (Option.bind (f_X4_putKind M 21 (M 99 1) (M 99 3) (M 99 4)) fun z4 => bret 1 z4) else bret 0 M := by
        unfold f_X5_applyKind
        rw [show f_X7_noLayer M (M 99 1) = some (0, M) by rw [h1 (by omega)]; exact lay M hl, Option.bind_some]
        exact if_neg (fun q => q rfl)
      rw [c, k1, h1 (by omega), k2]
      by_cases hk : dv ls (dg ls (.inr (p + 1))) < 6
      · rw [if_pos (show nI (dv ls (dg ls (.inr (p + 1)))) < 6 from nI_lt (b := 6) hk (by decide)), if_pos ⟨hl, hk⟩]
        obtain ⟨M', e1, e2, e3⟩ := X4_putKind (f := dv ls (dg ls (dg ls (.inr (p + 1))))) h hw hl hk (by omega)
        rw [e1]
        exact ⟨M', rfl, e2, fun j hj => e3 j (by omega) (by omega) (by omega)⟩
      · rw [if_neg (show ¬ nI (dv ls (dg ls (.inr (p + 1)))) < 6 from nI_nlt (b := 6) (by omega) (by omega)), if_neg (fun q => hk q.2)]
        rfl
    · unfold f_X5_applyKind
      rw [h1 (by omega), lay' M hl, if_neg (fun q => hl q.1)]
      rfl
  by_cases h111 : cN ls p = 111
  · rw [h111, if_neg (show ¬ nI 111 = 100 by decide), if_neg (show ¬ nI 111 = 101 by decide), if_neg (show ¬ nI 111 = 108 by decide), if_pos (show nI 111 = 111 by decide), if_neg (by decide), if_pos rfl]
    unfold f_X5_applyToggle
    rw [h1 (by omega)]
    by_cases hl : dv ls (.inr (p + 1)) < 6
    · rw [lay M hl, Option.bind_some]
      dsimp only
      obtain ⟨e1, e2⟩ := X4_toggle h hl
      rw [if_pos rfl, h1 (by omega), e1, if_pos hl]
      exact ⟨_, rfl, e2, fun j hj => wr_ne (by omega)⟩
    · rw [lay' M hl, if_neg hl]
      rfl
  by_cases h109 : cN ls p = 109
  · rw [h109, if_neg (show ¬ nI 109 = 100 by decide), if_neg (show ¬ nI 109 = 101 by decide), if_neg (show ¬ nI 109 = 108 by decide), if_neg (show ¬ nI 109 = 111 by decide), if_neg (by decide), if_neg (by decide), if_pos rfl]
    obtain ⟨k1, k2⟩ := h3 h109
    have hdm : dv ls (ky ls (.inr (p + 1))) ≤ 57 - 48 := tv_le
    have hk2 : kv ls (.inr (p + 1)) ≤ 104 - 97 := tv_le
    unfold f_X5_applyManner
    rw [k1, k2]
    by_cases hm : dv ls (ky ls (.inr (p + 1))) < 5
    · rw [if_pos (show nI (dv ls (ky ls (.inr (p + 1)))) < 5 from nI_lt (b := 5) hm (by decide)), if_pos hm, wra_nI (by omega) (by decide), Option.bind_some]
      exact ⟨_, rfl, h.manner, fun j hj => wr_ne (by omega)⟩
    · rw [if_neg (show ¬ nI (dv ls (ky ls (.inr (p + 1)))) < 5 from nI_nlt (b := 5) (by omega) (by omega)), if_neg hm]
      rfl
  by_cases h101 : cN ls p = 101
  · rw [h101, if_neg (show ¬ nI 101 = 100 by decide), if_pos (show nI 101 = 101 by decide), if_neg (by decide), if_neg (by decide), if_neg (by decide), if_pos rfl]
    have hE := h5 h101
    obtain ⟨s1, s2, s3, s4, s5⟩ := eV_shape ls (ky ls (dg ls (.inr (p + 1))))
    have hlen := eV_len ls (ky ls (dg ls (.inr (p + 1))))
    generalize hev : eV ls (ky ls (dg ls (.inr (p + 1)))) = ev at *
    obtain ⟨f, n, o, its⟩ := ev
    obtain ⟨n1, n2, n3, n4⟩ := hE
    dsimp only at *
    have he48 : 8 * dv ls (.inr (p + 1)) + kv ls (dg ls (.inr (p + 1))) < 48 ∨ ¬ dv ls (.inr (p + 1)) < 6 := by omega
    by_cases hl : dv ls (.inr (p + 1)) < 6
    · have c : f_X5_applyEntry M 21 = if 4 < M 99 9 then bret 0 M else if M 99 11 = 0 then (Option.bind (f_X7_slotOf M (M 99 1) (M 99 2)) fun z5 => Option.bind (f_X4_put z5.2 21 z5.1 (z5.2 99 6) (z5.2 99 7) (z5.2 99 8)) fun z6 => f_X5_applyEntry_58 1000 z6 21 z5.1 0) else bret 0 M := by
        unfold f_X5_applyEntry
        rw [show f_X7_noLayer M (M 99 1) = some (0, M) by rw [h1 (by omega)]; exact lay M hl, Option.bind_some]
        exact if_neg (fun q => q rfl)
      rw [c, n4.1, n4.2.2.1]
      by_cases h4l : its.length ≤ 4
      · rw [if_neg (show ¬ (4 : Int32) < nI its.length from nI_nlt (a := 4) h4l (by omega))]
        by_cases hd : (stL its).2 = false
        · rw [hd, if_pos (show oI false = 0 by decide), if_pos ⟨hl, h4l, rfl⟩, h1 (by omega), h4 (Or.inr h101), X7_slotOf, Option.bind_some]
          dsimp only
          rw [n1, n2, n3]
          have he : 8 * dv ls (.inr (p + 1)) + kv ls (dg ls (.inr (p + 1))) < 48 := by omega
          generalize 8 * dv ls (.inr (p + 1)) + kv ls (dg ls (.inr (p + 1))) = e at *
          obtain ⟨M1, e1, e2, e3⟩ := X4_putE (M := M) (s := 21) (f := nI f) (n := if f = 0 ∨ f = 3 then n else 0) (o := if f = 2 ∨ f = 3 then nI o else -9) (v := some (f, n, o, [])) h hw he (fun M' a b c => ⟨a, by
            rw [b]
            by_cases hf : f = 1
            · subst hf; rfl
            · rw [if_neg hf], c, fun _ i x hx => by simp at hx⟩)
          rw [e1, Option.bind_some]
          have hI1 : ITM M1 its := by unfold ITM at *; rw [e3 99 (by omega), e3 100 (by omega), e3 101 (by omega)]; exact n4
          rcases s1 with rfl | ⟨rfl, rfl, rfl⟩
          · refine ⟨M1, ?_, e2, fun j hj => e3 j (by omega)⟩
            rw [f_X5_applyEntry_58, hI1.1, if_pos (show nI ([] : List (Int32 × Int32)).length ≤ 0 by decide)]
            rfl
          · have hw1 : WFs (setEn σ e (some (1, 0, 0, []))) := hw.en ⟨by decide, by decide, by decide, by decide, by decide⟩
            obtain ⟨M2, g1, g2, g3⟩ := X5_items he h4l its.length 0 M1 1000 _ (by omega) (by omega) hw1 e2 hI1 (by rw [sEn_set]; rfl)
            have g1' : f_X5_applyEntry_58 1000 M1 21 (nI e) 0 = _ := g1
            rw [setEn2] at g2
            refine ⟨M2, ?_, g2, fun j hj => by rw [g3 j hj, e3 j (by omega)]⟩
            rw [g1']
            rfl
        · have hd2 : (stL its).2 = true := by simpa using hd
          rw [hd2, if_neg (show ¬ oI true = 0 by decide), if_neg (fun q => by cases q.2.2)]
          rfl
      · rw [if_pos (show (4 : Int32) < nI its.length from nI_lt (a := 4) (by omega) (by omega)), if_neg (fun q => h4l q.2.1)]
        rfl
    · unfold f_X5_applyEntry
      rw [h1 (by omega), lay' M hl, if_neg (fun q => hl q.1)]
      rfl
  · have h100 : cN ls p = 100 := by
      obtain ⟨q, hq⟩ := hv
      unfold stQ at hq
      rw [if_neg h108, if_neg h111, if_neg h109, if_neg h101] at hq
      by_cases h : cN ls p = 100
      · exact h
      · rw [if_neg h] at hq; cases hq
    rw [h100, if_pos (show nI 100 = 100 by decide), if_neg (by decide), if_neg (by decide), if_neg (by decide), if_neg (by decide)]
    unfold f_X5_applyDrop
    rw [h1 (by omega)]
    by_cases hl : dv ls (.inr (p + 1)) < 6
    · rw [lay M hl, Option.bind_some]
      dsimp only
      rw [if_neg (show ¬ ¬ (0 : Int32) = 0 by decide), h1 (by omega), h4 (Or.inl h100), X7_slotOf, Option.bind_some]
      dsimp only
      rw [rd_nI (by omega) (by decide), Option.bind_some]
      have hf := X4_form h hw hl (show kv ls (dg ls (.inr (p + 1))) < 8 by omega)
      by_cases hh : hasE σ (dv ls (.inr (p + 1))) (kv ls (dg ls (.inr (p + 1)))) = true
      · rw [if_pos (fun q => by rw [hf.mp q] at hh; cases hh), if_pos ⟨hl, hh⟩, h1 (by omega), h4 (Or.inl h100), X7_slotOf, Option.bind_some]
        dsimp only
        obtain ⟨M', e1, e2, e3⟩ := X4_eraseE h hw (show 8 * dv ls (.inr (p + 1)) + kv ls (dg ls (.inr (p + 1))) < 48 by omega)
        rw [e1]
        exact ⟨M', rfl, e2, fun j hj => e3 j (by omega)⟩
      · rw [if_neg (fun q => q (hf.mpr (by simpa using hh))), if_neg (fun q => hh q.2)]
        rfl
    · rw [lay' M hl, if_neg (fun q => hl q.1)]
      rfl
