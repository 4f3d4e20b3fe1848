/-- the reference's rows but the one of now -/
def MT (M M' : Mem) : Prop := (∀ i, (i < 163 ∨ i = 165 ∨ i = 168 ∨ i = 169 ∨ i = 170) → M' i = M i) ∧ M' 163 7 = M 163 7 ∧ M' 163 8 = M 163 8 ∧ M' 163 12 = M 163 12
theorem MT.rf {M : Mem} : MT M M := ⟨fun _ _ => rfl, rfl, rfl, rfl⟩
theorem MT.tr {A B C : Mem} (h : MT A B) (g : MT B C) : MT A C := ⟨fun i hi => (g.1 i hi).trans (h.1 i hi), g.2.1.trans h.2.1, g.2.2.1.trans h.2.2.1, g.2.2.2.trans h.2.2.2⟩
theorem MK.mt {A B : Mem} (h : MK A B) : MT A B := ⟨fun i hi => h.1 i (by omega), h.2⟩
theorem MT.one {A B : Mem} {c : Nat} (hc : c = 164 ∨ c = 166 ∨ c = 167) (h : ∀ i, i ≠ c → B i = A i) : MT A B := ⟨fun i hi => h i (by omega), by rw [h 163 (by omega)], by rw [h 163 (by omega)], by rw [h 163 (by omega)]⟩
theorem ModI.mt {M M' : Mem} {S : St} (h : ModI M S) (hf : MT M M') (h1 : SMr (M' 164) (gS S)) : ModI M' S := by
  obtain ⟨-, h2, h3, h4, h5⟩ := h
  obtain ⟨f1, f2, f3, f4⟩ := hf
  refine ⟨h1, h2.fr f4 (f1 165 (by omega)), ?_, ?_, fun i hi => ?_⟩
  · rw [f3, f1 170 (by omega)]; exact h3
  · rw [f2, f1 169 (by omega)]; exact h4
  · rw [f1 168 (by omega)]; exact h5 i hi
theorem MT.f8 {A B : Mem} (h : MT A B) : F8 A B := fun i hi => h.1 i (by omega)
theorem same_try {α : Type} {S : St} {X Y : Mem → Option (α × Mem)} (hw : WFS S) (a : α) (h7 : ∀ M, ClsI M S → ∃ M', X M = some (a, M') ∧ CF M M') (h8 : ∀ M, ModI M S → ∃ M', Y M = some (a, M') ∧ MT M M' ∧ SMr (M' 164) (gS S)) : SAME S X Y :=
  ⟨a, S, fun M h => by obtain ⟨M', e1, e2⟩ := h7 M h; exact ⟨M', e1, h.cf e2, e2.f7⟩, fun M h => by obtain ⟨M', e1, e2, e3⟩ := h8 M h; exact ⟨M', e1, h.mt e2 e3, e2.f8⟩, hw⟩
/-- a number put, its layer on -/
def putN (σ : Sc) (l k : Nat) (n : Int32) : Sc := setEn (setOn σ l true) (8 * l + k) (some (0, n, 0, []))
theorem putN_putN (σ : Sc) (l k : Nat) (a b : Int32) : putN (putN σ l k a) l k b = putN σ l k b := by
  unfold putN setEn setOn
  show (fup (fup (sOn σ) l true) l true, _, _, _, fup (fup (sEn σ) _ _) _ _) = _
  rw [fup_fup, fup_fup]
theorem putN_wf {σ : Sc} (hw : WFs σ) {l k n : Nat} (hn : n ≤ 99) : WFs (putN σ l k (nI n)) := (hw.on1 l true).en ⟨by decide, by decide, by decide, (ni99 hn).1, (ni99 hn).2⟩
theorem X4_putOn {M : Mem} {s l k : Nat} {n : Int32} {σ : Sc} (h : SCr M s σ) (hw : WFs σ) (hl : l < 6) (hk : k < 8) : ∃ M', f_X4_putOn M s (nI l) (nI k) n = some M' ∧ SCr M' s (putN σ l k n) ∧ ∀ i, (i < s ∨ s + 10 ≤ i) → M' i = M i := by
  unfold f_X4_putOn
  rw [wrf_eq, Option.bind_some, X7_slotOf, Option.bind_some]
  dsimp only
  obtain ⟨M', e1, e2, e3⟩ := X4_putE (f := 0) (n := n) (o := -9) (v := some (0, n, 0, [])) (h.turnOn hl) (hw.on1 l true) (show 8 * l + k < 48 by omega) (fun M' a b c => ⟨a, by rw [b]; rfl, by rw [c]; rfl, fun q => by cases q⟩)
  rw [e1, Option.bind_some]
  exact ⟨M', rfl, e2, fun i hi => by rw [e3 i (by omega), wr_ne (by omega)]⟩
def setS (σ : Sc) (l k o : Nat) (v : Int32) : Nat → Nat → Int32
  | 0, _ => -9
  | m + 1, n => if nmS (putN σ l k (nI n)) o = v then nI n else setS σ l k o v m (n + 1)
theorem X7_set_73 {S : St} {l k o : Nat} {v : Int32} (hw : WFS S) (hl : l < 6) (hk : k < 8) (ho : o < 8) : ∀ (m n : Nat) (M : Mem) (fuel : Nat) (τ : Sc), n + m = 100 → m < fuel → ClsI M S → SCr M 21 τ → WFs τ → (∀ x, putN τ l k x = putN (gS S) l k x) → ∃ M', f_X7_set_73 fuel M (nI l) (nI k) (nI o) v (nI n) = some (setS (gS S) l k o v m n, M') ∧ CF M M' := by
  intro m
  induction m with
  | zero =>
    intro n M fuel τ hnm hf h ht hwt hp
    obtain ⟨fu, rfl⟩ : ∃ fu, fuel = fu + 1 := ⟨fuel - 1, by omega⟩
    rw [f_X7_set_73, if_pos (show 99 < nI n from nI_lt (a := 99) (by omega) (by omega))]
    exact ⟨M, rfl, CF.rf⟩
  | succ m ih =>
    intro n M fuel τ hnm hf h ht hwt hp
    obtain ⟨fu, rfl⟩ : ∃ fu, fuel = fu + 1 := ⟨fuel - 1, by omega⟩
    obtain ⟨M1, a1, a2, a3⟩ := X4_putOn (n := nI n) ht hwt hl hk
    rw [hp] at a2
    have hwp := putN_wf (l := l) (k := k) hw.1 (show n ≤ 99 by omega)
    obtain ⟨M2, b1, b2, b3, b4⟩ := asks7 a2 hwp ho
    have hcf : CF M M2 := CF.tr (fun i hi => a3 i (by omega)) b2.cf
    rw [f_X7_set_73, if_neg (show ¬ 99 < nI n from nI_nlt (a := 99) (by omega) (by decide)), a1, Option.bind_some, b1, Option.bind_some, X1_numberOrNothing b3.1, Option.bind_some]
    dsimp only
    simp only [setS]
    by_cases hv : nmS (putN (gS S) l k (nI n)) o = v
    · rw [if_neg (fun q => q hv), if_pos hv]
      exact ⟨M2, rfl, hcf⟩
    · rw [if_pos hv, if_neg hv, nI_1]
      obtain ⟨M', f1, f2⟩ := ih (n + 1) M2 fu _ (by omega) (by omega) (h.cf hcf) b4 hwp (fun x => putN_putN _ _ _ _ _)
      exact ⟨M', f1, hcf.tr f2⟩
theorem n9_t : ∀ n, n < 100 → nI n ≠ -9 := by decide +kernel
theorem X8_set_133 {σ : Sc} (hw : WFs σ) {M : Mem} {x : Int32} (h : SMr (M 166) σ) : ∃ M', f_X8_set_133 M x = some (x, M') ∧ MT M M' ∧ SMr (M' 164) σ := by
  unfold f_X8_set_133
  obtain ⟨M', e1, e2, e3⟩ := X8_copies ln640.2.2.1 ln640.1 (by decide) h hw
  rw [e1, Option.bind_some]
  exact ⟨M', rfl, MT.one (Or.inl rfl) e3, e2⟩
theorem X8_set_83 {σ : Sc} {l k o : Nat} {v : Int32} (hw : WFs σ) (hl : l < 6) (hk : k < 8) (ho : o < 8) : ∀ (m n : Nat) (M : Mem) (fuel : Nat) (τ : Sc), n + m = 100 → m + 1 < fuel → SMr (M 164) τ → SMr (M 166) σ → WFs τ → (∀ x, setEn τ (8 * l + k) x = setEn (setOn σ l true) (8 * l + k) x) → ∃ M', f_X8_set_83 fuel M (nI l) (nI k) (nI o) v (-9) (nI n) = some (setS σ l k o v m n, M') ∧ MT M M' ∧ SMr (M' 164) σ := by
  intro m
  induction m with
  | zero =>
    intro n M fuel τ hnm hf h h6 hwt hp
    obtain ⟨fu, rfl⟩ : ∃ fu, fuel = fu + 1 := ⟨fuel - 1, by omega⟩
    rw [f_X8_set_83, if_pos (show (100 : Int32) ≤ nI n from nI_le (a := 100) (by omega) (by omega))]
    exact X8_set_133 hw h6
  | succ m ih =>
    intro n M fuel τ hnm hf h h6 hwt hp
    obtain ⟨fu, rfl⟩ : ∃ fu, fuel = fu + 1 := ⟨fuel - 1, by omega⟩
    obtain ⟨M1, a1, a2, a3⟩ := X8_tellE (t := 0) (n := nI n) (o := 0) (v := some (0, nI n, 0, [])) h hwt hl hk (fun r a b c d => ⟨a, by rw [b]; rfl, fun q => by omega, fun q => by cases q⟩)
    rw [hp] at a2
    have hwp := putN_wf (l := l) (k := k) hw (show n ≤ 99 by omega)
    obtain ⟨M2, b1, b2⟩ := X8_numberOf (σ := putN σ l k (nI n)) hwp ho a2
    have h62 : SMr (M2 166) σ := by rw [b2.1 166 (by omega), a3 166 (by decide)]; exact h6
    have h42 : SMr (M2 164) (putN σ l k (nI n)) := by rw [b2.1 164 (by omega)]; exact a2
    have hmt : MT M M2 := (MT.one (Or.inl rfl) a3).tr b2.mk.mt
    rw [f_X8_set_83, if_neg (show ¬ (100 : Int32) ≤ nI n from nI_ge (b := 100) (by omega) (by decide)), if_neg (fun q => q rfl), a1, Option.bind_some]
    dsimp only
    rw [b1, Option.bind_some]
    dsimp only
    simp only [setS]
    by_cases hv : nmS (putN σ l k (nI n)) o = v
    · rw [if_neg (fun q => q hv), if_pos hv, nI_1]
      obtain ⟨fu2, rfl⟩ : ∃ fu2, fu = fu2 + 1 := ⟨fu - 1, by omega⟩
      obtain ⟨M', f1, f2, f3⟩ := X8_set_133 (x := nI n) hw h62
      rw [f_X8_set_83]
      refine ⟨M', ?_, hmt.tr f2, f3⟩
      by_cases h100 : (100 : Int32) ≤ nI (n + 1)
      · rw [if_pos h100]; exact f1
      · rw [if_neg h100, if_pos (n9_t n (by omega))]; exact f1
    · rw [if_pos hv, if_neg hv, nI_1]
      obtain ⟨M', f1, f2, f3⟩ := ih (n + 1) M2 fu (putN σ l k (nI n)) (by omega) (by omega) h42 h62 hwp (fun x => by
        unfold putN setEn
        show (_, _, _, _, fup (fup (sEn σ) _ _) _ _) = _
        rw [fup_fup]
        rfl)
      exact ⟨M', f1, hmt.tr f2, f3⟩
theorem set_same {S : St} (hw : WFS S) (x y z v : Int32) : SAME S (fun M => f_X7_set M x y z v) (fun M => f_X8_set M x y z v) := by
  have b7 : ∀ M, f_X7_set_21 M x y z v = f_X7_refuse M (-1) := by
    intro M
    unfold f_X7_set_21 f_X7_set_26 f_X7_set_45
    rw [if_neg (by decide), if_neg (by decide), bind_eta]
  rcases argL x with ⟨l, hl, rfl⟩ | hx
  · rcases argK y with ⟨k, hk, rfl⟩ | hy
    · rcases argK z with ⟨o, ho, rfl⟩ | hz
      · have c7 : ∀ M, f_X7_set M (nI l) (nI k) (nI o) v = Option.bind (f_X7_outside M v 999) fun z2 => f_X7_set_45 z2.2 (nI l) (nI k) (nI o) v z2.1 := by
          intro M
          unfold f_X7_set
          rw [X7_noLayer hl, Option.bind_some]
          dsimp only
          rw [if_neg (by decide), X7_noKey hk, Option.bind_some]
          dsimp only
          rw [if_neg (by decide), X7_noKey ho, Option.bind_some]
          dsimp only
          unfold f_X7_set_26
          rw [if_pos rfl, if_pos rfl]
        have c8 : ∀ M, f_X8_set M (nI l) (nI k) (nI o) v = if 0 ≤ v then (if v ≤ 999 then Option.bind (f_X8_copies M 164 166) (fun z11 => Option.bind (wra 640 z11 164 (3 * nI l + 0) 1) fun M12 => f_X8_set_83 1000 M12 (nI l) (nI k) (nI o) v (-9) 0) else f_X8_no M (-6)) else f_X8_no M (-4) := by
          intro M
          unfold f_X8_set
          rw [X8_isLayer hl, Option.bind_some]
          dsimp only
          rw [if_neg (by decide), X8_isKey hk, Option.bind_some]
          dsimp only
          rw [if_neg (by decide), X8_isKey ho, Option.bind_some]
          dsimp only
          rw [if_pos (by decide)]
          simp only [bind_eta]
        rcases argo v 999 (by decide) with ⟨n, hn, rfl⟩ | hv | ⟨hv1, hv2⟩
        · refine same_try hw (setS (gS S) l k o (nI n) 100 0) (fun M h => ?_) (fun M h => ?_)
          · rw [c7, show f_X7_outside M (nI n) 999 = some (0, M) from X7_out (n := 999) hn (by decide), Option.bind_some]
            dsimp only
            unfold f_X7_set_45
            obtain ⟨M2, e1, e2, e3⟩ := beco7 h hw
            rw [if_pos rfl, e1, Option.bind_some]
            obtain ⟨M', f1, f2⟩ := X7_set_73 (v := nI n) hw hl hk ho 100 0 M2 1000 (gS S) rfl (by decide) (h.cf e3) e2 hw.1 (fun _ => rfl)
            exact ⟨M', f1, e3.tr f2⟩
          · rw [c8, if_pos (ge0 (by omega)), if_pos (show nI n ≤ 999 from nI_le (b := 999) hn (by decide))]
            obtain ⟨M1, e1, e2, e3⟩ := X8_copies ln640.1 ln640.2.2.1 (by decide) h.1 hw.1
            rw [e1, Option.bind_some, m_a0, wra_nI (by omega) (by decide), Option.bind_some]
            have h4 : SMr (wr M1 164 (3 * l) 1 164) (setOn (gS S) l true) := SMr.on (r := M 164) h.1 hl (by rw [wr_ap, if_pos ⟨rfl, rfl⟩]; rfl) (fun j hj => by rw [wr_ap, if_neg (by omega), e3 164 (by decide)])
            obtain ⟨M', f1, f2, f3⟩ := X8_set_83 (v := nI n) hw.1 hl hk ho 100 0 (wr M1 164 (3 * l) 1) 1000 _ rfl (by decide) h4 (by rw [wr_ne (by decide)]; exact e2) (hw.1.on1 l true) (fun _ => rfl)
            exact ⟨M', f1, ((MT.one (Or.inr (Or.inl rfl)) e3).tr (MT.one (Or.inl rfl) (fun i hi => wr_ne hi))).tr f2, f3⟩
        · refine same_no hw (-4) 4 neg4 (by decide) (fun M h => ?_) (fun M h => ?_)
          · rw [c7, X7_outL hv, Option.bind_some]
            dsimp only
            unfold f_X7_set_45
            rw [if_neg (by decide), bind_eta]
            exact ⟨M, rfl, CF.rf⟩
          · rw [c8, if_neg (nge0 hv)]
            exact ⟨M, rfl, MK.rf⟩
        · refine same_no hw (-6) 6 neg6 (by decide) (fun M h => ?_) (fun M h => ?_)
          · rw [c7, X7_outH (y := 999) hv1 hv2, Option.bind_some]
            dsimp only
            unfold f_X7_set_45
            rw [if_neg (by decide), bind_eta]
            exact ⟨M, rfl, CF.rf⟩
          · rw [c8, if_pos (ge0' hv1), if_neg (show ¬ v ≤ 999 from hv2)]
            exact ⟨M, rfl, MK.rf⟩
      · refine same_no hw (-1) 1 neg1 (by decide) (fun M h => ?_) (fun M h => ?_)
        · unfold f_X7_set
          rw [X7_noLayer hl, Option.bind_some]
          dsimp only
          rw [if_neg (by decide), X7_noKey hk, Option.bind_some]
          dsimp only
          rw [if_neg (by decide), X7_noKey' hz, Option.bind_some]
          dsimp only
          rw [if_neg (by decide), b7]
          exact ⟨M, rfl, CF.rf⟩
        · unfold f_X8_set
          rw [X8_isLayer hl, Option.bind_some]
          dsimp only
          rw [if_neg (by decide), X8_isKey hk, Option.bind_some]
          dsimp only
          rw [if_neg (by decide), X8_isKey' hz, Option.bind_some]
          dsimp only
          rw [if_neg (by decide), bind_eta]
          exact ⟨M, rfl, MK.rf⟩
    · refine same_no hw (-1) 1 neg1 (by decide) (fun M h => ?_) (fun M h => ?_)
      · unfold f_X7_set
        rw [X7_noLayer hl, Option.bind_some]
        dsimp only
        rw [if_neg (by decide), X7_noKey' hy, Option.bind_some]
        dsimp only
        rw [if_pos (by decide), b7]
        exact ⟨M, rfl, CF.rf⟩
      · unfold f_X8_set
        rw [X8_isLayer hl, Option.bind_some]
        dsimp only
        rw [if_neg (by decide), X8_isKey' hy, Option.bind_some]
        dsimp only
        rw [if_pos rfl, bind_eta]
        exact ⟨M, rfl, MK.rf⟩
  · refine same_no hw (-1) 1 neg1 (by decide) (fun M h => ?_) (fun M h => ?_)
    · unfold f_X7_set
      rw [X7_noLayer' hx, Option.bind_some]
      dsimp only
      rw [if_pos (by decide), b7]
      exact ⟨M, rfl, CF.rf⟩
    · unfold f_X8_set
      rw [X8_isLayer' hx, Option.bind_some]
      dsimp only
      rw [if_pos rfl, bind_eta]
      exact ⟨M, rfl, MK.rf⟩
