theorem bret_oI (b : Bool) (M : Mem) : bret (oI b) M = some (oI b, M) := by cases b <;> rfl
theorem oI_t : oI true = 1 := rfl
theorem oI_f : oI false = 0 := rfl
theorem let8 {ls : List Int32} {p c : Nat} (hl : LW ls) (h1 : 1 ≤ c) (hc : c ≤ 255) : ((if p < ls.length then nI (cN ls p) else 0) = nI c) ↔ cN ls p = c := by
  by_cases hp : p < ls.length
  · obtain ⟨n, hn, e1, e2⟩ := lw_in hl hp
    rw [if_pos hp, e2]
    exact nI_eq (by omega) (by omega)
  · rw [if_neg hp, lw_out hp]
    exact ⟨fun q => by have := (nI_eq (a := 0) (by decide) (by omega)).mp q; omega, fun q => by omega⟩
theorem PM.step {M : Mem} {ls : List Int32} {p : Nat} (h : PM M ls (.inr p)) (hp : p < ls.length) : PM (wr M 163 9 (M 163 9 + 1)) ls (.inr (p + 1)) := by
  obtain ⟨h1, h2, h3, h4⟩ := h
  refine ⟨?_, ?_, hp, ?_⟩
  · rw [wr_ap, if_neg (by decide), wr_ne (by decide)]; exact h1
  · rw [wr_sf, show M 163 9 = nI p from h2, nI_1]; rfl
  · rw [wr_ap, if_neg (by decide)]; exact h4
theorem PM.fail {M : Mem} {ls : List Int32} {p : Nat} (h : PM M ls (.inr p)) : PM (wr M 163 10 (-1000 - M 163 9)) ls (.inl p) := by
  obtain ⟨h1, h2, h3, h4⟩ := h
  refine ⟨?_, ?_, h3, ?_⟩
  · rw [wr_ap, if_neg (by decide), wr_ne (by decide)]; exact h1
  · rw [wr_ap, if_neg (by decide)]; exact h2
  · rw [wr_sf, show M 163 9 = nI p from h2]
theorem mayB_nil (l : Nat) : mayB l [] = decide (l < 6) := by
  unfold mayB
  show (decide (l < 6) && decide (0 ≤ 4) && !false) = _
  simp
/-- an entry put, or not -/
theorem X8_tellT {M : Mem} {ls : List Int32} {s : PS} {l k f o : Nat} {n : Int32} {d : Bool} {σ : Sc} (hw : WFs σ) (hk : k < 8) (h : PM M ls s) (hsc : d = true → SMr (M 164) σ) (hv : ∀ r : Nat → Int32, r (30 + 12 * (8 * l + k)) = nI f → r (31 + 12 * (8 * l + k)) = n → r (32 + 12 * (8 * l + k)) = nI o → r (33 + 12 * (8 * l + k)) = 0 → entM r (8 * l + k) (some (f, n, o, []))) {K : Mem → Option (Int32 × Mem)} {b : Int32} :
    ∃ M', (if oI d = 0 then bret b M else if oI (decide (l < 6)) = 0 then bret b M else Option.bind (f_X8_tell M (nI l) (nI k) (nI f) n (nI o)) fun z => K z.2) = (if d = true ∧ l < 6 then K M' else bret b M') ∧ PM M' ls s ∧ FZ d M M' ∧ (d = true → l < 6 → SMr (M' 164) (setEn σ (8 * l + k) (some (f, n, o, [])))) := by
  by_cases hd : d = true
  · subst hd
    by_cases hl : l < 6
    · obtain ⟨M1, a1, a2, a3⟩ := X8_tellE (t := nI f) (n := n) (o := nI o) (v := some (f, n, o, [])) (hsc rfl) hw hl hk hv
      rw [if_neg (show ¬ oI true = 0 by decide), if_neg (by rw [decide_eq_true hl]; decide), a1, Option.bind_some]
      exact ⟨M1, (if_pos ⟨rfl, hl⟩).symm, h.sc a3, FZ.sc a3, fun _ _ => a2⟩
    · rw [if_neg (show ¬ oI true = 0 by decide), if_pos (by rw [decide_eq_false hl]; rfl)]
      exact ⟨M, (if_neg (fun q => hl q.2)).symm, h, FZ.rf, fun _ q => absurd q hl⟩
  · have hdf : d = false := by simpa using hd
    subst hdf
    rw [if_pos (show oI false = 0 by decide)]
    exact ⟨M, (if_neg (fun q => by cases q.1)).symm, h, FZ.rf, fun q => by cases q⟩
def ENR (X : Option (Int32 × Mem)) (M : Mem) (ls : List Int32) (l k : Nat) (d : Bool) (σ : Sc) (s : PS) (e : Ent) : Prop := ∃ r M', X = some (oI r, M') ∧ PM M' ls s ∧ FZ d M M' ∧ (d = true → ∀ q, s = .inr q → r = mayB l e.2.2.2 ∧ (r = true → SMr (M' 164) (setEn σ (8 * l + k) (some e))))
theorem X8_entry_110 {M : Mem} {ls : List Int32} {l k p : Nat} {d : Bool} {σ : Sc} (hl : LW ls) (hw : WFs σ) (hk : k < 8) (h : PM M ls (.inr (p + 1))) (hsc : d = true → SMr (M 164) σ) (hp : p < ls.length) (hv : cN ls p = 61 ∨ cN ls p = 91 ∨ cN ls p = 64 ∨ cN ls p = 43 ∨ cN ls p = 33) : ENR (f_X8_entry_110 M (nI l) (nI k) (oI d) (nI (cN ls p)) (oI (decide (l < 6)))) M ls l k d σ (eQ ls (.inr p)) (eV ls (.inr p)) := by
  have hl1 := hl.1
  unfold f_X8_entry_110 eQ eV
  dsimp only
  -- what is put
  have fin : ∀ (A : Mem) (s : PS) (f o : Nat) (n : Int32) (K : Mem → Option (Int32 × Mem)), (∀ B, K B = bret (oI (decide (l < 6))) B) → PM A ls s → FZ false M A → (∀ r : Nat → Int32, r (30 + 12 * (8 * l + k)) = nI f → r (31 + 12 * (8 * l + k)) = n → r (32 + 12 * (8 * l + k)) = nI o → r (33 + 12 * (8 * l + k)) = 0 → entM r (8 * l + k) (some (f, n, o, []))) → ENR (if oI d = 0 then bret (oI (decide (l < 6))) A else if oI (decide (l < 6)) = 0 then bret (oI (decide (l < 6))) A else Option.bind (f_X8_tell A (nI l) (nI k) (nI f) n (nI o)) fun z => K z.2) M ls l k d σ s (f, n, o, []) := by
    intro A s f o n K hK hA hF hve
    obtain ⟨M', e1, e2, e3, e4⟩ := X8_tellT (d := d) (σ := σ) (l := l) (K := K) (b := oI (decide (l < 6))) hw hk hA (fun q => by rw [hF.2.2 rfl]; exact hsc q) hve
    refine ⟨decide (l < 6), M', ?_, e2, hF.up.tr e3, fun hd q _ => ⟨(mayB_nil l).symm, fun hr => e4 hd (by simpa using hr)⟩⟩
    rw [e1]
    split
    · rw [hK, bret_oI]
    · rw [bret_oI]
  have e0 : ∀ r : Nat → Int32, r (33 + 12 * (8 * l + k)) = 0 → True := fun _ _ => trivial
  by_cases h61 : cN ls p = 61
  · rw [h61, if_neg (show ¬ ¬ nI 61 = 61 by decide), if_pos rfl, if_pos rfl]
    obtain ⟨M1, a1, a2, a3⟩ := X8_two hl h
    rw [a1, Option.bind_some]
    exact fin M1 _ 0 0 _ (fun B => bret (oI (decide (l < 6))) B) (fun _ => rfl) a2 a3 (fun r a b c dd => ⟨a, by rw [b]; rfl, fun q => by omega, fun q => by cases q⟩)
  have n61 : ¬ nI (cN ls p) = 61 := fun q => h61 ((nI_eq (b := 61) (by omega) (by decide)).mp q)
  rw [if_pos n61, if_neg h61, if_neg h61]
  by_cases h33 : cN ls p = 33
  · rw [h33, if_neg (show ¬ ¬ nI 33 = 33 by decide), if_pos rfl, if_pos rfl]
    exact fin M _ 4 0 0 (fun B => bret (oI (decide (l < 6))) B) (fun _ => rfl) h FZ.rf (fun r a b c dd => ⟨a, by rw [b]; rfl, fun q => by omega, fun q => by cases q⟩)
  have n33 : ¬ nI (cN ls p) = 33 := fun q => h33 ((nI_eq (b := 33) (by omega) (by decide)).mp q)
  rw [if_pos n33, if_neg h33, if_neg h33]
  obtain ⟨MK1, k1, k2, k3⟩ := X8_key hl h
  by_cases h64 : cN ls p = 64
  · rw [h64, if_pos (show nI 64 = 64 by decide), if_pos rfl, if_pos rfl]
    unfold f_X8_entry_191
    rw [k1, Option.bind_some]
    dsimp only
    rw [if_pos (show ¬ nI 64 = 43 by decide)]
    unfold f_X8_entry_216
    rw [if_pos (show ¬ nI 64 = 43 by decide)]
    exact fin MK1 _ 2 _ 0 (fun B => bret (oI (decide (l < 6))) B) (fun _ => rfl) k2 k3 (fun r a b c dd => ⟨a, by rw [b]; rfl, fun _ => c, fun q => by omega⟩)
  have n64 : ¬ nI (cN ls p) = 64 := fun q => h64 ((nI_eq (b := 64) (by omega) (by decide)).mp q)
  rw [if_neg n64, if_neg h64, if_neg h64]
  by_cases h43 : cN ls p = 43
  · rw [h43, if_neg (show ¬ ¬ nI 43 = 43 by decide), if_pos rfl, if_pos rfl]
    unfold f_X8_entry_191
    obtain ⟨M2, a1, a2, a3⟩ := X8_two hl k2
    rw [k1, Option.bind_some]
    dsimp only
    rw [if_neg (show ¬ ¬ nI 43 = 43 by decide), a1, Option.bind_some]
    unfold f_X8_entry_216
    rw [if_neg (show ¬ ¬ nI 43 = 43 by decide)]
    exact fin M2 _ 3 _ _ (fun B => bret (oI (decide (l < 6))) B) (fun _ => rfl) a2 (k3.tr a3) (fun r a b c dd => ⟨a, by rw [b]; rfl, fun _ => c, fun q => by omega⟩)
  have n43 : ¬ nI (cN ls p) = 43 := fun q => h43 ((nI_eq (b := 43) (by omega) (by decide)).mp q)
  have h91 : cN ls p = 91 := by omega
  rw [if_pos n43, if_neg h43, if_neg h43, if_pos h91]
  have hf : ∀ (A : Mem), PM A ls (.inr (p + 1)) → FZ d M A → (d = true → l < 6 → SMr (A 164) (setEn σ (8 * l + k) (some (1, 0, 0, [])))) → ENR (f_X8_entry_278 1000 A (nI l) (nI k) (oI d) (oI (decide (l < 6))) 0 0) M ls l k d σ (sg ls 93 (itG ls 100 (.inr (p + 1)) []).2) (1, 0, 0, (itG ls 100 (.inr (p + 1)) []).1) := by
    intro A hA hF hS
    obtain ⟨M', f1, f2, f3, f4⟩ := X8_items (l := l) (k := k) (d := d) (σ := σ) hl hw hk 100 1000 (.inr (p + 1)) A [] (fun q hq => by cases hq; omega) (by decide) hA (by decide) (fun hd hm => hS hd (by rw [mayB_nil] at hm; simpa using hm))
    rw [mayB_nil] at f1
    have f1' : f_X8_entry_278 1000 A (nI l) (nI k) (oI d) (oI (decide (l < 6))) 0 0 = _ := f1
    exact ⟨_, M', f1', f2, hF.tr f3, fun hd q _ => ⟨rfl, fun hr => f4 hd hr⟩⟩
  by_cases hd : d = true
  · subst hd
    by_cases hl6 : l < 6
    · obtain ⟨M1, a1, a2, a3⟩ := X8_tellE (t := 1) (n := 0) (o := 0) (v := some (1, 0, 0, [])) (hsc rfl) hw hl6 hk (fun r a b c d => ⟨a, by rw [b]; rfl, fun q => by omega, fun _ => ⟨d, fun i x hx => by simp at hx⟩⟩)
      have h0 := hf M1 (h.sc a3) (FZ.sc a3) (fun _ _ => a2)
      rw [if_neg (show ¬ oI true = 0 by decide), if_neg (by rw [decide_eq_true hl6]; decide), a1, Option.bind_some]
      exact h0
    · have h0 := hf M h FZ.rf (fun _ q => absurd q hl6)
      rw [if_neg (show ¬ oI true = 0 by decide), if_pos (by rw [decide_eq_false hl6]; rfl)]
      exact h0
  · have hdf : d = false := by simpa using hd
    subst hdf
    have h0 := hf M h FZ.rf (fun q => by cases q)
    rw [if_pos (show oI false = 0 by decide)]
    exact h0
theorem X8_entryT {M : Mem} {ls : List Int32} {s : PS} {l k : Nat} {d : Bool} {σ : Sc} (hl : LW ls) (hw : WFs σ) (hl9 : l ≤ 9) (hk : k < 8) (h : PM M ls s) (hsc : d = true → SMr (M 164) σ) : ENR (f_X8_entry M (nI l) (nI k) (oI d)) M ls l k d σ (eQ ls s) (eV ls s) := by
  have hl1 := hl.1
  have hps := h.2.2.1
  have c : f_X8_entry M (nI l) (nI k) (oI d) = f_X8_entry_24 M (nI l) (nI k) (oI d) (if ps s < ls.length then nI (cN ls (ps s)) else 0) := by
    unfold f_X8_entry
    rw [h.1.1, h.2.1]
    by_cases hp : ps s < ls.length
    · obtain ⟨n, hn, e1, e2⟩ := lw_in hl hp
      rw [if_neg (nI_ge (by omega) (by omega)), rd_nI (by omega) (by decide), Option.bind_some, h.1.2 _ _ e1, if_pos hp, e2]
    · rw [if_pos (nI_le (by omega) (by omega)), if_neg hp]
  rw [c]
  rcases s with q | p
  · unfold f_X8_entry_24 f_X8_entry_80
    rw [if_pos (h.flt hl), if_neg (h.flt hl)]
    exact ⟨false, M, rfl, h, FZ.rf, fun _ q hq => by cases hq⟩
  · have h0 : M 163 10 = 0 := h.2.2.2
    show ENR (f_X8_entry_24 M (nI l) (nI k) (oI d) (if p < ls.length then nI (cN ls p) else 0)) M ls l k d σ _ _
    have c33 : ((if p < ls.length then nI (cN ls p) else 0) = 33) ↔ cN ls p = 33 := let8 (p := p) (c := 33) hl (by decide) (by decide)
    have c43 : ((if p < ls.length then nI (cN ls p) else 0) = 43) ↔ cN ls p = 43 := let8 (p := p) (c := 43) hl (by decide) (by decide)
    have c61 : ((if p < ls.length then nI (cN ls p) else 0) = 61) ↔ cN ls p = 61 := let8 (p := p) (c := 61) hl (by decide) (by decide)
    have c64 : ((if p < ls.length then nI (cN ls p) else 0) = 64) ↔ cN ls p = 64 := let8 (p := p) (c := 64) hl (by decide) (by decide)
    have c91 : ((if p < ls.length then nI (cN ls p) else 0) = 91) ↔ cN ls p = 91 := let8 (p := p) (c := 91) hl (by decide) (by decide)
    have hpos : p < ls.length → (if p < ls.length then nI (cN ls p) else 0) = nI (cN ls p) := fun q => if_pos q
    generalize (if p < ls.length then nI (cN ls p) else 0) = x at *
    by_cases hv : cN ls p = 61 ∨ cN ls p = 91 ∨ cN ls p = 64 ∨ cN ls p = 43 ∨ cN ls p = 33
    · have hp := cN_lt (ls := ls) (p := p) (m := 255) (by omega) (by decide)
      have e : f_X8_entry_24 M (nI l) (nI k) (oI d) x = f_X8_entry_80 M (nI l) (nI k) (oI d) x := by
        unfold f_X8_entry_24
        rw [if_neg (fun q => q h0)]
        rcases hv with hv | hv | hv | hv | hv
        · rw [if_pos (c61.mpr hv)]
        · rw [if_neg (fun q => by have := c61.mp q; omega), if_pos (c91.mpr hv)]
        · rw [if_neg (fun q => by have := c61.mp q; omega), if_neg (fun q => by have := c91.mp q; omega), if_pos (c64.mpr hv)]
        · rw [if_neg (fun q => by have := c61.mp q; omega), if_neg (fun q => by have := c91.mp q; omega), if_neg (fun q => by have := c64.mp q; omega), if_pos (c43.mpr hv)]
        · rw [if_neg (fun q => by have := c61.mp q; omega), if_neg (fun q => by have := c91.mp q; omega), if_neg (fun q => by have := c64.mp q; omega), if_neg (fun q => by have := c43.mp q; omega), if_pos (c33.mpr hv)]
      rw [e, hpos hp]
      have hz : FZ d M (wr M 163 9 (M 163 9 + 1)) := FZ.w (Or.inl rfl)
      have hR := X8_entry_110 (l := l) (k := k) (d := d) (σ := σ) hl hw hk (h.step hp) (fun q => by rw [wr_ne (by decide)]; exact hsc q) hp hv
      have e2 : f_X8_entry_80 M (nI l) (nI k) (oI d) (nI (cN ls p)) = f_X8_entry_110 (wr M 163 9 (M 163 9 + 1)) (nI l) (nI k) (oI d) (nI (cN ls p)) (oI (decide (l < 6))) := by
        unfold f_X8_entry_80
        rw [if_pos h0, wrf_eq, Option.bind_some]
        by_cases hl6 : l < 6
        · rw [if_neg (show ¬ (6 : Int32) ≤ nI l from nI_ge (b := 6) hl6 (by decide)), decide_eq_true hl6]; rfl
        · rw [if_pos (show (6 : Int32) ≤ nI l from nI_le (a := 6) (by omega) (by omega)), decide_eq_false hl6]; rfl
      rw [e2]
      obtain ⟨r, M', f1, f2, f3, f4⟩ := hR
      exact ⟨r, M', f1, f2, hz.tr f3, f4⟩
    · have e : eQ ls (.inr p) = .inl p := by
        unfold eQ
        dsimp only
        rw [if_neg (by omega), if_neg (by omega), if_neg (by omega), if_neg (by omega), if_neg (by omega)]
      rw [e]
      unfold f_X8_entry_24
      rw [if_neg (fun q => q h0), if_neg (fun q => by have := c61.mp q; omega), if_neg (fun q => by have := c91.mp q; omega), if_neg (fun q => by have := c64.mp q; omega), if_neg (fun q => by have := c43.mp q; omega), if_neg (fun q => by have := c33.mp q; omega), wrf_eq, Option.bind_some]
      have hF := h.fail
      unfold f_X8_entry_80
      rw [if_neg (hF.flt hl)]
      exact ⟨false, _, rfl, hF, FZ.w (Or.inr rfl), fun _ q hq => by cases hq⟩
