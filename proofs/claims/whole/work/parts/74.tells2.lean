/-- rows that being told may change -/
def FT (M M' : Mem) : Prop := (∀ i, (i < 163 ∨ (163 < i ∧ i < 171)) → M' i = M i) ∧ (∀ j, j ≠ 24 → j ≠ 25 → j ≠ 26 → M' 163 j = M 163 j)
theorem FT.rf {M : Mem} : FT M M := ⟨fun _ _ => rfl, fun _ _ _ _ => rfl⟩
theorem FT.tr {A B C : Mem} (h : FT A B) (g : FT B C) : FT A C := ⟨fun i a => (g.1 i a).trans (h.1 i a), fun j a b c => (g.2 j a b c).trans (h.2 j a b c)⟩
theorem FRm.ft {A B : Mem} (h : FRm 0 A B) : FT A B := ⟨fun i hi => h.1 i (by omega), h.2.1⟩
theorem FT.mk {A B : Mem} (h : FT A B) : MK A B := ⟨fun i hi => h.1 i (by omega), h.2 7 (by decide) (by decide) (by decide), h.2 8 (by decide) (by decide) (by decide), h.2 12 (by decide) (by decide) (by decide)⟩
theorem m110 (k : Nat) : (110 : Int32) * nI k = nI (110 * k) := by rw [show (110 : Int32) = nI 110 from rfl, nI_mul]
theorem X8_tells {M : Mem} {σ : Sc} {k : Nat} (hw : WFs σ) (hk : k < 8) (h : SMr (M 164) σ) : ∃ M', f_X8_tells M (nI k) = some M' ∧ FT M M' ∧ WAS M' k (askS σ k).1 ∧ ∀ j, (j < 110 * k ∨ 110 * k + 110 ≤ j) → M' 182 j = M 182 j := by
  obtain ⟨x, M1, e1, e2, e3⟩ := X8_resolves hw hk h
  have hm := MO.of e3
  have hl := hm.len
  have h182 : M1 182 = M 182 := e2.1 182 (by omega)
  generalize hr : (askS σ k).1 = r at *
  have fin : ∀ (B : Mem), B = wr (wr M1 182 (110 * k) (stS r)) 182 (110 * k + 1) (nI (encS r).length) → ∃ M', f_X8_tells_75 1000 B (nI (110 * k)) x 0 = some M' ∧ FT M M' ∧ WAS M' k r ∧ ∀ j, (j < 110 * k ∨ 110 * k + 110 ≤ j) → M' 182 j = M 182 j := by
    intro B hB
    have br : ∀ a, a ≠ 182 → B a = M1 a := fun a ha => by rw [hB, wr_ne ha, wr_ne ha]
    obtain ⟨M', f1, f2, f3, f4⟩ := X8_tells_l (x := x) hk (encS r) 0 B 1000 (by omega) rfl (by omega) (hm.fr br) (by rw [hB, wr_ap, if_pos ⟨rfl, rfl⟩])
    have hft : FT M1 M' := ⟨fun i hi => (f2 i (by omega)).trans (br i (by omega)), fun j _ _ _ => by rw [f2 163 (by decide), br 163 (by decide)]⟩
    refine ⟨M', f1, e2.ft.tr hft, ⟨?_, ?_, fun i v hv => f4 i v (Nat.zero_le _) hv⟩, fun j hj => ?_⟩
    · rw [f3 _ (by omega), hB, wr_ap, if_neg (by omega), wr_ap, if_pos ⟨rfl, rfl⟩]
    · rw [f3 _ (by omega), hB, wr_ap, if_pos ⟨rfl, rfl⟩]
    · rw [f3 _ (by omega), hB, wr_ap, if_neg (by omega), wr_ap, if_neg (by omega), h182]
  have h0 : ∀ q : Nat → Int32, rd 12 q 0 = some (q 0) := fun q => rd0 (by decide) (by decide) q
  unfold f_X8_tells f_X8_tells_30
  rw [e1, Option.bind_some]
  dsimp only
  rw [m110]
  rcases r with fs | ⟨n | is, s, d⟩
  · obtain ⟨m1, m2, m3⟩ := hm
    subst m1
    rw [if_pos rfl, wra_nI (by omega) (by decide), Option.bind_some, if_pos rfl, nI_1, wr_ne (show 163 ≠ 182 by decide), m2.1, wra_nI (by omega) (by decide), Option.bind_some]
    exact fin _ (by simp [encS, stS])
  · obtain ⟨m1, m2, m3⟩ := hm
    subst m1
    rw [if_neg (by decide), h0, Option.bind_some, m2, wra_nI (by omega) (by decide), Option.bind_some, if_neg (by decide), h0, Option.bind_some, wr_ne (show 171 ≠ 182 by decide), m2, if_pos (by decide)]
    have ha : nI (110 * k) + 1 = nI (110 * k + 1) := nI_1 _
    rw [ha, wra_nI (by omega) (by decide), Option.bind_some]
    exact fin _ rfl
  · obtain ⟨m1, m2, m3, m4, m5⟩ := hm
    subst m1
    rw [if_neg (by decide), h0, Option.bind_some, m2, wra_nI (by omega) (by decide), Option.bind_some, if_neg (by decide), h0, Option.bind_some, wr_ne (show 171 ≠ 182 by decide), m2, if_neg (by decide), h0, Option.bind_some, wr_ne (show 173 ≠ 182 by decide), m3]
    have ha : nI (110 * k) + 1 = nI (110 * k + 1) := nI_1 _
    rw [ha, wra_nI (by omega) (by decide), Option.bind_some]
    refine fin _ ?_
    rw [show (2 : Int32) = nI 2 from rfl, nI_mul]
    simp only [encS, encL_len]
    rfl
