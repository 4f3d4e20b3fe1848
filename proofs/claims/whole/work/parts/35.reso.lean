theorem nodup_le : ∀ (n : Nat) (p : List Nat), (∀ x ∈ p, x < n) → p.Nodup → p.length ≤ n := by
  intro n
  induction n with
  | zero =>
    intro p h _
    cases p with
    | nil => simp
    | cons x _ => exact absurd (h x List.mem_cons_self) (by omega)
  | succ n ih =>
    intro p h hn
    have h1 := ih (p.erase n) (fun x hx => by
      have hm := (hn.mem_erase_iff).mp hx
      have := h x hm.2
      have := hm.1
      omega) (hn.erase n)
    rw [List.length_erase] at h1
    split at h1 <;> omega
theorem nodup_le8 {p : List Nat} (h : ∀ x ∈ p, x < 8) (hn : p.Nodup) : p.length ≤ 8 := nodup_le 8 p h hn
theorem nodup_snoc {p : List Nat} {k : Nat} (hn : p.Nodup) (hk : k ∉ p) : (p ++ [k]).Nodup := by
  rw [List.nodup_append]
  exact ⟨hn, by simp, fun a ha b hb => by rw [List.mem_singleton.mp hb]; exact fun q => hk (q ▸ ha)⟩
theorem ACC.fr {M M' : Mem} {o m : Nat} {a : Option Acc} (h : ACC M o m a) (hM : ∀ i, o ≤ i → i ≤ o + 3 → M' i = M i) : ACC M' o m a := by
  have e0 := hM o (by omega) (by omega)
  have e1 := hM (o + 1) (by omega) (by omega)
  have e2 := hM (o + 2) (by omega) (by omega)
  have e3 := hM (o + 3) (by omega) (by omega)
  match a, h with
  | none, h => unfold ACC at *; rw [e0]; exact h
  | some (v, s, d), ⟨h1, h2, h3, h4, h5, h6⟩ =>
    refine ⟨?_, by rw [e0]; exact h2, by rw [e0]; exact h3, h4, h5, h6⟩
    match v, h1 with
    | .inl n, h => unfold OV at *; rw [e0]; exact h
    | .inr is, ⟨g1, g2, g3, g4⟩ => exact ⟨by rw [e0]; exact g1, by rw [e0]; exact g2, g3, fun j x hx => by rw [e1, e2, e3]; exact g4 j x hx⟩
theorem GA.fr {M M' : Mem} {o : Nat} {acc : List Nat} (h : GA M o acc) (h8 : M' o 8 = M o 8) (h9 : M' o 9 = M o 9) (h6 : M' (o + 6) = M (o + 6)) : GA M' o acc := ⟨h8.trans h.1, fun i l hl => by rw [h6]; exact h.2.1 i l hl, h9.trans h.2.2⟩
theorem TKr.ok {M M' : Mem} {o m k : Nat} {r : Int32} {a : Acc} (h : TKr M M' o m k r (.inr a)) : r = 0 ∧ FRo o M M' ∧ ACC M' o m (some a) := h
theorem X2_merge_l {crs : RSF} {rs : Nat → List Nat → CU → Rs × CU} {s k m : Nat} {σ : Sc} {p : List Nat} (hs : okS s) (hw : WFs σ) (hk : k < 8) (hm : m < 5) (hp : p.length + 1 < 9) (hrs : IHr crs rs s σ (p ++ [k])) (os : List Nat) (hos6 : os.length ≤ 6) (hos : ∀ l ∈ os, l < 6 ∧ ∃ e, sEn σ (8 * l + k) = some e ∧ e.1 ≠ 4) (u : Nat) (hu : u ≤ os.length) :
    ∀ (rest : List Nat) (t : Nat) (M : Mem) (acc : Option Acc) (cu : CU) (fuel : Nat), rest.length < fuel → rest = (os.take u).drop t → t + rest.length = u → (rest = [] → acc ≠ none) → RS M s σ (p ++ [k]) cu → GA M (34 + 7 * p.length) os → ACC M (34 + 7 * p.length) m acc →
      ∃ r M', f_X2_merge_55 crs fuel M (nI k) (nI p.length) (nI m) (34 + 7 * p.length) (nI u) (nI t) = some (r, M') ∧
        match fldS rs σ k p m rest acc cu with
        | (.inl fs, cu') => FAIL M M' p r fs cu' ∧ KP M M'
        | (.inr (v, sr, d), cu') => r = 1 ∧ FRl p.length M M' ∧ OV M' (34 + 7 * p.length) v ∧ M' (34 + 7 * p.length) 11 = sr ∧ M' (34 + 7 * p.length) 12 = d ∧ GA M' (34 + 7 * p.length) os ∧ RS M' s σ (p ++ [k]) cu' := by
  intro rest
  induction rest with
  | nil =>
    intro t M acc cu fuel hf hr ht hne hR hG hA
    obtain ⟨fu, rfl⟩ : ∃ fu, fuel = fu + 1 := ⟨fuel - 1, by simp at hf; omega⟩
    simp at ht
    subst ht
    rw [f_X2_merge_55, if_pos (Int32.le_refl _)]
    rcases acc with _ | ⟨v, sr, d⟩
    · exact absurd rfl (hne rfl)
    · exact ⟨1, M, rfl, rfl, FRl.rf, hA.1, hA.2.1, hA.2.2.1, hG, hR⟩
  | cons l rest ih =>
    intro t M acc cu fuel hf hr ht hne hR hG hA
    obtain ⟨fu, rfl⟩ : ∃ fu, fuel = fu + 1 := ⟨fuel - 1, by simp at hf; omega⟩
    simp only [List.length_cons] at ht hf
    have hget : os[t]? = some l := by
      have h1 : ((os.take u).drop t)[0]? = some l := by rw [← hr]; rfl
      rw [List.getElem?_drop, Nat.add_zero, List.getElem?_take] at h1
      split at h1
      · exact h1
      · cases h1
    obtain ⟨hl, hent⟩ := hos l (List.mem_of_getElem? hget)
    rw [f_X2_merge_55, if_neg (nI_ge (by omega) (by omega)), X1_offerLayer hG hos6 hget, Option.bind_some]
    dsimp only
    obtain ⟨r1, M1, a1, a2, a3⟩ := X2_make hs hw hk hl hp hent hR hrs
    rw [a1, Option.bind_some]
    dsimp only
    simp only [fldS]
    rcases hx : mkS rs σ l k p cu with ⟨fs | ⟨v, dd⟩, cu'⟩
    · rw [hx] at a3
      rw [a3.1, if_neg (by decide)]
      refine ⟨0, M1, rfl, ?_⟩
      have := a3
      rw [a3.1] at this
      exact ⟨this, a2⟩
    · rw [hx] at a3
      obtain ⟨b1, b2, b3, b4, b5, b6⟩ := a3
      rw [b1, if_pos (by decide)]
      have hG1 : GA M1 (34 + 7 * p.length) os := hG.fr (by rw [b2 _ (by omega)]) (by rw [b2 _ (by omega)]) (b2 _ (by omega))
      have hA1 : ACC M1 (34 + 7 * p.length) m acc := hA.fr (fun i h1 h2 => b2 i (by omega))
      obtain ⟨r2, M2, c1, c2⟩ := X2_take (k := k) (dm := M1 (34 + 7 * (p.length + 1)) 12) hp hl hm hA1 b3 rfl b4
      rw [c1, Option.bind_some]
      dsimp only
      rw [← b5] at c2
      rcases hy : tkS m l k acc v dd with fs | a
      · rw [hy] at c2
        obtain ⟨d1, d2, d3⟩ := c2
        rw [if_neg d2]
        have hRS : RS M2 s σ (p ++ [k]) cu' := b6.fr hs (fun i hi => d3.1 i (by omega) (by omega) (by omega) (by omega))
        have hkp : KP M1 M2 := by
          by_cases h0 : p.length = 0
          · rw [h0] at d3
            exact ⟨d3.2.1, d3.2.2.1, d3.1 40 (by omega) (by omega) (by omega) (by omega)⟩
          · have e34 := d3.1 34 (by omega) (by omega) (by omega) (by omega)
            exact ⟨by rw [e34], by rw [e34], d3.1 40 (by omega) (by omega) (by omega) (by omega)⟩
        have hfr : FRr M M2 := b2.r.tr (fun i hi => d3.1 i (by omega) (by omega) (by omega) (by omega))
        obtain ⟨M3, f1, f2, f3⟩ := fail_at (code := r2) (M0 := M) hp hRS hfr (a2.tr hkp)
        rw [f1, Option.bind_some]
        refine ⟨0, M3, rfl, ?_⟩
        dsimp only
        rw [d1]
        exact ⟨f3, f2⟩
      · rw [hy] at c2
        obtain ⟨d1, d3, d2⟩ := TKr.ok c2
        rw [if_pos d1, nI_1]
        have hRS : RS M2 s σ (p ++ [k]) cu' := b6.fr hs (fun i hi => d3.1 i (by omega) (by omega) (by omega) (by omega))
        have hG2 : GA M2 (34 + 7 * p.length) os := hG1.fr d3.2.1 d3.2.2.1 (d3.1 _ (by omega) (by omega) (by omega) (by omega))
        have hfl : FRl p.length M M2 := (b2.dn (by omega)).tr (fun i hi => d3.1 i (by omega) (by omega) (by omega) (by omega))
        have hkp : KP M1 M2 := by
          by_cases h0 : p.length = 0
          · rw [h0] at d3
            exact ⟨d3.2.1, d3.2.2.1, d3.1 40 (by omega) (by omega) (by omega) (by omega)⟩
          · have e34 := d3.1 34 (by omega) (by omega) (by omega) (by omega)
            exact ⟨by rw [e34], by rw [e34], d3.1 40 (by omega) (by omega) (by omega) (by omega)⟩
        obtain ⟨r3, M3, g1, g2⟩ := ih (t + 1) M2 (some a) cu' fu (by omega) (by rw [← List.drop_drop, ← hr]; rfl) (by omega) (fun _ => by simp) hRS hG2 d2
        refine ⟨r3, M3, g1, ?_⟩
        dsimp only
        rcases hz : fldS rs σ k p m rest (some a) cu' with ⟨fs | ⟨v3, sr3, d3'⟩, cu3⟩
        · rw [hz] at g2
          obtain ⟨⟨i1, i2, i3, i4, i5⟩, i6⟩ := g2
          exact ⟨⟨i1, i2, i3, i4, hfl.r.tr i5⟩, (a2.tr hkp).tr i6⟩
        · rw [hz] at g2
          obtain ⟨i1, i2, i3⟩ := g2
          exact ⟨i1, hfl.tr i2, i3⟩
theorem X2_merge {crs : RSF} {rs : Nat → List Nat → CU → Rs × CU} {M : Mem} {s k : Nat} {σ : Sc} {p : List Nat} {cu : CU} (hs : okS s) (hw : WFs σ) (hk : k < 8) (hp : p.length + 1 < 9) (hrs : IHr crs rs s σ (p ++ [k])) (hne : offS σ k ≠ []) (hR : RS M s σ (p ++ [k]) cu) (hG : GA M (34 + 7 * p.length) (offS σ k)) (hA : ACC M (34 + 7 * p.length) (sMn σ k) none) :
    ∃ r M', f_X2_merge crs M (nI k) (nI p.length) = some (r, M') ∧
        match fldS rs σ k p (sMn σ k) (pick (sMn σ k) (offS σ k)) none cu with
        | (.inl fs, cu') => FAIL M M' p r fs cu' ∧ KP M M'
        | (.inr (v, sr, d), cu') => r = 1 ∧ FRl p.length M M' ∧ OV M' (34 + 7 * p.length) v ∧ M' (34 + 7 * p.length) 11 = sr ∧ M' (34 + 7 * p.length) 12 = d ∧ GA M' (34 + 7 * p.length) (offS σ k) ∧ RS M' s σ (p ++ [k]) cu' := by
  have hm := hw.2.1 k
  have h6 := offS_len σ k
  have hmem := offS_mem σ k
  have hman := hR.2.1.2.2.1 k hk
  unfold f_X2_merge
  rw [hR.1, rsc_eq hs, Option.bind_some, rd_nI hk (by decide), Option.bind_some, rdO_nI (by omega) (by decide), Option.bind_some, hman]
  generalize sMn σ k = m at *
  generalize offS σ k = os at *
  obtain ⟨-, -, -, t0, t1⟩ := man_t m hm
  simp only [t0]
  have hlen : 0 < os.length := by cases os; exact absurd rfl hne; simp
  unfold f_X2_merge_33
  simp only [t1]
  unfold pick
  by_cases m0 : m = 0
  · rw [if_neg (fun q => q m0), if_pos (by omega), if_pos m0, hG.1, nI_pred1 hlen]
    exact X2_merge_l hs hw hk hm hp hrs os h6 hmem os.length (Nat.le_refl _) _ (os.length - 1) M none cu 1000 (by simp; omega) (by rw [List.take_length]) (by rw [List.length_drop]; omega) (fun h => by simp at h; omega) hR hG hA
  · rw [if_pos m0, if_neg m0]
    by_cases m1 : m = 1
    · rw [if_neg (fun q => q m1), if_pos m1]
      exact X2_merge_l hs hw hk hm hp hrs os h6 hmem 1 (by omega) _ 0 M none cu 1000 (by simp; omega) rfl (by simp; omega) (fun h => by simp at h; exact absurd h hne) hR hG hA
    · rw [if_pos m1, if_neg m1, hG.1]
      exact X2_merge_l hs hw hk hm hp hrs os h6 hmem os.length (Nat.le_refl _) _ 0 M none cu 1000 (by omega) (by rw [List.take_length]; rfl) (by omega) (fun h => absurd h hne) hR hG hA
theorem t_clr2 {p : List Nat} {k : Nat} (hk : k < 8) (h : k ∉ p) : nI (pb (p ++ [k])) &&& (bitI k ^^^ (-1)) = nI (pb p) := by
  rw [pb_app hk]
  exact t_clr _ (pb_lt p) k hk (by rw [pb_tb hk]; simp [h])
theorem X2_resolve {s : Nat} {σ : Sc} (hs : okS s) (hw : WFs σ) : ∀ (n : Nat) (p : List Nat), n + p.length = 12 → (∀ x ∈ p, x < 8) → p.Nodup → ∀ (k : Nat) (cu : CU) (M : Mem), k < 8 → RS M s σ p cu →
    ∃ r M', f_X2_resolve n M (nI k) (nI p.length) = some (r, M') ∧ (p ≠ [] → KP M M') ∧ RRes M M' s σ p k r (resS σ n k p cu) ∧ (p = [] → cu.1 < 60 → (resS σ n k p cu).1.isLeft = true → GA M' 34 (offS σ k)) := by
  intro n
  induction n with
  | zero =>
    intro p hn hp8 hnd k cu M hk hR
    have : p.length ≤ 8 := nodup_le8 hp8 hnd
    omega
  | succ n ih =>
    intro p hn hp8 hnd k cu M hk hR
    have hlen : p.length ≤ 8 := nodup_le8 hp8 hnd
    have hos := okS_lt hs
    rw [f_X2_resolve]
    unfold f_X2_resolve_b
    simp only [resS]
    rw [if_pos (show nI p.length < 9 from nI_lt (b := 9) (by omega) (by decide)), wra_nI (by omega) (by decide), Option.bind_some, rdO_nI (by omega) (by decide), Option.bind_some]
    obtain ⟨Z, z1, z2, z3, z4, z5, z6, z7⟩ := X1_reset (M := wr M 32 p.length (nI k)) (o := 34 + 7 * p.length)
    rw [z1, Option.bind_some, wrf_eq, Option.bind_some, wrf_eq, Option.bind_some]
    obtain ⟨r1, r2, r3, r4, r5, r6, r7, r8⟩ := hR
    have z31 : Z 31 = M 31 := by rw [z2 31 (by omega), wr_ne (by decide)]
    have e3' : wr Z 31 1 (nI (cu.1 + 1)) 31 3 = nI cu.2 := by rw [wr_ap, if_neg (by decide), z31, r5]
    rw [z31, r3, nI_1, e3', t_or _ r8 k hk]
    generalize hB : wr (wr Z 31 1 (nI (cu.1 + 1))) 31 3 (nI (cu.2 ||| 2 ^ k)) = B
    have b0 : B 31 0 = nI s := by rw [← hB]; simp [wr_ap, z31, r1]
    have b1 : B 31 1 = nI (cu.1 + 1) := by rw [← hB]; simp [wr_ap]
    have b2 : B 31 2 = nI (pb p) := by rw [← hB]; simp [wr_ap, z31, r4]
    have b3 : B 31 3 = nI (cu.2 ||| 2 ^ k) := by rw [← hB]; simp [wr_ap]
    have br : ∀ i, i ≠ 31 → B i = Z i := fun i hi => by rw [← hB, wr_ne hi, wr_ne hi]
    have bM : ∀ i, i ≠ 31 → i ≠ 32 → i ≠ 34 + 7 * p.length → B i = M i := fun i h1 h2 h3 => by rw [br i h1, z2 i h3, wr_ne h2]
    have b32 : ∀ i, i < p.length → B 32 i = M 32 i := fun i hi => by rw [br 32 (by decide), z2 32 (by omega), wr_ap, if_neg (by omega)]
    have b32k : B 32 p.length = nI k := by rw [br 32 (by decide), z2 32 (by omega), wr_ap, if_pos ⟨rfl, rfl⟩]
    have hu : cu.2 ||| 2 ^ k < 256 := or_lt r8 hk
    have hpth : PTH B (p ++ [k]) := fun i x hx => by
      by_cases hi : i < p.length
      · rw [List.getElem?_append_left hi] at hx
        rw [b32 i hi]; exact r6 i x hx
      · rw [List.getElem?_append_right (by omega)] at hx
        have h0 : i - p.length = 0 := by
          have := (List.getElem?_eq_some_iff.mp hx).1
          simp at this
          omega
        have hi3 : i = p.length := by omega
        rw [h0] at hx
        simp at hx
        subst hx
        rw [hi3, b32k]
    have bfl : FRl p.length M B := fun i hi => bM i (by omega) (by omega) (by omega)
    have bG : GA B (34 + 7 * p.length) [] := by
      have := br (34 + 7 * p.length) (by omega)
      exact z5.fr (by rw [this]) (by rw [this]) (br _ (by omega))
    have bsc : SCr B s σ := r2.fr (fun i h1 h2 => bM i (by omega) (by omega) (by omega))
    -- a fault at once
    have failing : ∀ (code : Int32) (C : Mem), FRl p.length B C → C 31 = B 31 → PTH C (p ++ [k]) → ∃ r M', Option.bind (f_X2_fail C code (nI p.length)) (fun z => bret z.1 z.2) = some (r, M') ∧ (p ≠ [] → KP M M') ∧ FAIL M M' p r [(code, k)] (cu.1 + 1, cu.2 ||| 2 ^ k) ∧ (p = [] → M' 34 8 = C 34 8 ∧ M' 34 9 = C 34 9 ∧ M' 40 = C 40) := by
      intro code C hC hC31 hCp
      obtain ⟨M', e1, e2, e3, e4⟩ := X2_fail (code := code) (by omega) hCp
      refine ⟨0, M', by rw [e1]; rfl, fun hpn => ?_, ⟨rfl, e2, ?_, hu, ?_⟩, fun _ => ⟨e4 8 (by decide) (by decide), e4 9 (by decide) (by decide), e3 40 (by decide) (by decide) (by decide)⟩⟩
      · have hpl : 0 < p.length := by cases p; exact absurd rfl hpn; simp
        exact ((bfl.tr hC).kp hpl).tr ⟨e4 8 (by decide) (by decide), e4 9 (by decide) (by decide), e3 40 (by decide) (by decide) (by decide)⟩
      · rw [e3 31 (by decide) (by decide) (by decide), hC31]; exact b3
      · exact (bfl.tr hC).r.tr (fun i hi => e3 i (by omega) (by omega) (by omega))
    rw [b1]
    by_cases hc : 60 < cu.1 + 1
    · rw [if_neg (show ¬ nI (cu.1 + 1) ≤ 60 from nI_ge (b := cu.1 + 1) (a := 60) (by omega) (by omega)), if_pos hc]
      obtain ⟨r, M', e1, e2, e3, e4⟩ := failing 6 B FRl.rf rfl hpth
      refine ⟨r, M', e1, e2, e3, fun hp0 hlt _ => ?_⟩
      omega
    · rw [if_pos (show nI (cu.1 + 1) ≤ 60 from nI_le (b := 60) (by omega) (by omega)), if_neg hc, b2]
      by_cases hin : k ∈ p
      · rw [if_neg (by rw [t_and _ (pb_lt p) k hk, pb_tb hk]; simp [hin]), if_pos hin]
        obtain ⟨r, M', e1, e2, e3, e4⟩ := failing 2 B FRl.rf rfl hpth
        refine ⟨r, M', e1, e2, e3, fun hp0 _ _ => ?_⟩
        subst hp0
        simp at hin
      · rw [if_pos (by rw [t_and _ (pb_lt p) k hk, pb_tb hk]; simp [hin]), if_neg hin, Option.bind_some]
        obtain ⟨G, g1, g2, g3, g4⟩ := X2_gatherOffers (o := 34 + 7 * p.length) hs hw hk (by omega) (by omega) b0 bsc bG
        rw [g1, Option.bind_some, Option.bind_some, g2.1]
        have gfl : FRl p.length B G := fun i hi => g3 i (by omega) (by omega)
        have g31 : G 31 = B 31 := g3 31 (by omega) (by omega)
        have gpth : PTH G (p ++ [k]) := fun i x hx => by rw [g3 32 (by omega) (by omega)]; exact hpth i x hx
        have h6 := offS_len σ k
        by_cases hoe : offS σ k = []
        · rw [if_neg (by rw [hoe]; decide), if_pos hoe]
          obtain ⟨r, M', e1, e2, e3, e4⟩ := failing 1 G gfl g31 gpth
          refine ⟨r, M', e1, e2, e3, fun hp0 _ _ => ?_⟩
          subst hp0
          obtain ⟨q1, q2, q3⟩ := e4 rfl
          exact g2.fr q1 q2 q3
        · have hl0 : (offS σ k).length ≠ 0 := fun q => hoe (List.length_eq_zero_iff.mp q)
          rw [if_pos (by rw [len_t _ (by omega)]; exact hl0), if_neg hoe, wrf_eq, Option.bind_some, g31, b2, t_or _ (pb_lt p) k hk, ← pb_app hk]
          have hplt : p.length < 8 := by
            have := nodup_le8 (p := p ++ [k]) (fun x hx => by
              rcases List.mem_append.mp hx with h | h
              · exact hp8 x h
              · rw [List.mem_singleton.mp h]; exact hk) (nodup_snoc hnd hin)
            simp at this
            omega
          have hnd' : (p ++ [k]).Nodup := nodup_snoc hnd hin
          have hp8' : ∀ x ∈ p ++ [k], x < 8 := fun x hx => by
            rcases List.mem_append.mp hx with h | h
            · exact hp8 x h
            · rw [List.mem_singleton.mp h]; exact hk
          generalize hH : wr G 31 2 (nI (pb (p ++ [k]))) = H
          have hr : ∀ i, i ≠ 31 → H i = G i := fun i hi => by rw [← hH, wr_ne hi]
          have hRS : RS H s σ (p ++ [k]) (cu.1 + 1, cu.2 ||| 2 ^ k) := by
            refine ⟨?_, bsc.fr (fun i h1 h2 => ?_), ?_, ?_, ?_, fun i x hx => ?_, by simp only; omega, hu⟩
            · rw [← hH]; simp [wr_ap, g31, b0]
            · rw [hr i (by omega), g3 i (by omega) (by omega)]
            · rw [← hH]; simp [wr_ap, g31, b1]
            · rw [← hH]; simp [wr_ap]
            · rw [← hH]; simp [wr_ap, g31, b3]
            · rw [hr 32 (by decide)]; exact gpth i x hx
          have ho := hr (34 + 7 * p.length) (by omega)
          have hG : GA H (34 + 7 * p.length) (offS σ k) := g2.fr (by rw [ho]) (by rw [ho]) (hr _ (by omega))
          have hA : ACC H (34 + 7 * p.length) (sMn σ k) none := by
            unfold ACC
            rw [ho, g4 0 (by decide) (by decide), g4 1 (by decide) (by decide), g4 11 (by decide) (by decide), g4 12 (by decide) (by decide), br _ (by omega)]
            exact ⟨z3, z4, z6, z7⟩
          have hih : IHr (f_X2_resolve n) (resS σ n) s σ (p ++ [k]) := fun o cu2 M2 ho2 hR2 => by
            obtain ⟨r, M', e1, e2, e3, e4⟩ := ih (p ++ [k]) (by simp; omega) hp8' hnd' o cu2 M2 ho2 hR2
            exact ⟨r, M', e1, e2 (by simp), e3⟩
          obtain ⟨r, M', e1, e2⟩ := X2_merge hs hw hk (by omega) hih hoe hRS hG hA
          have hHf : FRl p.length M H := (bfl.tr gfl).tr (fun i hi => hr i (by omega))
          rw [e1, Option.bind_some, wrf_eq, Option.bind_some]
          dsimp only
          rcases hx : fldS (resS σ n) σ k p (sMn σ k) (pick (sMn σ k) (offS σ k)) none (cu.1 + 1, cu.2 ||| 2 ^ k) with ⟨fs | ⟨v, sr, d⟩, cu'⟩
          · rw [hx] at e2
            obtain ⟨⟨q1, q2, q3, q4, q5⟩, q6⟩ := e2
            rw [q1, bret_0]
            have w : ∀ i, i ≠ 31 → wr M' 31 2 (M' 31 2 &&& (bitI k ^^^ (-1))) i = M' i := fun i hi => wr_ne hi
            refine ⟨0, _, rfl, fun hpn => ?_, ⟨rfl, ?_, ?_, q4, ?_⟩, fun hp0 _ _ => ?_⟩
            · have hpl : 0 < p.length := by cases p; exact absurd rfl hpn; simp
              exact ((hHf.kp hpl).tr q6).tr ⟨by rw [w 34 (by decide)], by rw [w 34 (by decide)], w 40 (by decide)⟩
            · unfold FLT at *
              rw [w 34 (by decide), w 38 (by decide), w 39 (by decide)]
              exact q2
            · rw [wr_ap, if_neg (by decide)]; exact q3
            · exact (hHf.r.tr q5).tr (fun i hi => w i (by omega))
            · subst hp0
              exact (hG.fr q6.1 q6.2.1 q6.2.2).fr (by rw [w _ (by decide)]) (by rw [w _ (by decide)]) (w _ (by decide))
          · rw [hx] at e2
            obtain ⟨q1, q2, q3, q4, q5, q6, q7⟩ := e2
            rw [q1, bret_1]
            have w : ∀ i, i ≠ 31 → wr M' 31 2 (M' 31 2 &&& (bitI k ^^^ (-1))) i = M' i := fun i hi => wr_ne hi
            have hfl : FRl p.length M (wr M' 31 2 (M' 31 2 &&& (bitI k ^^^ (-1)))) := (hHf.tr q2).tr (fun i hi => w i (by omega))
            have wo := w (34 + 7 * p.length) (by omega)
            refine ⟨1, _, rfl, fun hpn => hfl.kp (by cases p; exact absurd rfl hpn; simp), ⟨rfl, hfl, ?_, ?_, ?_, ?_, ?_⟩, fun _ _ hl => by simp at hl⟩
            · match v, q3 with
              | .inl x, q3 => unfold OV at *; rw [wo]; exact q3
              | .inr is, ⟨y1, y2, y3, y4⟩ => exact ⟨by rw [wo]; exact y1, by rw [wo]; exact y2, y3, fun j x hx => by rw [w _ (by omega), w _ (by omega), w _ (by omega)]; exact y4 j x hx⟩
            · rw [wo]; exact q4
            · rw [wo]; exact q5
            · exact q6.fr (by rw [wo]) (by rw [wo]) (w _ (by omega))
            · obtain ⟨x1, x2, x3, x4, x5, x6, x7, x8⟩ := q7
              refine ⟨?_, x2.fr (fun i h1 h2 => w i (by omega)), ?_, ?_, ?_, fun i x hx => ?_, x7, x8⟩
              · rw [wr_ap, if_neg (by decide)]; exact x1
              · rw [wr_ap, if_neg (by decide)]; exact x3
              · rw [wr_ap, if_pos ⟨rfl, rfl⟩, x4]; exact t_clr2 hk hin
              · rw [wr_ap, if_neg (by decide)]; exact x5
              · rw [w 32 (by decide)]; exact x6.pre i x hx
