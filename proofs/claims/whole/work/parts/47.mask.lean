theorem X8_takes0_l {crs : RSF} {M : Mem} {k d : Nat} {σ : Sc} (hw : WFs σ) (h : SMr (M 164) σ) (hk : k < 8) :
    ∀ (rest : List Nat) (i : Nat) (l5 l6 : Int32) (fuel : Nat), rest.length < fuel → (ordS σ).reverse.drop i = rest → i + rest.length = 6 →
      f_X8_takes_21 crs fuel M (nI k) (nI d) (nI (bitsN (offS σ k))) 0 l5 l6 (nI i) = f_X8_takes_290 crs M (nI k) (nI d) 0 (((rest.filter (fun x => decide (x ∈ offS σ k))).getLast?.map nI).getD l6) := by
  have hb : bitsN (offS σ k) < 256 := bitsN_lt _ (fun l hl => by have := (offS_mem σ k l hl).1; omega)
  intro rest
  induction rest with
  | nil =>
    intro i l5 l6 fuel hf hd hi
    obtain ⟨fu, rfl⟩ : ∃ fu, fuel = fu + 1 := ⟨fuel - 1, by simp at hf; omega⟩
    simp at hi
    subst hi
    rw [f_X8_takes_21, if_pos (by decide)]
    rfl
  | cons l rest ih =>
    intro i l5 l6 fuel hf hd hi
    obtain ⟨fu, rfl⟩ : ∃ fu, fuel = fu + 1 := ⟨fuel - 1, by simp at hf; omega⟩
    simp only [List.length_cons] at hf hi
    have hget : (ordS σ).reverse[i]? = some l := by
      have : ((ordS σ).reverse.drop i)[0]? = some l := by rw [hd]; rfl
      rw [List.getElem?_drop] at this
      simpa using this
    have hl : l < 6 := (ordS_mem σ l).mp (List.mem_reverse.mp (List.mem_of_getElem? hget))
    have hd2 : (ordS σ).reverse.drop (i + 1) = rest := by rw [← List.drop_drop, hd]; rfl
    rw [f_X8_takes_21, if_neg (show ¬ (6 : Int32) ≤ nI i from nI_ge (b := 6) (by omega) (by decide)), X8_ordered hw h hget, Option.bind_some]
    dsimp only
    have hbit := t_shr _ hb l (by omega)
    rw [bitsN_tb] at hbit
    by_cases hin : l ∈ offS σ k
    · rw [if_pos (by rw [hbit]; simp [hin]), if_neg (fun q => q rfl), nI_1, ih (i + 1) l5 (nI l) fu (by omega) hd2 (by omega)]
      have hfil : (l :: rest).filter (fun x => decide (x ∈ offS σ k)) = l :: rest.filter (fun x => decide (x ∈ offS σ k)) := List.filter_cons_of_pos (by simp [hin])
      rw [hfil]
      rcases rest.filter (fun x => decide (x ∈ offS σ k)) with _ | ⟨y, ys⟩
      · rfl
      · rw [List.getLast?_cons_cons]
        rcases hg : (y :: ys).getLast? with _ | z
        · simp at hg
        · rfl
    · rw [if_neg (by rw [hbit]; simp [hin]), nI_1, ih (i + 1) l5 l6 fu (by omega) hd2 (by omega)]
      have hfil : (l :: rest).filter (fun x => decide (x ∈ offS σ k)) = rest.filter (fun x => decide (x ∈ offS σ k)) := List.filter_cons_of_neg (by simp [hin])
      rw [hfil]
theorem X8_takes {crs : RSF} {rs : Nat → List Nat → CU → Rs × CU} {M : Mem} {k : Nat} {σ : Sc} {p : List Nat} {cu : CU} (hw : WFs σ) (hk : k < 8) (hp : p.length + 1 < 9) (hne : offS σ k ≠ []) (hM : MS M σ (p ++ [k]) cu) (hrs : IHm crs rs σ (p ++ [k])) :
    TR M σ p k (f_X8_takes crs M (nI k) (nI p.length) (nI (bitsN (offS σ k)))) (fldS rs σ k p (sMn σ k) (pick (sMn σ k) (offS σ k)) none cu) := by
  have hm := hw.2.1 k
  obtain ⟨t2, t3, t4, t0, t1⟩ := man_t _ hm
  unfold f_X8_takes
  rw [show (20 : Int32) = nI 20 from rfl, nI_add, rd_nI (by omega) (by decide), Option.bind_some, hM.1.2.1 k hk]
  have hfilt := offS_filt σ k
  by_cases m0 : sMn σ k = 0
  · have := X8_takes0_l (crs := crs) (d := p.length) hw hM.1 hk (ordS σ).reverse 0 1 (-9) 1000 (by simp [ordS_len]) rfl (by simp [ordS_len])
    rw [m0]
    have e0 : f_X8_takes_21 crs 1000 M (nI k) (nI p.length) (nI (bitsN (offS σ k))) (nI 0) 1 (-9) 0 = _ := this
    rw [e0, hfilt]
    unfold pick
    rw [if_pos rfl]
    obtain ⟨l, hl⟩ : ∃ l, (offS σ k).getLast? = some l := by
      rcases hg : (offS σ k).getLast? with _ | z
      · exact absurd (List.getLast?_eq_none_iff.mp hg) hne
      · exact ⟨z, rfl⟩
    have hdrop : (offS σ k).drop ((offS σ k).length - 1) = [l] := by
      obtain ⟨ys, hys⟩ := List.getLast?_eq_some_iff.mp hl
      rw [hys]
      simp
    rw [hdrop, hl]
    show TR M σ p k (f_X8_takes_290 crs M (nI k) (nI p.length) 0 (nI l)) _
    unfold f_X8_takes_290
    rw [if_pos rfl]
    have hmem : l ∈ offS σ k := List.mem_of_getLast? hl
    obtain ⟨hl6, hent⟩ := offS_mem σ k l hmem
    obtain ⟨r1, M1, a1, a2⟩ := X8_makes hw hk hl6 hp hent hM hrs
    rw [a1, Option.bind_some]
    dsimp only
    simp only [fldS]
    rcases hx : mkS rs σ l k p cu with ⟨fs | ⟨v, dd⟩, cu'⟩
    · rw [hx] at a2
      rw [a2.1, if_neg (by decide)]
      have := a2
      rw [a2.1] at this
      exact ⟨0, M1, rfl, this⟩
    · rw [hx] at a2
      obtain ⟨b1, b2, b3, b4, b5⟩ := a2
      rw [b1, if_pos (by decide)]
      obtain ⟨M2, c1, c2, c3, c4, c5⟩ := X8_is (l := l) (d := p.length) (by omega) b3
      rw [c1, Option.bind_some]
      have ht : tkS 0 l k none v dd = .inr (v, bitI l, dd) := rfl
      dsimp only
      rw [ht]
      exact ⟨1, M2, rfl, rfl, (b2.dn (by omega)).tr c2.m, c3, c4, by rw [c5, b4], b5.frd c2⟩
  · have := X8_takes_l (crs := crs) (rs := rs) (k := k) (p := p) hw hk hm m0 hp hrs (ordS σ).reverse 0 M none cu 1000 (-9) (by simp [ordS_len]) rfl (by simp [ordS_len]) (fun h => by rw [hfilt] at h; exact absurd h hne) (fun _ => rfl) hM trivial
    rw [hfilt] at this
    have hpk : pick (sMn σ k) (offS σ k) = tk1 (sMn σ k) (offS σ k) := by unfold pick tk1; rw [if_neg m0]
    rw [hpk]
    exact this
theorem bitsN_0 {acc : List Nat} (h : ∀ l ∈ acc, l < 8) : nI (bitsN acc) = 0 ↔ acc = [] := by
  constructor
  · intro h0
    have hlt := bitsN_lt acc h
    have h1 : bitsN acc = 0 := (nI_eq (b := 0) (by omega) (by decide)).mp h0
    cases acc with
    | nil => rfl
    | cons x xs =>
      have := bitsN_tb (x :: xs) x
      rw [h1] at this
      simp at this
  · rintro rfl; rfl
theorem X8_resolves_ {σ : Sc} (hw : WFs σ) : ∀ (n : Nat) (p : List Nat), n + p.length = 12 → (∀ x ∈ p, x < 8) → p.Nodup → IHm (f_X8_resolves_ n) (resS σ n) σ p := by
  intro n
  induction n with
  | zero =>
    intro p hn hp8 hnd k cu M hk hM
    have : p.length ≤ 8 := nodup_le8 hp8 hnd
    omega
  | succ n ih =>
    intro p hn hp8 hnd k cu M hk hM
    have hlen : p.length ≤ 8 := nodup_le8 hp8 hnd
    rw [f_X8_resolves_]
    unfold f_X8_resolves__b
    simp only [resS]
    obtain ⟨m1, m2, m3, m4, m5, m6, m7⟩ := hM
    rw [wrf_eq, Option.bind_some, wrf_eq, Option.bind_some]
    have e26 : wr M 163 25 (M 163 25 + 1) 163 26 = nI cu.2 := by rw [wr_ap, if_neg (by decide), m4]
    rw [e26, m3, nI_1, t_or _ m7 k hk]
    generalize hB : wr (wr M 163 25 (nI (cu.1 + 1))) 163 26 (nI (cu.2 ||| 2 ^ k)) = B
    have b25 : B 163 25 = nI (cu.1 + 1) := by rw [← hB]; simp [wr_ap]
    have b26 : B 163 26 = nI (cu.2 ||| 2 ^ k) := by rw [← hB]; simp [wr_ap]
    have b24 : B 163 24 = 0 := by rw [← hB]; simp [wr_ap, m2]
    have br : ∀ i, i ≠ 163 → B i = M i := fun i hi => by rw [← hB, wr_ne hi, wr_ne hi]
    have bfr : ∀ d, FRm d M B := fun d => ⟨fun i hi => br i (by omega), fun j h1 h2 h3 => by rw [← hB]; simp [wr_ap, h2, h3], fun i j _ _ _ => by rw [br i (by omega)], fun i j _ _ _ => by rw [br i (by omega)]⟩
    have hu : cu.2 ||| 2 ^ k < 256 := or_lt m7 hk
    have failing : ∀ (code : Int32), ∃ r M', Option.bind (f_X8_fails B code (nI k)) (fun z => bret z.1 z.2) = some (r, M') ∧ MFl M M' p r [(code, k)] (cu.1 + 1, cu.2 ||| 2 ^ k) := by
      intro code
      obtain ⟨M', a1, a2, a3, a4⟩ := X8_fails (code := code) (k := k) (fs := []) (M := B) ⟨b24, fun i f hf => by simp at hf⟩ (by decide)
      rw [a1]
      refine ⟨0, M', rfl, rfl, (bfr 0).tr ⟨fun i hi => a3 i (by omega) (by omega) (by omega), fun j h1 _ _ => a4 j h1, fun i j _ _ _ => by rw [a3 i (by omega) (by omega) (by omega)], fun i j _ _ _ => by rw [a3 i (by omega) (by omega) (by omega)]⟩, a2, by simp; omega, by rw [a4 26 (by decide)]; exact b26, hu⟩
    rw [b25]
    by_cases hc : 60 < cu.1 + 1
    · rw [if_neg (show ¬ nI (cu.1 + 1) < 61 from nI_nlt (b := 61) (by omega) (by omega)), if_pos hc]
      exact failing 6
    · rw [if_pos (show nI (cu.1 + 1) < 61 from nI_lt (b := 61) (by omega) (by decide)), if_neg hc, rd_nI hk (by decide), Option.bind_some, br 179 (by decide), m5 k hk]
      by_cases hin : k ∈ p
      · rw [if_pos hin, if_pos hin, if_neg (by decide)]
        exact failing 2
      · rw [if_neg hin, if_neg hin, if_pos rfl, X8_offers hw (by rw [br 164 (by decide)]; exact m1) hk, Option.bind_some]
        dsimp only
        have h8 : ∀ l ∈ offS σ k, l < 8 := fun l hl => by have := (offS_mem σ k l hl).1; omega
        by_cases hoe : offS σ k = []
        · rw [if_neg (fun q => q ((bitsN_0 h8).mpr hoe)), if_pos hoe]
          exact failing 1
        · rw [if_pos (fun q => hoe ((bitsN_0 h8).mp q)), if_neg hoe, wrb_nI hk (by decide) (Or.inr rfl), Option.bind_some]
          have hnd' : (p ++ [k]).Nodup := nodup_snoc hnd hin
          have hp8' : ∀ x ∈ p ++ [k], x < 8 := fun x hx => by
            rcases List.mem_append.mp hx with h | h
            · exact hp8 x h
            · rw [List.mem_singleton.mp h]; exact hk
          have hplt : p.length < 8 := by
            have := nodup_le8 hp8' hnd'
            simp at this
            omega
          have hcr : ∀ i, i ≠ 179 → wr B 179 k 1 i = B i := fun i hi => wr_ne hi
          have hMS : MS (wr B 179 k 1) σ (p ++ [k]) (cu.1 + 1, cu.2 ||| 2 ^ k) := by
            refine ⟨by rw [hcr 164 (by decide), br 164 (by decide)]; exact m1, by rw [hcr 163 (by decide)]; exact b24, by rw [hcr 163 (by decide)]; exact b25, by rw [hcr 163 (by decide)]; exact b26, fun j hj => ?_, by simp only; omega, hu⟩
            rw [wr_ap, br 179 (by decide), m5 j hj]
            by_cases hjk : j = k
            · subst hjk; simp
            · simp [hjk]
          have htk := X8_takes (M := wr B 179 k 1) hw hk (by omega) hoe hMS (ih (p ++ [k]) (by simp; omega) hp8' hnd')
          have hfr : ∀ d, FRm d M (wr B 179 k 1) := fun d => (bfr d).tr ⟨fun i hi => hcr i (by omega), fun j _ _ _ => by rw [hcr 163 (by decide)], fun i j _ _ _ => by rw [hcr i (by omega)], fun i j _ _ _ => by rw [hcr i (by omega)]⟩
          obtain ⟨r, M', e1, e2⟩ := htk.tr (hfr p.length)
          rw [e1, Option.bind_some]
          dsimp only
          rw [wrb_nI hk (by decide) (Or.inl rfl), Option.bind_some]
          have w : ∀ i, i ≠ 179 → wr M' 179 k 0 i = M' i := fun i hi => wr_ne hi
          have wfr : ∀ d, FRm d M' (wr M' 179 k 0) := fun d => ⟨fun i hi => w i (by omega), fun j _ _ _ => by rw [w 163 (by decide)], fun i j _ _ _ => by rw [w i (by omega)], fun i j _ _ _ => by rw [w i (by omega)]⟩
          rcases hx : fldS (resS σ n) σ k p (sMn σ k) (pick (sMn σ k) (offS σ k)) none (cu.1 + 1, cu.2 ||| 2 ^ k) with ⟨fs | ⟨v, sr, d⟩, cu'⟩
          · rw [hx] at e2
            obtain ⟨q1, q2, q3, q4, q5, q6⟩ := e2
            rw [q1, bret_0]
            refine ⟨0, _, rfl, rfl, q2.tr (wfr 0), ?_, q4, by rw [w 163 (by decide)]; exact q5, q6⟩
            unfold FLm at *
            rw [w 163 (by decide), w 180 (by decide), w 181 (by decide)]
            exact q3
          · rw [hx] at e2
            obtain ⟨q1, q2, q3, q4, q5, x1, x2, x3, x4, x5, x6, x7⟩ := e2
            rw [q1, bret_1]
            refine ⟨1, _, rfl, rfl, q2.tr (wfr p.length), q3.fr (w 171 (by decide)) (by rw [w 172 (by decide)]) (w 173 (by decide)) (fun a _ _ => w a (by omega)), by rw [w 174 (by decide)]; exact q4, by rw [w 175 (by decide)]; exact q5, by rw [w 164 (by decide)]; exact x1, by rw [w 163 (by decide)]; exact x2, by rw [w 163 (by decide)]; exact x3, by rw [w 163 (by decide)]; exact x4, fun j hj => ?_, x6, x7⟩
            rw [wr_ap]
            by_cases hjk : j = k
            · subst hjk; simp [hin]
            · have := x5 j hj
              simp [hjk] at this ⊢
              exact this
/-- what resolving in the reference leaves -/
def MOT (M : Mem) (σ : Sc) (k : Nat) (r : Int32) : Prop := (match (askS σ k).1 with
  | .inl fs => r = 0 ∧ FLm M fs ∧ fs.length ≤ 9
  | .inr (v, s, d) => r = 1 ∧ MV M 0 v ∧ M 174 0 = s ∧ M 175 0 = d) ∧ M 163 26 = nI (askS σ k).2.2 ∧ (askS σ k).2.2 < 256
theorem X8_res17 {k : Nat} : ∀ (m i : Nat) (M : Mem) (fuel : Nat), i + m = 8 → m < fuel → ∃ B, f_X8_resolves_17 fuel M (nI k) (nI i) = Option.bind (f_X8_resolves_ 12 B (nI k) 0) (fun z2 => bret z2.1 z2.2) ∧ (∀ a, a ≠ 179 → B a = M a) ∧ (∀ j, j < i → B 179 j = M 179 j) ∧ ∀ j, i ≤ j → j < 8 → B 179 j = 0 := by
  intro m
  induction m with
  | zero =>
    intro i M fuel him hf
    obtain ⟨fu, rfl⟩ : ∃ fu, fuel = fu + 1 := ⟨fuel - 1, by omega⟩
    rw [f_X8_resolves_17, if_pos (show (8 : Int32) ≤ nI i from nI_le (a := 8) (by omega) (by omega))]
    exact ⟨M, rfl, fun _ _ => rfl, fun _ _ => rfl, fun j _ _ => by omega⟩
  | succ m ih =>
    intro i M fuel him hf
    obtain ⟨fu, rfl⟩ : ∃ fu, fuel = fu + 1 := ⟨fuel - 1, by omega⟩
    rw [f_X8_resolves_17, if_neg (show ¬ (8 : Int32) ≤ nI i from nI_ge (b := 8) (by omega) (by decide)), wrb_nI (by omega) (by decide) (Or.inl rfl), Option.bind_some, nI_1]
    obtain ⟨B, e1, e2, e3, e4⟩ := ih (i + 1) (wr M 179 i 0) fu (by omega) (by omega)
    refine ⟨B, e1, fun a ha => (e2 a ha).trans (wr_ne ha), fun j hj => ?_, fun j h1 h2 => ?_⟩
    · rw [e3 j (by omega), wr_ap, if_neg (by omega)]
    · by_cases hj : j = i
      · subst hj; rw [e3 j (by omega), wr_ap, if_pos ⟨rfl, rfl⟩]
      · exact e4 j (by omega) h2
theorem X8_resolves {M : Mem} {σ : Sc} {k : Nat} (hw : WFs σ) (hk : k < 8) (h : SMr (M 164) σ) : ∃ r M', f_X8_resolves M (nI k) = some (r, M') ∧ FRm 0 M M' ∧ MOT M' σ k r := by
  unfold f_X8_resolves
  rw [wrf_eq, Option.bind_some, wrf_eq, Option.bind_some, wrf_eq, Option.bind_some]
  generalize hA : wr (wr (wr M 163 24 0) 163 25 0) 163 26 0 = A
  have ar : ∀ i, i ≠ 163 → A i = M i := fun i hi => by rw [← hA, wr_ne hi, wr_ne hi, wr_ne hi]
  obtain ⟨B, e1, e2, e3, e4⟩ := X8_res17 (k := k) 8 0 A 1000 rfl (by decide)
  have e1' : f_X8_resolves_17 1000 A (nI k) 0 = _ := e1
  rw [e1']
  have hMS : MS B σ [] (0, 0) := by
    refine ⟨by rw [e2 164 (by decide), ar 164 (by decide)]; exact h, ?_, ?_, ?_, fun j hj => by rw [e4 j (Nat.zero_le _) hj]; simp, by decide, by decide⟩
    · rw [e2 163 (by decide), ← hA]; simp [wr_ap]
    · rw [e2 163 (by decide), ← hA]; simp [wr_ap]; rfl
    · rw [e2 163 (by decide), ← hA]; simp [wr_ap]; rfl
  have hfr : FRm 0 M B := ⟨fun i hi => by rw [e2 i (by omega), ar i (by omega)], fun j h1 h2 h3 => by rw [e2 163 (by decide), ← hA]; simp [wr_ap, h1, h2, h3], fun i j _ _ _ => by omega, fun i j _ _ _ => by omega⟩
  obtain ⟨r, M', f1, f2⟩ := X8_resolves_ hw 12 [] rfl (fun x hx => by simp at hx) List.nodup_nil k (0, 0) B hk hMS
  have f1' : f_X8_resolves_ 12 B (nI k) 0 = some (r, M') := f1
  rw [f1', Option.bind_some]
  dsimp only
  have hask : askS σ k = resS σ 12 k [] (0, 0) := rfl
  unfold MOT
  rw [hask]
  rcases hx : resS σ 12 k [] (0, 0) with ⟨fs | ⟨v, sr, d⟩, cu'⟩
  · rw [hx] at f2
    obtain ⟨q1, q2, q3, q4, q5, q6⟩ := f2
    rw [q1, bret_0]
    exact ⟨0, M', rfl, hfr.tr q2, ⟨rfl, q3, by simpa using q4⟩, q5, q6⟩
  · rw [hx] at f2
    obtain ⟨q1, q2, q3, q4, q5, q6⟩ := f2
    rw [q1, bret_1]
    exact ⟨1, M', rfl, hfr.tr q2, ⟨rfl, q3, q4, q5⟩, q6.2.2.2.1, q6.2.2.2.2.2.2⟩
