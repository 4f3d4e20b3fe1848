def ACCm (M : Mem) (d m : Nat) : Option Acc → Prop
  | none => True
  | some (v, s, dp) => MV M d v ∧ M 174 d = s ∧ M 175 d = dp ∧ ((m = 2 ∨ m = 3) → ∃ n, v = .inl n) ∧ (m = 4 → ∃ is, v = .inr is)
def TR (M : Mem) (σ : Sc) (p : List Nat) (k : Nat) (X : Option (Int32 × Mem)) (res : Rs × CU) : Prop := ∃ r M', X = some (r, M') ∧ match res with
  | (.inl fs, cu') => MFl M M' p r fs cu'
  | (.inr (v, sr, dp), cu') => r = 1 ∧ FRm p.length M M' ∧ MV M' p.length v ∧ M' 174 p.length = sr ∧ M' 175 p.length = dp ∧ MS M' σ (p ++ [k]) cu'
theorem TR.tr {M M2 : Mem} {σ : Sc} {p : List Nat} {k : Nat} {X : Option (Int32 × Mem)} {res : Rs × CU} (h : FRm p.length M M2) (g : TR M2 σ p k X res) : TR M σ p k X res := by
  obtain ⟨r, M', e1, e2⟩ := g
  refine ⟨r, M', e1, ?_⟩
  rcases res with ⟨fs | ⟨v, sr, dp⟩, cu'⟩
  · obtain ⟨a, b, c⟩ := e2
    exact ⟨a, (h.dn (Nat.zero_le _)).tr b, c⟩
  · obtain ⟨a, b, c⟩ := e2
    exact ⟨a, h.tr b, c⟩
def tk1 (m : Nat) (qs : List Nat) : List Nat := if m = 1 then qs.take 1 else qs
theorem ACCm.fr {M M' : Mem} {d m : Nat} {a : Option Acc} (h : ACCm M d m a) (hf : FRm (d + 1) M M') : ACCm M' d m a := by
  have e1 := fun i h1 h2 => hf.2.2.1 i d h1 h2 (by omega)
  have e2 := fun i j h1 h2 h3 => hf.2.2.2 i j h1 h2 h3
  match a, h with
  | none, _ => trivial
  | some (v, s, dp), ⟨h1, h2, h3, h4⟩ =>
    refine ⟨?_, by rw [e1 174 (by decide) (by decide)]; exact h2, by rw [e1 175 (by decide) (by decide)]; exact h3, h4⟩
    match v, h1 with
    | .inl n, ⟨a, b⟩ => exact ⟨by rw [e1 171 (by decide) (by decide)]; exact a, by rw [e1 172 (by decide) (by decide)]; exact b⟩
    | .inr is, ⟨a, b, c, e⟩ =>
      refine ⟨by rw [e1 171 (by decide) (by decide)]; exact a, by rw [e1 173 (by decide) (by decide)]; exact b, c, fun j x hx => ?_⟩
      have hj := (List.getElem?_eq_some_iff.mp hx).1
      rw [e2 176 _ (by decide) (by decide) (by omega), e2 177 _ (by decide) (by decide) (by omega), e2 178 _ (by decide) (by decide) (by omega)]
      exact e j x hx
theorem X8_takes_l {crs : RSF} {rs : Nat → List Nat → CU → Rs × CU} {k m : Nat} {σ : Sc} {p : List Nat} (hw : WFs σ) (hk : k < 8) (hm : m < 5) (hm0 : m ≠ 0) (hp : p.length + 1 < 9) (hrs : IHm crs rs σ (p ++ [k])) :
    ∀ (rest : List Nat) (i : Nat) (M : Mem) (acc : Option Acc) (cu : CU) (fuel : Nat) (l6 : Int32), rest.length < fuel → (ordS σ).reverse.drop i = rest → i + rest.length = 6 → (rest.filter (fun x => decide (x ∈ offS σ k)) = [] → acc ≠ none) → (m = 1 → acc = none) → MS M σ (p ++ [k]) cu → ACCm M p.length m acc →
      TR M σ p k (f_X8_takes_21 crs fuel M (nI k) (nI p.length) (nI (bitsN (offS σ k))) (nI m) (if acc.isNone = true then 1 else 0) l6 (nI i)) (fldS rs σ k p m (tk1 m (rest.filter (fun x => decide (x ∈ offS σ k)))) acc cu) := by
  obtain ⟨t2, t3, t4, t0, t1⟩ := man_t m hm
  have hb : bitsN (offS σ k) < 256 := bitsN_lt _ (fun l hl => by have := (offS_mem σ k l hl).1; omega)
  intro rest
  induction rest with
  | nil =>
    intro i M acc cu fuel l6 hf hd hi hne h1 hM hA
    obtain ⟨fu, rfl⟩ : ∃ fu, fuel = fu + 1 := ⟨fuel - 1, by simp at hf; omega⟩
    simp at hi
    subst hi
    rw [f_X8_takes_21, if_pos (by decide)]
    unfold f_X8_takes_290
    rw [if_neg (by rw [t0]; exact hm0)]
    rcases acc with _ | ⟨v, sr, dp⟩
    · exact absurd rfl (hne rfl)
    · have ht : tk1 m (List.filter (fun x => decide (x ∈ offS σ k)) []) = [] := by unfold tk1; split <;> rfl
      rw [ht]
      exact ⟨1, M, rfl, rfl, FRm.rf, hA.1, hA.2.1, hA.2.2.1, hM⟩
  | cons l rest ih =>
    intro i M acc cu fuel l6 hf hd hi hne h1 hM hA
    obtain ⟨fu, rfl⟩ : ∃ fu, fuel = fu + 1 := ⟨fuel - 1, by simp at hf; omega⟩
    simp only [List.length_cons] at hf hi
    have hget : (ordS σ).reverse[i]? = some l := by
      have : ((ordS σ).reverse.drop i)[0]? = some l := by rw [hd]; rfl
      rw [List.getElem?_drop] at this
      simpa using this
    have hl : l < 6 := (ordS_mem σ l).mp (List.mem_reverse.mp (List.mem_of_getElem? hget))
    have hd2 : (ordS σ).reverse.drop (i + 1) = rest := by rw [← List.drop_drop, hd]; rfl
    rw [f_X8_takes_21, if_neg (show ¬ (6 : Int32) ≤ nI i from nI_ge (b := 6) (by omega) (by decide)), X8_ordered hw hM.1 hget, Option.bind_some]
    dsimp only
    have hbit := t_shr _ hb l (by omega)
    rw [bitsN_tb] at hbit
    by_cases hin : l ∈ offS σ k
    · rw [if_pos (by rw [hbit]; simp [hin]), if_pos (by rw [t0]; exact hm0)]
      have hfil : (l :: rest).filter (fun x => decide (x ∈ offS σ k)) = l :: rest.filter (fun x => decide (x ∈ offS σ k)) := List.filter_cons_of_pos (by simp [hin])
      rw [hfil]
      obtain ⟨r1, M1, a1, a2⟩ := X8_makes hw hk hl hp (offS_mem σ k l hin).2 hM hrs
      rw [a1, Option.bind_some]
      dsimp only
      have htk : ∃ tl, tk1 m (l :: rest.filter (fun x => decide (x ∈ offS σ k))) = l :: tl ∧ (m ≠ 1 → tl = tk1 m (rest.filter (fun x => decide (x ∈ offS σ k)))) ∧ (m = 1 → tl = []) := by
        unfold tk1
        by_cases hm1 : m = 1
        · exact ⟨[], by rw [if_pos hm1]; rfl, fun q => absurd hm1 q, fun _ => rfl⟩
        · exact ⟨_, by rw [if_neg hm1], fun _ => by rw [if_neg hm1], fun q => absurd q hm1⟩
      obtain ⟨tl, htl, htl1, htl2⟩ := htk
      rw [htl]
      simp only [fldS]
      rcases hx : mkS rs σ l k p cu with ⟨fs | ⟨v, dd⟩, cu'⟩
      · rw [hx] at a2
        rw [a2.1, if_neg (by decide)]
        have := a2
        rw [a2.1] at this
        exact ⟨0, M1, rfl, this⟩
      · rw [hx] at a2
        obtain ⟨b1, b2, b3, b4, b5⟩ := a2
        rw [b1, if_pos (by decide)]
        simp only [t1, t4, t2, t3]
        have b2' : FRm p.length M M1 := b2.dn (by omega)
        -- going on
        have cont : m ≠ 1 → ∀ (a : Acc) (M2 : Mem), tkS m l k acc v dd = .inr a → FRd p.length M1 M2 → ACCm M2 p.length m (some a) → MS M2 σ (p ++ [k]) cu' →
            TR M σ p k (f_X8_takes_21 crs fu M2 (nI k) (nI p.length) (nI (bitsN (offS σ k))) (nI m) 0 (nI l) (nI i + 1)) (match tkS m l k acc v dd with
              | .inl fs => (.inl fs, cu')
              | .inr a => fldS rs σ k p m tl (some a) cu') := by
          intro hm1 a M2 ht hf2 hA2 hM2
          rw [ht, nI_1, htl1 hm1]
          exact ((ih (i + 1) M2 (some a) cu' fu (nI l) (by omega) hd2 (by omega) (fun _ => by simp) (fun q => absurd q hm1) hM2 hA2).tr hf2.m).tr b2'
        have failing : ∀ (code : Int32) (M2 : Mem), tkS m l k acc v dd = .inl [(code, k)] → FRm 0 M1 M2 → MS M2 σ (p ++ [k]) cu' →
            TR M σ p k (Option.bind (f_X8_fails M2 code (nI k)) fun z => bret z.1 z.2) (match tkS m l k acc v dd with
              | .inl fs => (.inl fs, cu')
              | .inr a => fldS rs σ k p m tl (some a) cu') := by
          intro code M2 ht hf2 hM2
          obtain ⟨M3, c1, c2⟩ := mfail (p := p) (k := k) (code := code) (by omega) hM2 ((b2'.dn (Nat.zero_le _)).tr hf2)
          rw [ht, c1]
          exact ⟨0, M3, rfl, c2⟩
        have hA1 : ACCm M1 p.length m acc := hA.fr b2
        by_cases m1 : m = 1
        · rw [if_neg (fun q => q m1)]
          obtain ⟨M2, c1, c2, c3, c4, c5⟩ := X8_is (l := l) (d := p.length) (by omega) b3
          rw [c1, Option.bind_some, htl2 m1]
          have ht : tkS m l k acc v dd = .inr (v, bitI l, dd) := by unfold tkS; rw [if_neg (by omega), if_neg (by omega), if_neg (by omega)]
          rw [ht]
          exact ⟨1, M2, rfl, rfl, b2'.tr c2.m, c3, c4, by rw [c5, b4], b5.frd c2⟩
        · rw [if_pos m1]
          by_cases m4 : m = 4
          · rw [if_neg (fun q => q m4)]
            -- merging lists
            have mer : ∀ (ys : List Itm) (s d0 : Int32) (M2 : Mem), FRd p.length M1 M2 → M2 171 p.length = 1 → MLs M2 p.length ys → M2 174 p.length = s → M2 175 p.length = d0 →
                (tkS m l k acc v dd = match v with
                  | .inl _ => .inl [(3, k)]
                  | .inr xs => match mrgL ys xs with
                    | none => .inl [(4, k)]
                    | some zs => .inr (.inr zs, s ||| bitI l, d0 ||| dd)) →
                TR M σ p k (f_X8_takes_134 crs (f_X8_takes_21 crs fu) M2 (nI k) (nI p.length) (nI (bitsN (offS σ k))) (nI m) (nI l) (nI i) (nI l)) (match tkS m l k acc v dd with
                  | .inl fs => (.inl fs, cu')
                  | .inr a => fldS rs σ k p m tl (some a) cu') := by
              intro ys s d0 M2 hf2 h171 hml h174 h175 ht
              unfold f_X8_takes_134 f_X8_merges
              have e2 : ∀ a, 171 ≤ a → a ≤ 175 → M2 a (p.length + 1) = M1 a (p.length + 1) := fun a h1 h2 => hf2.2.1 a _ h1 h2 (by omega)
              rw [nI_1, rd_nI (by omega) (by decide), Option.bind_some, e2 171 (by decide) (by decide)]
              match v, b3 with
              | .inl x, ⟨g0, g1⟩ =>
                rw [g0, if_neg (by decide)]
                obtain ⟨r, M3, c1, c2⟩ := failing 3 M2 ht (hf2.m.dn (Nat.zero_le _)) (b5.frd hf2)
                rw [c1, Option.bind_some]
                refine ⟨0, M3, ?_, ?_⟩
                · have hr : r = 0 := by rw [ht] at c2; exact c2.1
                  rw [hr]; dsimp only; rw [if_neg (by decide)]; rfl
                · have hr : r = 0 := by rw [ht] at c2; exact c2.1
                  rw [hr] at c2
                  exact c2
              | .inr xs, ⟨g0, g1, g2, g3⟩ =>
                rw [g0, if_pos rfl]
                have hM2 := b5.frd hf2
                obtain ⟨M3, c1, c2, c3, c4, c5⟩ := X8_merges_l (k := k) (l := l) (fs := []) (d := p.length) (by omega) xs 0 M2 ys 1000 xs (by omega) rfl (by omega) g2 (by rw [e2 173 (by decide) (by decide)]; exact g1) (fun j y hy => by
                  have hj := (List.getElem?_eq_some_iff.mp hy).1
                  rw [hf2.2.2 176 _ (by decide) (by decide) (Or.inr (by omega)), hf2.2.2 177 _ (by decide) (by decide) (Or.inr (by omega)), hf2.2.2 178 _ (by decide) (by decide) (Or.inr (by omega))]
                  exact g3 j y hy) hml ⟨hM2.2.1, fun i f hf => by simp at hf⟩ (by decide)
                dsimp only at ht
                rcases hz : mrgL ys xs with _ | zs
                · rw [hz] at c5 ht
                  have c5' : f_X8_merges_22 1000 M2 (nI k) (nI p.length) (nI l) 0 = some (0, M3) := c5.1
                  rw [c5', Option.bind_some]
                  dsimp only at ht ⊢
                  rw [if_neg (by decide), ht]
                  exact ⟨0, M3, rfl, rfl, ((b2'.tr hf2.m).tr c1).dn (Nat.zero_le _), c5.2, by simp; omega, by rw [c3]; exact hM2.2.2.2.1, hM2.2.2.2.2.2.2⟩
                · rw [hz] at c5 ht
                  obtain ⟨q1, q2, q3, q4, q5, q6, q7⟩ := c5
                  have c5' : f_X8_merges_22 1000 M2 (nI k) (nI p.length) (nI l) 0 = some (1, M3) := q1
                  rw [c5', Option.bind_some]
                  dsimp only at ht ⊢
                  rw [if_pos (by decide), ht, nI_1, htl1 m1]
                  refine ((ih (i + 1) M3 (some (.inr zs, s ||| bitI l, d0 ||| dd)) cu' fu (nI l) (by omega) hd2 (by omega) (fun _ => by simp) (fun q => absurd q m1) (hM2.fr (c1.1 164 (by decide)) q7 c4) ⟨⟨by rw [q3]; exact h171, q2.1, q2.2.1, q2.2.2⟩, by rw [q5, h174], by rw [q6, h175, e2 175 (by decide) (by decide), b4], fun h => by omega, fun _ => ⟨_, rfl⟩⟩).tr c1).tr (b2'.tr hf2.m)
            rcases acc with _ | ⟨v0, s0, d0⟩
            · rw [if_neg (by decide), wra_nI (by omega) (by decide), Option.bind_some, wra_nI (by omega) (by decide), Option.bind_some, wra_nI (by omega) (by decide), Option.bind_some, wra_nI (by omega) (by decide), Option.bind_some, wra_nI (by omega) (by decide), Option.bind_some]
              refine mer [] 0 0 _ (((((FRd.w1 (by decide) (by decide)).tr (FRd.w1 (by decide) (by decide))).tr (FRd.w1 (by decide) (by decide))).tr (FRd.w1 (by decide) (by decide))).tr (FRd.w1 (by decide) (by decide))) ?_ ⟨?_, by decide, fun j x hx => by simp at hx⟩ ?_ ?_ ?_
              · simp [wr_ap]
              · simp [wr_ap]; rfl
              · simp [wr_ap]
              · simp [wr_ap]
              · rw [Int32.zero_or, Int32.zero_or]
                unfold tkS
                rw [if_neg (by omega), if_neg (by omega), if_pos m4]
                rcases v with x | xs <;> rfl
            · obtain ⟨y1, y2, y3, y4, y5⟩ := hA1
              obtain ⟨ys, rfl⟩ := y5 m4
              obtain ⟨z1, z2, z3, z4⟩ := y1
              rw [if_pos (by simp)]
              refine mer ys s0 d0 M1 FRd.rf z1 ⟨z2, z3, z4⟩ y2 y3 ?_
              unfold tkS
              rw [if_neg (by omega), if_neg (by omega), if_pos m4]
              rcases v with x | xs <;> rfl
          · rw [if_pos m4, nI_1, rd_nI (by omega) (by decide), Option.bind_some]
            have m23 : m = 2 ∨ m = 3 := by omega
            match v, b3 with
            | .inr xs, b3 =>
              rw [b3.1, if_neg (by decide)]
              refine failing 3 M1 ?_ FRm.rf b5
              unfold tkS
              rcases m23 with h | h
              · rw [if_pos h]
              · rw [if_neg (by omega), if_pos h]
            | .inl x, b3 =>
              rw [b3.1, if_pos rfl]
              have after : ∀ (a : Acc) (M2 : Mem), FRd p.length M1 M2 → ACCm M2 p.length m (some a) → (tkS m l k acc (.inl x) dd = if m = 2 ∧ ¬ M2 172 p.length ≤ 999 then .inl [(4, k)] else .inr a) →
                  TR M σ p k (f_X8_takes_256 crs (f_X8_takes_21 crs fu) M2 (nI k) (nI p.length) (nI (bitsN (offS σ k))) (nI m) (nI l) (nI i)) (match tkS m l k acc (.inl x) dd with
                    | .inl fs => (.inl fs, cu')
                    | .inr a => fldS rs σ k p m tl (some a) cu') := by
                intro a M2 hf2 hA2 ht
                unfold f_X8_takes_256
                rw [rd_nI (by omega) (by decide), Option.bind_some]
                simp only [t2]
                by_cases hle : M2 172 p.length ≤ 999
                · rw [if_pos hle]
                  rw [if_neg (fun q => q.2 hle)] at ht
                  exact cont m1 a M2 ht hf2 hA2 (b5.frd hf2)
                · rw [if_neg hle]
                  by_cases h2 : m = 2
                  · rw [if_neg (fun q => q h2)]
                    rw [if_pos ⟨h2, hle⟩] at ht
                    exact failing 4 M2 ht (hf2.m.dn (Nat.zero_le _)) (b5.frd hf2)
                  · rw [if_pos h2]
                    rw [if_neg (fun q => h2 q.1)] at ht
                    exact cont m1 a M2 ht hf2 hA2 (b5.frd hf2)
              have isIt : (tkS m l k acc (.inl x) dd = if m = 2 ∧ ¬ x ≤ 999 then .inl [(4, k)] else .inr (.inl x, bitI l, dd)) →
                  TR M σ p k (f_X8_takes_193 crs (f_X8_takes_21 crs fu) M1 (nI k) (nI p.length) (nI (bitsN (offS σ k))) (nI m) (nI l) (nI i) (nI l)) (match tkS m l k acc (.inl x) dd with
                    | .inl fs => (.inl fs, cu')
                    | .inr a => fldS rs σ k p m tl (some a) cu') := by
                intro ht
                unfold f_X8_takes_193
                obtain ⟨M2, c1, c2, c3, c4, c5⟩ := X8_is (l := l) (d := p.length) (by omega) b3
                rw [c1, Option.bind_some]
                exact after (.inl x, bitI l, dd) M2 c2 ⟨c3, c4, by rw [c5, b4], fun _ => ⟨_, rfl⟩, fun h => absurd h m4⟩ (by rw [c3.2]; exact ht)
              rcases acc with _ | ⟨v0, s0, d0⟩
              · rw [if_pos (by decide)]
                refine isIt ?_
                unfold tkS
                rcases m23 with h | h
                · rw [if_pos h]
                  by_cases hx9 : x ≤ 999
                  · simp [hx9]
                  · simp [hx9, h]
                · rw [if_neg (by omega), if_pos h, if_neg (fun q => by omega)]
              · obtain ⟨y1, y2, y3, y4, y5⟩ := hA1
                obtain ⟨y, rfl⟩ := y4 m23
                rw [if_neg (by simp)]
                rcases m23 with h | h
                · rw [if_pos (show ¬ m = 3 by omega)]
                  unfold f_X8_takes_203
                  simp only [t2]
                  rw [if_neg (fun q => q h), rd_nI (by omega) (by decide), Option.bind_some, nI_1, rd_nI (by omega) (by decide), Option.bind_some, y1.2, b3.2, wra_nI (by omega) (by decide), Option.bind_some, rd_nI (by omega) (by decide), Option.bind_some, wr_ne (show 174 ≠ 172 by decide), y2, wra_nI (by omega) (by decide), Option.bind_some, rd_nI (by omega) (by decide), Option.bind_some, rd_nI (by omega) (by decide), Option.bind_some, wr_ne (show 175 ≠ 174 by decide), wr_ne (show 175 ≠ 172 by decide), y3, b4, wra_nI (by omega) (by decide), Option.bind_some]
                  refine after (.inl (y + x), s0 ||| bitI l, d0 ||| dd) _ (((FRd.w1 (by decide) (by decide)).tr (FRd.w1 (by decide) (by decide))).tr (FRd.w1 (by decide) (by decide))) ⟨⟨?_, ?_⟩, ?_, ?_, fun _ => ⟨_, rfl⟩, fun h => absurd h m4⟩ ?_
                  · simp [wr_ap, y1.1]
                  · simp [wr_ap]
                  · simp [wr_ap]
                  · simp [wr_ap]
                  · have hv : wr (wr (wr M1 172 p.length (y + x)) 174 p.length (s0 ||| 1 <<< (nI l &&& 31))) 175 p.length (d0 ||| dd) 172 p.length = y + x := by simp [wr_ap]
                    rw [hv]
                    unfold tkS
                    rw [if_pos h]
                    by_cases hx9 : y + x ≤ 999
                    · simp [hx9]
                    · simp [hx9, h]
                · rw [if_neg (fun q => q h), rd_nI (by omega) (by decide), Option.bind_some, rd_nI (by omega) (by decide), Option.bind_some, b3.2, y1.2]
                  have ht : tkS m l k (some (.inl y, s0, d0)) (.inl x) dd = if x ≤ y then .inr (.inl y, s0, d0) else .inr (.inl x, bitI l, dd) := by
                    unfold tkS
                    rw [if_neg (by omega), if_pos h]
                  by_cases hxy : x ≤ y
                  · rw [if_pos hxy]
                    unfold f_X8_takes_203
                    simp only [t2]
                    rw [if_pos (show ¬ m = 2 by omega)]
                    exact after (.inl y, s0, d0) M1 FRd.rf ⟨y1, y2, y3, fun _ => ⟨_, rfl⟩, fun h => absurd h m4⟩ (by rw [ht, if_pos hxy, if_neg (fun q => by omega)])
                  · rw [if_neg hxy]
                    exact isIt (by rw [ht, if_neg hxy, if_neg (fun q => by omega)])
    · rw [if_neg (by rw [hbit]; simp [hin]), nI_1]
      have hfil : (l :: rest).filter (fun x => decide (x ∈ offS σ k)) = rest.filter (fun x => decide (x ∈ offS σ k)) := List.filter_cons_of_neg (by simp [hin])
      rw [hfil] at hne ⊢
      exact ih (i + 1) M acc cu fu l6 (by omega) hd2 (by omega) hne h1 hM hA
