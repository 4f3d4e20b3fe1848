def S0 : St := ((fun _ => false, fun _ => 0, fun _ => 0, fun _ => 0, fun _ => none), none, [], [], fun _ => 0)
theorem S0_wf : WFS S0 := ⟨⟨fun _ => ⟨by show (0 : Nat) < 6; decide, by show (0 : Nat) ≤ 9; decide⟩, fun _ => by show (0 : Nat) < 5; decide, fun e f n o its h => by cases h⟩, fun ι h => (by cases h), by decide, fun v h => (by cases h), by decide, fun c h => (by cases h)⟩
theorem ord0 : ordS (gS S0) = [5, 4, 3, 2, 1, 0] := by decide
theorem S0_cls : ClsI Minit S0 := by
  have hs : ∀ j, j < 10 → Minit (1 + j) = scnR j := fun j hj => Minit_s (s := 1) (Or.inl rfl) hj
  refine ⟨⟨?_, fun l hl => ⟨?_, ?_⟩, fun k hk => ?_, ?_, fun e he => ?_⟩, ?_, ?_, ?_, fun i hi => ?_⟩
  · have := hs 0 (by decide)
    rw [show (1 : Nat) = 1 + 0 from rfl, this]; rfl
  · rw [hs 1 (by decide)]; rfl
  · rw [hs 2 (by decide)]; rfl
  · rw [hs 3 (by decide)]; rfl
  · rw [hs 4 (by decide), ord0]
    intro j d hj
    have : j < 6 := (List.getElem?_eq_some_iff.mp hj).1
    match j, hj with
    | 0, hj => cases hj; rfl
    | 1, hj => cases hj; rfl
    | 2, hj => cases hj; rfl
    | 3, hj => cases hj; rfl
    | 4, hj => cases hj; rfl
    | 5, hj => cases hj; rfl
    | j + 6, hj => omega
  · show Minit (1 + 5) e = -1
    rw [hs 5 (by decide)]
    unfold scnR
    rw [if_neg (by decide), if_pos rfl, if_pos he]
  · show Minit 0 9 = 0
    rw [Minit_0 (Or.inl rfl) (by decide)]
  · exact ⟨by rw [Minit_0 (Or.inr (by decide)) (by decide)]; rfl, fun i v h => by cases h⟩
  · exact ⟨by rw [Minit_0 (Or.inr (by decide)) (by decide)]; rfl, fun i v h => by cases h⟩
  · rw [Minit_0 (Or.inr (by decide)) (by decide)]; rfl
theorem S0_164 (k : Nat) : Minit 164 k = if 30 ≤ k ∧ k < 606 ∧ (k - 30) % 12 = 0 then -9 else 0 := by
  unfold Minit
  rw [if_neg (by decide), if_neg (by decide), if_neg (by decide), if_neg (by decide), if_pos rfl]
theorem S0_mod : ModI Minit S0 := by
  refine ⟨⟨fun l hl => ⟨?_, ?_, ?_⟩, fun k hk => ?_, fun e he => ?_⟩, ?_, ?_, ?_, fun i hi => ?_⟩
  · rw [S0_164, if_neg (by omega)]; rfl
  · rw [S0_164, if_neg (by omega)]; rfl
  · rw [S0_164, if_neg (by omega)]; rfl
  · rw [S0_164, if_neg (by omega)]; rfl
  · show Minit 164 (30 + 12 * e) = -9
    rw [S0_164, if_pos (by omega)]
  · show Minit 163 12 = 0
    rw [Minit_0 (Or.inr (by decide)) (by decide)]
  · exact ⟨by rw [Minit_0 (Or.inr (by decide)) (by decide)]; rfl, fun i v h => by cases h⟩
  · exact ⟨by rw [Minit_0 (Or.inr (by decide)) (by decide)]; rfl, fun i v h => by cases h⟩
  · rw [Minit_0 (Or.inr (by decide)) (by decide)]; rfl
theorem law_call {α : Type} [DecidableEq α] {S : St} {X Y : Mem → Option (α × Mem)} {F : Mem → Option Int32} {M : Mem} (h : SAME S X Y) (h7 : ClsI M S) (h8 : ModI M S) (hF : ∀ A S', ClsI A S' → ModI A S' → WFS S' → F A = some 1) : (Option.bind (X M) fun z => Option.bind (Y z.2) fun u => if z.1 = u.1 then F u.2 else some 0) = some 1 := by
  obtain ⟨a, S', M1, M2, e1, e2, c1, c2, w⟩ := h.use h7 h8
  rw [e1, Option.bind_some]
  dsimp only
  rw [e2, Option.bind_some]
  dsimp only
  rw [if_pos rfl]
  exact hF M2 S' c1 c2 w
theorem lg_self (a : Int64) : lg_cmp a a = 0 := by
  unfold lg_cmp
  rw [if_neg (show ¬ a > a from Int64.lt_irrefl), if_pos rfl]
theorem law_callL {S : St} {X Y : Mem → Option (Int64 × Mem)} {F : Mem → Option Int32} {M : Mem} (h : SAME S X Y) (h7 : ClsI M S) (h8 : ModI M S) (hF : ∀ A S', ClsI A S' → ModI A S' → WFS S' → F A = some 1) : (Option.bind (X M) fun z => Option.bind (Y z.2) fun u => if lg_cmp z.1 u.1 = 0 then F u.2 else some 0) = some 1 := by
  obtain ⟨a, S', M1, M2, e1, e2, c1, c2, w⟩ := h.use h7 h8
  rw [e1, Option.bind_some]
  dsimp only
  rw [e2, Option.bind_some]
  dsimp only
  rw [if_pos (lg_self a)]
  exact hF M2 S' c1 c2 w
theorem ite1 {c : Prop} [Decidable c] {A B : Option Int32} (h : A = some 1) (g : B = some 1) : (if c then A else B) = some 1 := by
  split
  · exact h
  · exact g
theorem rds_at {L i k : Nat} {xs : Nat → Int32} (h : i + k < L) (hL : L ≤ 2560) : rds L xs (nI i + nI k) = some (xs (i + k)) := by
  rw [nI_add]
  have e : (nI (i + k)).toNatClampNeg = i + k := Int32.toNatClampNeg_ofNat_of_lt (by omega)
  unfold rds
  rw [e, if_neg]
  intro q
  rcases q with q | q
  · exact nI_pos (by omega) q
  · omega
theorem law_more {L i : Nat} (hL : L ≤ 2560) (hi : i ≤ L) : (Int32.ofNat L - 5 < nI i) ↔ L < i + 5 := by
  by_cases h : 5 ≤ L
  · rw [show Int32.ofNat L - 5 = nI (L - 5) from nI_sub h]
    constructor
    · intro q
      by_cases h2 : L - 5 < i
      · omega
      · exact absurd q (nI_nlt (by omega) (by omega))
    · intro q
      exact nI_lt (by omega) (by omega)
  · refine ⟨fun _ => by omega, fun _ => ?_⟩
    have h1 : Int32.ofNat L - 5 < 0 := by
      have : ∀ L, L < 5 → Int32.ofNat L - 5 < 0 := by decide
      exact this L (by omega)
    exact Int32.lt_of_lt_of_le h1 (ge0 (by omega))
