/-! letters told: where a reading stands, or where it failed -/
abbrev PS : Type := Nat ⊕ Nat
def cN (ls : List Int32) (p : Nat) : Nat := match ls[p]? with
  | some c => c.toNatClampNeg
  | none => 256
def tk (ls : List Int32) (lo hi : Nat) : PS → PS
  | .inl q => .inl q
  | .inr p => if lo ≤ cN ls p ∧ cN ls p ≤ hi then .inr (p + 1) else .inl p
def tv (ls : List Int32) (lo hi : Nat) : PS → Nat
  | .inl _ => 0
  | .inr p => if lo ≤ cN ls p ∧ cN ls p ≤ hi then cN ls p - lo else 0
abbrev dg (ls : List Int32) (s : PS) : PS := tk ls 48 57 s
abbrev dv (ls : List Int32) (s : PS) : Nat := tv ls 48 57 s
abbrev ky (ls : List Int32) (s : PS) : PS := tk ls 97 104 s
abbrev kv (ls : List Int32) (s : PS) : Nat := tv ls 97 104 s
abbrev sg (ls : List Int32) (c : Nat) (s : PS) : PS := tk ls c c s
abbrev tw (ls : List Int32) (s : PS) : PS := dg ls (dg ls s)
abbrev twv (ls : List Int32) (s : PS) : Nat := 10 * dv ls s + dv ls (dg ls s)
def LW (ls : List Int32) : Prop := ls.length ≤ 96 ∧ ∀ c ∈ ls, 0 ≤ c ∧ c ≤ 255
theorem lw_in {ls : List Int32} (h : LW ls) {p : Nat} (hp : p < ls.length) : ∃ n, n ≤ 255 ∧ ls[p]? = some (nI n) ∧ cN ls p = n := by
  have h1 : ls[p]? = some ls[p] := List.getElem?_eq_getElem hp
  have h2 := h.2 ls[p] (List.getElem_mem hp)
  obtain ⟨n, hn, e⟩ := nI_of (x := ls[p]) (Int32.not_lt.mpr h2.1)
  have hn2 : n ≤ 255 := by
    by_cases hc : n ≤ 255
    · exact hc
    · rw [e] at h2
      exact absurd h2.2 (nI_ge (a := 255) (b := n) (by omega) hn)
  refine ⟨n, hn2, by rw [h1, e], ?_⟩
  unfold cN
  rw [h1, e]
  exact Int32.toNatClampNeg_ofNat_of_lt (by omega)
theorem lw_out {ls : List Int32} {p : Nat} (hp : ¬ p < ls.length) : cN ls p = 256 := by
  unfold cN
  rw [List.getElem?_eq_none (by omega)]
theorem cN_lt {ls : List Int32} {p m : Nat} (h : cN ls p ≤ m) (hm : m ≤ 255) : p < ls.length := by
  by_cases hp : p < ls.length
  · exact hp
  · rw [lw_out hp] at h; omega
def ps : PS → Nat
  | .inl q => q
  | .inr p => p
theorem tk_le {ls : List Int32} {lo hi m : Nat} {s : PS} (hh : hi ≤ 255) (h : ps s ≤ ls.length) (hm : m ≤ ps s) : m ≤ ps (tk ls lo hi s) ∧ ps (tk ls lo hi s) ≤ ls.length := by
  rcases s with q | p
  · exact ⟨hm, h⟩
  · unfold tk
    dsimp only
    by_cases hc : lo ≤ cN ls p ∧ cN ls p ≤ hi
    · have := cN_lt hc.2 hh
      rw [if_pos hc]
      exact ⟨Nat.le_trans hm (Nat.le_succ _), this⟩
    · rw [if_neg hc]; exact ⟨hm, h⟩
theorem tk_inr {ls : List Int32} {lo hi q : Nat} {s : PS} (h : tk ls lo hi s = .inr q) : ∃ p, s = .inr p ∧ q = p + 1 ∧ lo ≤ cN ls p ∧ cN ls p ≤ hi := by
  rcases s with a | p
  · cases h
  · unfold tk at h
    dsimp only at h
    by_cases hc : lo ≤ cN ls p ∧ cN ls p ≤ hi
    · rw [if_pos hc] at h; cases h; exact ⟨p, rfl, rfl, hc⟩
    · rw [if_neg hc] at h; cases h
theorem tv_le {ls : List Int32} {lo hi : Nat} {s : PS} : tv ls lo hi s ≤ hi - lo := by
  rcases s with q | p
  · exact Nat.zero_le _
  · unfold tv
    dsimp only
    split
    · rename_i h; omega
    · exact Nat.zero_le _
theorem sub_t : ∀ lo, lo < 100 → ∀ n, n < 256 → (nI n - nI lo < 0 ↔ n < lo) ∧ (lo ≤ n → nI n - nI lo = nI (n - lo)) := by
  intro lo hlo n hn
  refine ⟨?_, fun h => nI_sub h⟩
  by_cases h : lo ≤ n
  · rw [nI_sub h]
    exact ⟨fun q => absurd q (nI_pos (by omega)), fun q => absurd q (by omega)⟩
  · refine ⟨fun _ => by omega, fun _ => ?_⟩
    have e : nI n - nI lo = -nI (lo - n) := by
      have := nI_sub (a := lo) (b := n) (by omega)
      rw [← this, Int32.neg_sub]
    rw [e]
    have : ∀ m, m < 100 → 0 < m → -nI m < 0 := by decide +kernel
    exact this _ (by omega) (by omega)
/-! the class reads -/
def AT (M : Mem) (ls : List Int32) (p : Nat) : Prop := M 97 2 = nI p ∧ p ≤ ls.length ∧ LsI (M 97 1) (M 98) ls
def FX (M M' : Mem) : Prop := (∀ i, i ≠ 97 → i ≠ 99 → i ≠ 100 → i ≠ 101 → M' i = M i) ∧ ∀ j, j ≠ 2 → M' 97 j = M 97 j
theorem FX.rf {M : Mem} : FX M M := ⟨fun _ _ _ _ _ => rfl, fun _ _ => rfl⟩
theorem FX.tr {A B C : Mem} (h : FX A B) (g : FX B C) : FX A C := ⟨fun i a b c d => (g.1 i a b c d).trans (h.1 i a b c d), fun j a => (g.2 j a).trans (h.2 j a)⟩
theorem FX.at2 {M : Mem} {x : Int32} : FX M (wr M 97 2 x) := ⟨fun i a _ _ _ => wr_ne a, fun j hj => by rw [wr_ap, if_neg (fun q => hj q.2)]⟩
theorem FX.st {M : Mem} {i k : Nat} {x : Int32} (h : i = 99 ∨ i = 100 ∨ i = 101) : FX M (wr M i k x) := ⟨fun j a b c d => wr_ne (by omega), fun j _ => by rw [wr_ne (by omega)]⟩
/-- the statement's places, or the items' -/
def SF (M M' : Mem) : Prop := M' 99 = M 99 ∧ M' 100 = M 100 ∧ M' 101 = M 101
theorem AT.st {M : Mem} {ls : List Int32} {p i k : Nat} {x : Int32} (h : AT M ls p) (hi : i = 99 ∨ i = 100 ∨ i = 101) : AT (wr M i k x) ls p := by
  unfold AT at *
  rw [wr_ne (by omega), wr_ne (by omega)]
  exact h
theorem AT.step {M : Mem} {ls : List Int32} {p : Nat} (h : AT M ls p) (hp : p < ls.length) : AT (wr M 97 2 (M 97 2 + 1)) ls (p + 1) := by
  obtain ⟨h1, h2, h3⟩ := h
  refine ⟨by rw [wr_ap, if_pos ⟨rfl, rfl⟩, h1, nI_1], hp, ?_⟩
  rw [wr_ap, if_neg (by decide), wr_ne (by decide)]
  exact h3
theorem X6_letterHere {M : Mem} {ls : List Int32} {p : Nat} (hl : LW ls) (h : AT M ls p) : f_X6_letterHere M = some (if p < ls.length then nI (cN ls p) else -1, M) := by
  obtain ⟨h1, h2, h3⟩ := h
  have hl1 := hl.1
  unfold f_X6_letterHere
  rw [h1, h3.1, if_neg (nI_pos (by omega))]
  by_cases hp : p < ls.length
  · obtain ⟨n, hn, e1, e2⟩ := lw_in hl hp
    rw [if_neg (nI_ge (by omega) (by omega)), if_neg (show ¬ (96 : Int32) ≤ nI p from nI_ge (b := 96) (by omega) (by decide)), rd_nI (by omega) (by decide), Option.bind_some, if_pos hp, h3.2 p _ e1, e2]
  · rw [if_pos (nI_le (by omega) (by omega)), if_neg hp]
theorem X6_readDigit {M : Mem} {ls : List Int32} {p : Nat} (hl : LW ls) (h : AT M ls p) : (∃ q M', dg ls (.inr p) = .inr q ∧ f_X6_readDigit M = some (nI (dv ls (.inr p)), M') ∧ AT M' ls q ∧ FX M M' ∧ SF M M') ∨ (dg ls (.inr p) = .inl p ∧ f_X6_readDigit M = some (-1, M)) := by
  unfold f_X6_readDigit
  rw [X6_letterHere hl h, Option.bind_some]
  dsimp only
  by_cases hp : p < ls.length
  · obtain ⟨n, hn, e1, e2⟩ := lw_in hl hp
    rw [if_pos hp, e2]
    obtain ⟨t1, t2⟩ := sub_t 48 (by decide) n (by omega)
    have t1' : (nI n - 48 < 0) ↔ n < 48 := t1
    by_cases h1 : n < 48
    · right
      rw [if_pos (t1'.mpr h1)]
      refine ⟨?_, rfl⟩
      show (if _ then _ else _) = _
      rw [e2, if_neg (by omega)]
    · have t2' : nI n - 48 = nI (n - 48) := t2 (by omega)
      rw [if_neg (fun q => h1 (t1'.mp q)), t2']
      by_cases h2 : n ≤ 57
      · left
        rw [if_pos (show nI (n - 48) ≤ 9 from nI_le (b := 9) (by omega) (by decide)), wrf_eq, Option.bind_some]
        refine ⟨p + 1, _, ?_, ?_, h.step hp, FX.at2, ⟨wr_ne (by decide), wr_ne (by decide), wr_ne (by decide)⟩⟩
        · show (if _ then _ else _) = _
          rw [e2, if_pos (by omega)]
        · have : dv ls (.inr p) = n - 48 := by
            show (if _ then _ else _) = _
            rw [e2, if_pos (by omega)]
          rw [this]
      · right
        rw [if_neg (show ¬ nI (n - 48) ≤ 9 from nI_ge (a := 9) (by omega) (by omega))]
        refine ⟨?_, rfl⟩
        show (if _ then _ else _) = _
        rw [e2, if_neg (by omega)]
  · right
    rw [if_neg hp, if_pos (by decide)]
    refine ⟨?_, rfl⟩
    show (if _ then _ else _) = _
    rw [lw_out hp, if_neg (by decide)]
theorem X6_readKeyLetter {M : Mem} {ls : List Int32} {p : Nat} (hl : LW ls) (h : AT M ls p) : (∃ q M', ky ls (.inr p) = .inr q ∧ f_X6_readKeyLetter M = some (nI (kv ls (.inr p)), M') ∧ AT M' ls q ∧ FX M M' ∧ SF M M') ∨ (ky ls (.inr p) = .inl p ∧ f_X6_readKeyLetter M = some (-1, M)) := by
  unfold f_X6_readKeyLetter
  rw [X6_letterHere hl h, Option.bind_some]
  dsimp only
  by_cases hp : p < ls.length
  · obtain ⟨n, hn, e1, e2⟩ := lw_in hl hp
    rw [if_pos hp, e2]
    obtain ⟨t1, t2⟩ := sub_t 97 (by decide) n (by omega)
    have t1' : (nI n - 97 < 0) ↔ n < 97 := t1
    by_cases h1 : n < 97
    · right
      rw [X7_noKey' (Or.inl (t1'.mpr h1)), Option.bind_some, if_neg (show ¬ (1 : Int32) = 0 by decide)]
      refine ⟨?_, rfl⟩
      show (if _ then _ else _) = _
      rw [e2, if_neg (by omega)]
    · have t2' : nI n - 97 = nI (n - 97) := t2 (by omega)
      rw [t2']
      by_cases h2 : n ≤ 104
      · left
        rw [X7_noKey (show n - 97 < 8 by omega), Option.bind_some]
        dsimp only
        rw [if_pos rfl, wrf_eq, Option.bind_some]
        refine ⟨p + 1, _, ?_, ?_, h.step hp, FX.at2, ⟨wr_ne (by decide), wr_ne (by decide), wr_ne (by decide)⟩⟩
        · show (if _ then _ else _) = _
          rw [e2, if_pos (by omega)]
        · have : kv ls (.inr p) = n - 97 := by
            show (if _ then _ else _) = _
            rw [e2, if_pos (by omega)]
          rw [this]
      · right
        rw [X7_noKey' (Or.inr (show ¬ nI (n - 97) < 8 from nI_nlt (b := 8) (by omega) (by omega))), Option.bind_some, if_neg (show ¬ (1 : Int32) = 0 by decide)]
        refine ⟨?_, rfl⟩
        show (if _ then _ else _) = _
        rw [e2, if_neg (by omega)]
  · right
    rw [if_neg hp, X7_noKey' (Or.inl (by decide)), Option.bind_some, if_neg (show ¬ (1 : Int32) = 0 by decide)]
    refine ⟨?_, rfl⟩
    show (if _ then _ else _) = _
    rw [lw_out hp, if_neg (by decide)]
theorem X6_readSign {M : Mem} {ls : List Int32} {p c : Nat} (hl : LW ls) (hc : c ≤ 255) (h : AT M ls p) : (∃ q M', sg ls c (.inr p) = .inr q ∧ f_X6_readSign M (nI c) = some (1, M') ∧ AT M' ls q ∧ FX M M' ∧ SF M M') ∨ (sg ls c (.inr p) = .inl p ∧ f_X6_readSign M (nI c) = some (0, M)) := by
  unfold f_X6_readSign
  rw [X6_letterHere hl h, Option.bind_some]
  dsimp only
  by_cases hp : p < ls.length
  · obtain ⟨n, hn, e1, e2⟩ := lw_in hl hp
    rw [if_pos hp, e2]
    by_cases h1 : n = c
    · left
      rw [if_pos (by rw [h1]), wrf_eq, Option.bind_some]
      refine ⟨p + 1, _, ?_, rfl, h.step hp, FX.at2, ⟨wr_ne (by decide), wr_ne (by decide), wr_ne (by decide)⟩⟩
      show (if _ then _ else _) = _
      rw [e2, if_pos (by omega)]
    · right
      rw [if_neg (fun q => h1 ((nI_eq (by omega) (by omega)).mp q))]
      refine ⟨?_, rfl⟩
      show (if _ then _ else _) = _
      rw [e2, if_neg (by omega)]
  · right
    have : ∀ c, c < 256 → ¬ (-1 : Int32) = nI c := by decide +kernel
    rw [if_neg hp, if_neg (this c (by omega))]
    refine ⟨?_, rfl⟩
    show (if _ then _ else _) = _
    rw [lw_out hp, if_neg (by omega)]
theorem wr_sf {M : Mem} {i k : Nat} {x : Int32} : wr M i k x i k = x := by rw [wr_ap, if_pos ⟨rfl, rfl⟩]
/-- a reading that goes to a place of the statement -/
theorem slot_ok {M : Mem} {M1 : Mem} {k v : Nat} {ls : List Int32} {q : Nat} (hv : v < 2 ^ 31) (h : AT M1 ls q) (hF : FX M M1) (hS : SF M M1) : (Option.bind (some (nI v, M1)) fun z1 => Option.bind (wrf z1.2 99 k z1.1) fun M2 => if (M2 99 k) < 0 then bret 0 M2 else bret 1 M2) = some (1, wr M1 99 k (nI v)) ∧ AT (wr M1 99 k (nI v)) ls q ∧ FX M (wr M1 99 k (nI v)) ∧ ∀ j, wr M1 99 k (nI v) 99 j = if j = k then nI v else M 99 j := by
  refine ⟨?_, h.st (Or.inl rfl), hF.tr (FX.st (Or.inl rfl)), fun j => ?_⟩
  · rw [Option.bind_some, wrf_eq, Option.bind_some]
    dsimp only
    rw [wr_sf, if_neg (nI_pos hv)]; rfl
  · rw [wr_ap]
    by_cases hj : j = k
    · simp [hj]
    · rw [if_neg (fun x => hj x.2), if_neg hj, hS.1]
theorem slot_no {M : Mem} {k : Nat} {ls : List Int32} {q : Nat} (h : AT M ls q) : (Option.bind (some ((-1 : Int32), M)) fun z1 => Option.bind (wrf z1.2 99 k z1.1) fun M2 => if (M2 99 k) < 0 then bret 0 M2 else bret 1 M2) = some (0, wr M 99 k (-1)) ∧ AT (wr M 99 k (-1)) ls q ∧ FX M (wr M 99 k (-1)) := by
  refine ⟨?_, h.st (Or.inl rfl), FX.st (Or.inl rfl)⟩
  rw [Option.bind_some, wrf_eq, Option.bind_some]
  dsimp only
  rw [wr_sf, if_pos (by decide)]; rfl
def RDf (M : Mem) (k : Nat) (R : Option (Int32 × Mem)) : Option (Int32 × Mem) := Option.bind R fun z1 => Option.bind (wrf z1.2 99 k z1.1) fun M2 => if (M2 99 k) < 0 then bret 0 M2 else bret 1 M2
/-- a reading to a place, done -/
def RDs (X : Option (Int32 × Mem)) (M : Mem) (ls : List Int32) (k v : Nat) (s : PS) : Prop := match s with
  | .inr q => ∃ M', X = some (1, M') ∧ AT M' ls q ∧ FX M M' ∧ (∀ j, M' 99 j = if j = k then nI v else M 99 j) ∧ M' 100 = M 100 ∧ M' 101 = M 101
  | .inl q => ∃ M', X = some (0, M') ∧ AT M' ls q ∧ FX M M'
theorem rd_digit {M : Mem} {ls : List Int32} {p k : Nat} (hl : LW ls) (h : AT M ls p) : RDs (RDf M k (f_X6_readDigit M)) M ls k (dv ls (.inr p)) (dg ls (.inr p)) := by
  rcases X6_readDigit hl h with ⟨q, M1, e1, e2, e3, e4, e5⟩ | ⟨e1, e2⟩
  · rw [e1, e2]
    have hv : dv ls (.inr p) ≤ 57 - 48 := tv_le
    obtain ⟨a, b, c, d⟩ := slot_ok (k := k) (v := dv ls (.inr p)) (by omega) e3 e4 e5
    exact ⟨_, a, b, c, d, by rw [wr_ne (by decide), e5.2.1], by rw [wr_ne (by decide), e5.2.2]⟩
  · rw [e1, e2]
    obtain ⟨a, b, c⟩ := slot_no (k := k) h
    exact ⟨_, a, b, c⟩
theorem rd_key {M : Mem} {ls : List Int32} {p k : Nat} (hl : LW ls) (h : AT M ls p) : RDs (RDf M k (f_X6_readKeyLetter M)) M ls k (kv ls (.inr p)) (ky ls (.inr p)) := by
  rcases X6_readKeyLetter hl h with ⟨q, M1, e1, e2, e3, e4, e5⟩ | ⟨e1, e2⟩
  · rw [e1, e2]
    have hv : kv ls (.inr p) ≤ 104 - 97 := tv_le
    obtain ⟨a, b, c, d⟩ := slot_ok (k := k) (v := kv ls (.inr p)) (by omega) e3 e4 e5
    exact ⟨_, a, b, c, d, by rw [wr_ne (by decide), e5.2.1], by rw [wr_ne (by decide), e5.2.2]⟩
  · rw [e1, e2]
    obtain ⟨a, b, c⟩ := slot_no (k := k) h
    exact ⟨_, a, b, c⟩
theorem X6_readPair {M : Mem} {ls : List Int32} {p : Nat} (hl : LW ls) (h : AT M ls p) : (∃ q M', tw ls (.inr p) = .inr q ∧ f_X6_readPair M = some (nI (twv ls (.inr p)), M') ∧ AT M' ls q ∧ FX M M' ∧ SF M M') ∨ (∃ q M', tw ls (.inr p) = .inl q ∧ f_X6_readPair M = some (-1, M') ∧ AT M' ls q ∧ FX M M' ∧ SF M M') := by
  unfold f_X6_readPair
  rcases X6_readDigit hl h with ⟨q, M1, e1, e2, e3, e4, e5⟩ | ⟨e1, e2⟩
  · have hv1 : dv ls (.inr p) ≤ 57 - 48 := tv_le
    rw [e2, Option.bind_some]
    dsimp only
    rw [if_pos (ge0 (by omega))]
    show (∃ q' M', dg ls (dg ls (.inr p)) = .inr q' ∧ _) ∨ (∃ q' M', dg ls (dg ls (.inr p)) = .inl q' ∧ _)
    rw [e1]
    rcases X6_readDigit hl e3 with ⟨q2, M2, g1, g2, g3, g4, g5⟩ | ⟨g1, g2⟩
    · left
      have hv2 : dv ls (.inr q) ≤ 57 - 48 := tv_le
      refine ⟨q2, M2, g1, ?_, g3, e4.tr g4, g5.1.trans e5.1, g5.2.1.trans e5.2.1, g5.2.2.trans e5.2.2⟩
      rw [g2, Option.bind_some]
      dsimp only
      rw [if_pos (ge0 (by omega)), show (10 : Int32) = nI 10 from rfl, nI_mul, nI_add]
      show _ = some (nI (10 * dv ls (.inr p) + dv ls (dg ls (.inr p))), M2)
      rw [e1]
    · right
      refine ⟨q, M1, g1, ?_, e3, e4, e5⟩
      rw [g2, Option.bind_some]
      dsimp only
      rw [if_neg (by decide)]
  · right
    refine ⟨p, M, ?_, ?_, h, FX.rf, rfl, rfl, rfl⟩
    · show dg ls (dg ls (.inr p)) = _
      rw [e1]; rfl
    · rw [e2, Option.bind_some]
      dsimp only
      rw [if_neg (by decide)]
theorem rd_pair {M : Mem} {ls : List Int32} {p k : Nat} (hl : LW ls) (h : AT M ls p) : RDs (RDf M k (f_X6_readPair M)) M ls k (twv ls (.inr p)) (tw ls (.inr p)) := by
  rcases X6_readPair hl h with ⟨q, M1, e1, e2, e3, e4, e5⟩ | ⟨q, M1, e1, e2, e3, e4, e5⟩
  · rw [e1, e2]
    have hv1 : dv ls (.inr p) ≤ 57 - 48 := tv_le
    have hv2 : dv ls (dg ls (.inr p)) ≤ 57 - 48 := tv_le
    obtain ⟨a, b, c, d⟩ := slot_ok (k := k) (v := twv ls (.inr p)) (by show 10 * _ + _ < _; omega) e3 e4 e5
    exact ⟨_, a, b, c, d, by rw [wr_ne (by decide), e5.2.1], by rw [wr_ne (by decide), e5.2.2]⟩
  · rw [e1, e2]
    obtain ⟨a, b, c⟩ := slot_no (k := k) e3
    exact ⟨_, a, b, e4.tr c⟩
