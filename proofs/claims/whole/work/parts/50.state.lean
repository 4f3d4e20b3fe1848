/-! the state that both hold -/
abbrev St : Type := Sc × Option Sc × List Int32 × List Int32 × (Nat → Int32)
abbrev gS (S : St) : Sc := S.1
abbrev gI (S : St) : Option Sc := S.2.1
abbrev gR (S : St) : List Int32 := S.2.2.1
abbrev gT (S : St) : List Int32 := S.2.2.2.1
abbrev gF (S : St) : Nat → Int32 := S.2.2.2.2
def WFS (S : St) : Prop := WFs (gS S) ∧ (∀ ι, gI S = some ι → WFs ι) ∧ (gR S).length ≤ 8 ∧ (∀ v ∈ gR S, 0 ≤ v ∧ v ≤ 100) ∧ (gT S).length ≤ 96 ∧ ∀ c ∈ gT S, 0 ≤ c ∧ c ≤ 255
def IMc (M : Mem) : Option Sc → Prop
  | none => M 0 9 = 0
  | some ι => M 0 9 = 1 ∧ SCr M 11 ι
def IMm (M : Mem) : Option Sc → Prop
  | none => M 163 12 = 0
  | some ι => M 163 12 = 1 ∧ SMr (M 165) ι
def LsI (n : Int32) (r : Nat → Int32) (ls : List Int32) : Prop := n = nI ls.length ∧ ∀ i v, ls[i]? = some v → r i = v
def ClsI (M : Mem) (S : St) : Prop := SCr M 1 (gS S) ∧ IMc M (gI S) ∧ LsI (M 102 1) (M 103) (gR S) ∧ LsI (M 97 1) (M 98) (gT S) ∧ ∀ i, i < 7 → M 106 i = gF S i
def ModI (M : Mem) (S : St) : Prop := SMr (M 164) (gS S) ∧ IMm M (gI S) ∧ LsI (M 163 8) (M 170) (gR S) ∧ LsI (M 163 7) (M 169) (gT S) ∧ ∀ i, i < 7 → M 168 i = gF S i
/-- the class's rows that hold the state -/
def CF (M M' : Mem) : Prop := ∀ i, (i ≤ 20 ∨ i = 97 ∨ i = 98 ∨ i = 102 ∨ i = 103 ∨ i = 106 ∨ 163 ≤ i) → M' i = M i
theorem CF.rf {M : Mem} : CF M M := fun _ _ => rfl
theorem CF.tr {A B C : Mem} (h : CF A B) (g : CF B C) : CF A C := fun i hi => (g i hi).trans (h i hi)
theorem FRr.cf {A B : Mem} (h : FRr A B) : CF A B := fun i hi => h i (by omega)
theorem IMc.fr {M M' : Mem} {x : Option Sc} (h : IMc M x) (h0 : M' 0 = M 0) (h1 : ∀ i, 11 ≤ i → i < 21 → M' i = M i) : IMc M' x := by
  match x, h with
  | none, h => show M' 0 9 = 0; rw [h0]; exact h
  | some ι, ⟨a, b⟩ => exact ⟨by rw [h0]; exact a, b.fr (fun i h2 h3 => h1 i h2 (by omega))⟩
theorem ClsI.cf {M M' : Mem} {S : St} (h : ClsI M S) (hf : CF M M') : ClsI M' S := by
  obtain ⟨h1, h2, h3, h4, h5⟩ := h
  refine ⟨h1.fr (fun i a b => hf i (by omega)), h2.fr (hf 0 (by omega)) (fun i a b => hf i (by omega)), ?_, ?_, fun i hi => ?_⟩
  · rw [hf 102 (by omega), hf 103 (by omega)]; exact h3
  · rw [hf 97 (by omega), hf 98 (by omega)]; exact h4
  · rw [hf 106 (by omega)]; exact h5 i hi
/-- the reference's rows that hold the state, and the class's -/
def MK (M M' : Mem) : Prop := (∀ i, (i < 163 ∨ i = 164 ∨ i = 165 ∨ i = 168 ∨ i = 169 ∨ i = 170) → M' i = M i) ∧ M' 163 7 = M 163 7 ∧ M' 163 8 = M 163 8 ∧ M' 163 12 = M 163 12
theorem MK.rf {M : Mem} : MK M M := ⟨fun _ _ => rfl, rfl, rfl, rfl⟩
theorem MK.tr {A B C : Mem} (h : MK A B) (g : MK B C) : MK A C := ⟨fun i hi => (g.1 i hi).trans (h.1 i hi), g.2.1.trans h.2.1, g.2.2.1.trans h.2.2.1, g.2.2.2.trans h.2.2.2⟩
theorem FRm.mk {A B : Mem} (h : FRm 0 A B) : MK A B := ⟨fun i hi => h.1 i (by omega), h.2.1 7 (by decide) (by decide) (by decide), h.2.1 8 (by decide) (by decide) (by decide), h.2.1 12 (by decide) (by decide) (by decide)⟩
theorem IMm.fr {M M' : Mem} {x : Option Sc} (h : IMm M x) (h0 : M' 163 12 = M 163 12) (h1 : M' 165 = M 165) : IMm M' x := by
  match x, h with
  | none, h => show M' 163 12 = 0; rw [h0]; exact h
  | some ι, ⟨a, b⟩ => exact ⟨by rw [h0]; exact a, by rw [h1]; exact b⟩
theorem ModI.mk {M M' : Mem} {S : St} (h : ModI M S) (hf : MK M M') : ModI M' S := by
  obtain ⟨h1, h2, h3, h4, h5⟩ := h
  obtain ⟨f1, f2, f3, f4⟩ := hf
  refine ⟨?_, h2.fr f4 (f1 165 (by omega)), ?_, ?_, fun i hi => ?_⟩
  · rw [f1 164 (by omega)]; exact h1
  · rw [f3, f1 170 (by omega)]; exact h3
  · rw [f2, f1 169 (by omega)]; exact h4
  · rw [f1 168 (by omega)]; exact h5 i hi
def F7 (M M' : Mem) : Prop := ∀ i, 163 ≤ i → M' i = M i
def F8 (M M' : Mem) : Prop := ∀ i, i < 163 → M' i = M i
theorem F7.tr {A B C : Mem} (h : F7 A B) (g : F7 B C) : F7 A C := fun i hi => (g i hi).trans (h i hi)
theorem F8.tr {A B C : Mem} (h : F8 A B) (g : F8 B C) : F8 A C := fun i hi => (g i hi).trans (h i hi)
theorem CF.f7 {A B : Mem} (h : CF A B) : F7 A B := fun i hi => h i (by omega)
theorem MK.f8 {A B : Mem} (h : MK A B) : F8 A B := fun i hi => h.1 i (by omega)
theorem ClsI.f8 {M M' : Mem} {S : St} (h : ClsI M S) (hf : F8 M M') : ClsI M' S := by
  obtain ⟨h1, h2, h3, h4, h5⟩ := h
  refine ⟨h1.fr (fun i a b => hf i (by omega)), h2.fr (hf 0 (by omega)) (fun i a b => hf i (by omega)), ?_, ?_, fun i hi => ?_⟩
  · rw [hf 102 (by omega), hf 103 (by omega)]; exact h3
  · rw [hf 97 (by omega), hf 98 (by omega)]; exact h4
  · rw [hf 106 (by omega)]; exact h5 i hi
theorem ModI.f7 {M M' : Mem} {S : St} (h : ModI M S) (hf : F7 M M') : ModI M' S := by
  obtain ⟨h1, h2, h3, h4, h5⟩ := h
  refine ⟨?_, h2.fr (by rw [hf 163 (by omega)]) (hf 165 (by omega)), ?_, ?_, fun i hi => ?_⟩
  · rw [hf 164 (by omega)]; exact h1
  · rw [hf 163 (by omega), hf 170 (by omega)]; exact h3
  · rw [hf 163 (by omega), hf 169 (by omega)]; exact h4
  · rw [hf 168 (by omega)]; exact h5 i hi
/-- what a call does, on each side -/
def R7 {α : Type} (S : St) (X : Mem → Option (α × Mem)) (a : α) (S' : St) : Prop := ∀ M, ClsI M S → ∃ M', X M = some (a, M') ∧ ClsI M' S' ∧ F7 M M'
def R8 {α : Type} (S : St) (X : Mem → Option (α × Mem)) (a : α) (S' : St) : Prop := ∀ M, ModI M S → ∃ M', X M = some (a, M') ∧ ModI M' S' ∧ F8 M M'
def SAME {α : Type} (S : St) (X Y : Mem → Option (α × Mem)) : Prop := ∃ a S', R7 S X a S' ∧ R8 S Y a S' ∧ WFS S'
theorem SAME.use {α : Type} {S : St} {X Y : Mem → Option (α × Mem)} (h : SAME S X Y) {M : Mem} (h7 : ClsI M S) (h8 : ModI M S) : ∃ a S' M1 M2, X M = some (a, M1) ∧ Y M1 = some (a, M2) ∧ ClsI M2 S' ∧ ModI M2 S' ∧ WFS S' := by
  obtain ⟨a, S', r7, r8, w⟩ := h
  obtain ⟨M1, e1, c1, f1⟩ := r7 M h7
  obtain ⟨M2, e2, c2, f2⟩ := r8 M1 (h8.f7 f1)
  exact ⟨a, S', M1, M2, e1, e2, c1.f8 f2, c2, w⟩
def bump (S : St) (c : Nat) : St := (gS S, gI S, gR S, gT S, fup (gF S) c (gF S c + 1))
theorem bump_F (S : St) (c i : Nat) : gF (bump S c) i = if i = c then gF S c + 1 else gF S i := rfl
theorem X7_refuse {S : St} {M : Mem} {x : Int32} {c : Nat} (hx : -x = nI c) (hc : c < 7) (h : ClsI M S) : ∃ M', f_X7_refuse M x = some (x, M') ∧ ClsI M' (bump S c) ∧ F7 M M' := by
  unfold f_X7_refuse
  rw [hx, rd_nI hc (by decide), Option.bind_some, wra_nI hc (by decide), Option.bind_some]
  obtain ⟨h1, h2, h3, h4, h5⟩ := h
  refine ⟨_, rfl, ⟨h1.fr (fun i a b => wr_ne (by omega)), h2.fr (wr_ne (by decide)) (fun i a b => wr_ne (by omega)), ?_, ?_, fun i hi => ?_⟩, fun i hi => wr_ne (by omega)⟩
  · rw [wr_ne (by decide), wr_ne (by decide)]; exact h3
  · rw [wr_ne (by decide), wr_ne (by decide)]; exact h4
  · rw [wr_ap, bump_F]
    by_cases hi2 : i = c
    · subst hi2; simp [h5 i hi]
    · simp [hi2, h5 i hi]
theorem X8_no {S : St} {M : Mem} {x : Int32} {c : Nat} (hx : -x = nI c) (hc : c < 7) (h : ModI M S) : ∃ M', f_X8_no M x = some (x, M') ∧ ModI M' (bump S c) ∧ F8 M M' := by
  unfold f_X8_no
  rw [hx, rd_nI (by omega) (by decide), Option.bind_some, wra_nI (by omega) (by decide), Option.bind_some]
  obtain ⟨h1, h2, h3, h4, h5⟩ := h
  refine ⟨_, rfl, ⟨?_, h2.fr (by rw [wr_ne (by decide)]) (wr_ne (by decide)), ?_, ?_, fun i hi => ?_⟩, fun i hi => wr_ne (by omega)⟩
  · rw [wr_ne (by decide)]; exact h1
  · rw [wr_ne (by decide), wr_ne (by decide)]; exact h3
  · rw [wr_ne (by decide), wr_ne (by decide)]; exact h4
  · rw [wr_ap, bump_F]
    by_cases hi2 : i = c
    · subst hi2; simp [h5 i hi]
    · simp [hi2, h5 i hi]
theorem WFS.bump {S : St} (h : WFS S) (c : Nat) : WFS (bump S c) := h
theorem neg1 : -(-1 : Int32) = nI 1 := by decide
theorem neg2 : -(-2 : Int32) = nI 2 := by decide
theorem neg3 : -(-3 : Int32) = nI 3 := by decide
theorem neg4 : -(-4 : Int32) = nI 4 := by decide
theorem neg6 : -(-6 : Int32) = nI 6 := by decide
/-- an argument: in its range, or not -/
theorem argc (x : Int32) (n : Nat) (hn : n < 2 ^ 31) : (∃ i, i < n ∧ x = nI i) ∨ (x < 0 ∨ ¬ x < nI n) := by
  by_cases h0 : x < 0
  · exact Or.inr (Or.inl h0)
  · by_cases h1 : x < nI n
    · exact Or.inl (small_of hn h0 h1)
    · exact Or.inr (Or.inr h1)
theorem X8_isIn {M : Mem} {i n : Nat} (h : i < n) (hn : n < 2 ^ 31) : f_X8_isIn M (nI i) 0 (nI (n - 1)) = some (1, M) := by
  unfold f_X8_isIn
  rw [if_neg (nI_pos (by omega)), if_neg (nI_nlt (by omega) (by omega))]; rfl
theorem X8_isIn' {M : Mem} {x : Int32} {n : Nat} (h : x < 0 ∨ ¬ x < nI n) (h0 : 0 < n) (hn : n < 2 ^ 31) : f_X8_isIn M x 0 (nI (n - 1)) = some (0, M) := by
  unfold f_X8_isIn
  by_cases hx : x < 0
  · rw [if_pos hx]; rfl
  · have h1 := h.resolve_left hx
    obtain ⟨i, hi, rfl⟩ := nI_of hx
    rw [if_neg hx, if_pos (nI_lt (by
      by_cases hh : i < n
      · exact absurd (nI_lt hh hn) h1
      · omega) hi)]; rfl
theorem X8_isLayer {M : Mem} {l : Nat} (h : l < 6) : f_X8_isLayer M (nI l) = some (1, M) := by
  unfold f_X8_isLayer
  have : f_X8_isIn M (nI l) 0 5 = some (1, M) := X8_isIn (n := 6) h (by decide)
  rw [this]; rfl
theorem X8_isLayer' {M : Mem} {x : Int32} (h : x < 0 ∨ ¬ x < 6) : f_X8_isLayer M x = some (0, M) := by
  unfold f_X8_isLayer
  have : f_X8_isIn M x 0 5 = some (0, M) := X8_isIn' (n := 6) h (by decide) (by decide)
  rw [this]; rfl
theorem X8_isKey {M : Mem} {l : Nat} (h : l < 8) : f_X8_isKey M (nI l) = some (1, M) := by
  unfold f_X8_isKey
  have : f_X8_isIn M (nI l) 0 7 = some (1, M) := X8_isIn (n := 8) h (by decide)
  rw [this]; rfl
theorem X8_isKey' {M : Mem} {x : Int32} (h : x < 0 ∨ ¬ x < 8) : f_X8_isKey M x = some (0, M) := by
  unfold f_X8_isKey
  have : f_X8_isIn M x 0 7 = some (0, M) := X8_isIn' (n := 8) h (by decide) (by decide)
  rw [this]; rfl
