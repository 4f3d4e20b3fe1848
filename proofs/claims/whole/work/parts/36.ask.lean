/-- faults told in an Outcome -/
def FLo (M : Mem) (o : Nat) (fs : Flt) : Prop := M o 0 = 2 ∧ M o 5 = nI fs.length ∧ ∀ i f, fs[i]? = some f → M (o + 4) i = f.1 ∧ M (o + 5) i = nI f.2
def RSo (M : Mem) (o : Nat) : Rs → Prop
  | .inl fs => FLo M o fs
  | .inr (v, s, d) => OV M o v ∧ M o 11 = s ∧ M o 12 = d
def usI (σ : Sc) (k : Nat) : Int32 := nI (askS σ k).2.2 &&& (bitI k ^^^ (-1))
/-- what asking leaves in the first level -/
def OUT (M : Mem) (σ : Sc) (k : Nat) : Prop := RSo M 34 (askS σ k).1 ∧ GA M 34 (offS σ k) ∧ M 34 13 = usI σ k
theorem X2_ask {M : Mem} {s k : Nat} {σ : Sc} (hs : okS s) (hw : WFs σ) (hk : k < 8) (h : SCr M s σ) : ∃ M', f_X2_ask M s (nI k) = some M' ∧ FRr M M' ∧ OUT M' σ k ∧ (askS σ k).2.2 < 256 := by
  unfold f_X2_ask
  rw [wrf_eq, Option.bind_some, wrf_eq, Option.bind_some, wrf_eq, Option.bind_some, wrf_eq, Option.bind_some]
  generalize hA : wr (wr (wr (wr M 31 0 (Int32.ofNat s)) 31 1 0) 31 2 0) 31 3 0 = A
  have ar : ∀ i, i ≠ 31 → A i = M i := fun i hi => by rw [← hA]; simp only [wr_ne hi]
  have hos := okS_lt hs
  have hR : RS A s σ [] (0, 0) := by
    refine ⟨?_, h.fr (fun i h1 h2 => ar i (by omega)), ?_, ?_, ?_, fun i x hx => by simp at hx, by decide, by decide⟩
    · rw [← hA]; simp [wr_ap]; rfl
    · rw [← hA]; simp [wr_ap]; rfl
    · rw [← hA]; simp [wr_ap]; rfl
    · rw [← hA]; simp [wr_ap]; rfl
  obtain ⟨r, M', e1, -, e3, e4⟩ := X2_resolve hs hw 12 [] rfl (fun x hx => by simp at hx) List.nodup_nil k (0, 0) A hk hR
  have e1' : f_X2_resolve 12 A (nI k) 0 = some (r, M') := e1
  rw [e1', Option.bind_some]
  have h9 : rdO 9 34 0 = some 34 := by decide
  rw [h9, Option.bind_some, wrf_eq, Option.bind_some, Option.bind_some]
  dsimp only
  have hask : askS σ k = resS σ 12 k [] (0, 0) := rfl
  have w : ∀ i, i ≠ 34 → wr M' 34 13 (M' 31 3 &&& (1 <<< (nI k &&& 31) ^^^ -1)) i = M' i := fun i hi => wr_ne hi
  have w34 : ∀ j, j ≠ 13 → wr M' 34 13 (M' 31 3 &&& (1 <<< (nI k &&& 31) ^^^ -1)) 34 j = M' 34 j := fun j hj => by rw [wr_ap, if_neg (by omega)]
  have hfr : ∀ {B : Mem}, FRr A B → FRr M (wr B 34 13 (B 31 3 &&& (1 <<< (nI k &&& 31) ^^^ -1))) := fun hB i hi => by
    rw [wr_ne (by omega), hB i hi, ar i (by omega)]
  refine ⟨_, rfl, ?_⟩
  rcases hx : resS σ 12 k [] (0, 0) with ⟨fs | ⟨v, sr, d⟩, cu'⟩
  · rw [hx] at e3
    obtain ⟨-, ⟨q1, q2, q3⟩, q4, q5, q6⟩ := e3
    have hG := e4 rfl (by decide) (by rw [hx]; rfl)
    refine ⟨hfr q6, ⟨?_, hG.fr (w34 8 (by decide)) (w34 9 (by decide)) (w 40 (by decide)), ?_⟩, by rw [hask, hx]; exact q5⟩
    · rw [hask, hx]
      exact ⟨by rw [w34 0 (by decide)]; exact q1, by rw [w34 5 (by decide)]; exact q2, fun i f hf => by rw [w 38 (by decide), w 39 (by decide)]; exact q3 i f hf⟩
    · rw [wr_ap, if_pos ⟨rfl, rfl⟩, q4]
      unfold usI
      rw [hask, hx]
  · rw [hx] at e3
    obtain ⟨-, q2, q3, q4, q5, q6, q7⟩ := e3
    have hv : OV (wr M' 34 13 (M' 31 3 &&& (1 <<< (nI k &&& 31) ^^^ -1))) 34 v := by
      match v, q3 with
      | .inl x, ⟨y1, y2⟩ => exact ⟨by rw [w34 0 (by decide)]; exact y1, by rw [w34 1 (by decide)]; exact y2⟩
      | .inr is, ⟨y1, y2, y3, y4⟩ => exact ⟨by rw [w34 0 (by decide)]; exact y1, by rw [w34 1 (by decide)]; exact y2, y3, fun j x hx => by rw [w 35 (by decide), w 36 (by decide), w 37 (by decide)]; exact y4 j x hx⟩
    refine ⟨hfr q2.r, ⟨?_, q6.fr (w34 8 (by decide)) (w34 9 (by decide)) (w 40 (by decide)), ?_⟩, by rw [hask, hx]; exact q7.2.2.2.2.2.2.2⟩
    · rw [hask, hx]
      exact ⟨hv, by rw [w34 11 (by decide)]; exact q4, by rw [w34 12 (by decide)]; exact q5⟩
    · rw [wr_ap, if_pos ⟨rfl, rfl⟩, q7.2.2.2.2.1]
      unfold usI
      rw [hask, hx]
