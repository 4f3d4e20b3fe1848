/-! SettingsInLayersModel.no(I)I -/
noncomputable def f_X8_no (M : Mem) (l1 : Int32) : Option (Int32 × Mem) :=
    Option.bind (rd 8 (M 168) (-l1)) fun v1 =>
    Option.bind (wra 8 M 168 (-l1) (v1 + 1)) fun M2 =>
    some (l1, M2)
set_option maxRecDepth 20000 in
theorem m_X8_no {k : KT} {q : Int32 × Mem} (hk : CX k cX8_no RX8 2 (some .int) 1) (hq : RI k q) (M : Mem) (l1 : Int32)  : GG k q (wM k M) 0 [(0, .ref (kh k + 163)), (1, .int l1)] [] (f_X8_no M l1) := by
  unfold f_X8_no
  refine GG_aload_n hk (pc' := 1) 0 dX8_no_0 rfl rfl rfl ?_
  refine GG_get hk LC8 4 (v := .ref (kh k + 168)) (pc' := 4) tw_846 rfl rfl (by decide) rfl dX8_no_1 rfl ?_
  refine GG_iload_n hk (pc' := 5) 1 dX8_no_4 rfl rfl rfl ?_
  refine GG_ineg hk (pc' := 6) dX8_no_5 rfl ?_
  refine GG_dup2 hk (pc' := 7) dX8_no_6 rfl rfl rfl ?_
  refine GG_iald hk (pc' := 8) rfl rfl dX8_no_7 rfl (fun v1 e_v1 => ?_)
  refine GG_iconst hk (pc' := 9) 1 dX8_no_8 rfl rfl ?_
  refine GG_iadd hk (pc' := 10) dX8_no_9 rfl ?_
  refine GG_iast hk (pc' := 11) rfl rfl dX8_no_10 rfl (fun M2 e_M2 => ?_)
  refine GG_iload_n hk (pc' := 12) 1 dX8_no_11 rfl rfl rfl ?_
  exact GG_iret hk hq dX8_no_12
theorem c_X8_no (l : Launch) (C : DD) (a : Nat) (M : Mem) (l1 : Int32)  : CI l C (a) yX8_no cX8_no 2 .int 1 [.ref (a + 163), .int l1] M (f_X8_no M l1) := by
  refine CI_of RX8 (by decide +kernel) rfl (Nat.le_of_ble_eq_true rfl) (fun k q hk hq e1 e2 e3 => ?_)
  subst e1; subst e2; subst e3
  exact m_X8_no hk hq M l1 

/-! SettingsInLayersModel.noLong(I)J -/
noncomputable def f_X8_noLong (M : Mem) (l1 : Int32) : Option (Int64 × Mem) :=
    Option.bind (f_X8_no M l1) fun z1 =>
    some ((4000000000000000000 - (Int32.toInt64 z1.1)), z1.2)
set_option maxRecDepth 20000 in
theorem m_X8_noLong {k : KT} {q : Int64 × Mem} (hk : CX k cX8_noLong RX8 2 (some .long) 2) (hq : RL_ k q) (M : Mem) (l1 : Int32)  : GG k q (wM k M) 0 [(0, .ref (kh k + 163)), (1, .int l1)] [] (f_X8_noLong M l1) := by
  unfold f_X8_noLong
  refine GG_ldc2 hk (pc' := 3) (v := 4000000000000000000) tw_1195 dX8_noLong_0 rfl ?_
  refine GG_aload_n hk (pc' := 4) 0 dX8_noLong_3 rfl rfl rfl ?_
  refine GG_iload_n hk (pc' := 5) 1 dX8_noLong_4 rfl rfl rfl ?_
  refine GG_callVi hk (st := [.long 4000000000000000000]) (pc' := 8) mf_X8_no mv_X8_no LC8 rfl (c_X8_no _ _ _ M l1 ) (by omega) tw_938 rfl rfl rfl (Nat.le_of_ble_eq_true rfl) dX8_noLong_5 rfl (fun z1 e_z1 => ?_)
  refine GG_i2l hk (pc' := 9) dX8_noLong_8 rfl ?_
  refine GG_lsub hk (pc' := 10) dX8_noLong_9 rfl ?_
  exact GG_lret hk hq dX8_noLong_10
theorem c_X8_noLong (l : Launch) (C : DD) (a : Nat) (M : Mem) (l1 : Int32)  : CL l C (a) yX8_noLong cX8_noLong 2 2 [.ref (a + 163), .int l1] M (f_X8_noLong M l1) := by
  refine CL_of RX8 (by decide +kernel) rfl (Nat.le_of_ble_eq_true rfl) (fun k q hk hq e1 e2 e3 => ?_)
  subst e1; subst e2; subst e3
  exact m_X8_noLong hk hq M l1 

/-! SettingsInLayersModel.isIn(III)Z -/
noncomputable def f_X8_isIn (M : Mem) (l0 : Int32) (l1 : Int32) (l2 : Int32) : Option (Int32 × Mem) :=
    if l0 < l1 then
      bret 0 M
    else
      if l2 < l0 then
        bret 0 M
      else
        bret 1 M
set_option maxRecDepth 20000 in
theorem m_X8_isIn {k : KT} {q : Int32 × Mem} (hk : CX k cX8_isIn RX8 3 (some .boolean) 1) (hq : RI k q) (M : Mem) (l0 : Int32) (l1 : Int32) (l2 : Int32)  : GG k q (wM k M) 0 [(0, .int l0), (1, .int l1), (2, .int l2)] [] (f_X8_isIn M l0 l1 l2) := by
  unfold f_X8_isIn
  refine GG_iload_n hk (pc' := 1) 0 dX8_isIn_0 rfl rfl rfl ?_
  refine GG_iload_n hk (pc' := 2) 1 dX8_isIn_1 rfl rfl rfl ?_
  refine GG_icmp_lt hk 14 (pc' := 5) dX8_isIn_2 rfl (by decide) (fun c1 => ?_) (fun c1 => ?_)
  · refine GG_iconst hk (pc' := 15) 0 dX8_isIn_14 rfl rfl ?_
    exact GG_zret hk hq dX8_isIn_15
  · refine GG_iload_n hk (pc' := 6) 0 dX8_isIn_5 rfl rfl rfl ?_
    refine GG_iload_n hk (pc' := 7) 2 dX8_isIn_6 rfl rfl rfl ?_
    refine GG_icmp_gt hk 14 (pc' := 10) dX8_isIn_7 rfl (by decide) (fun c2 => ?_) (fun c2 => ?_)
    · refine GG_iconst hk (pc' := 15) 0 dX8_isIn_14 rfl rfl ?_
      exact GG_zret hk hq dX8_isIn_15
    · refine GG_iconst hk (pc' := 11) 1 dX8_isIn_10 rfl rfl ?_
      refine GG_goto hk 15 dX8_isIn_11 (by decide) ?_
      exact GG_zret hk hq dX8_isIn_15
theorem c_X8_isIn (l : Launch) (C : DD) (a : Nat) (M : Mem) (l0 : Int32) (l1 : Int32) (l2 : Int32)  : CI l C (a) yX8_isIn cX8_isIn 3 .boolean 1 [.int l0, .int l1, .int l2] M (f_X8_isIn M l0 l1 l2) := by
  refine CI_of RX8 (by decide +kernel) rfl (Nat.le_of_ble_eq_true rfl) (fun k q hk hq e1 e2 e3 => ?_)
  subst e1; subst e2; subst e3
  exact m_X8_isIn hk hq M l0 l1 l2 

/-! SettingsInLayersModel.isLayer(I)Z -/
noncomputable def f_X8_isLayer (M : Mem) (l0 : Int32) : Option (Int32 × Mem) :=
    Option.bind (f_X8_isIn M l0 0 5) fun z1 =>
    bret z1.1 z1.2
set_option maxRecDepth 20000 in
theorem m_X8_isLayer {k : KT} {q : Int32 × Mem} (hk : CX k cX8_isLayer RX8 1 (some .boolean) 2) (hq : RI k q) (M : Mem) (l0 : Int32)  : GG k q (wM k M) 0 [(0, .int l0)] [] (f_X8_isLayer M l0) := by
  unfold f_X8_isLayer
  refine GG_iload_n hk (pc' := 1) 0 dX8_isLayer_0 rfl rfl rfl ?_
  refine GG_iconst hk (pc' := 2) 0 dX8_isLayer_1 rfl rfl ?_
  refine GG_iconst hk (pc' := 3) 5 dX8_isLayer_2 rfl rfl ?_
  refine GG_callSi hk (st := []) (pc' := 6) mf_X8_isIn tw_936 (c_X8_isIn _ _ _ M l0 0 5 ) (by omega) tw_935 rfl rfl (Nat.le_of_ble_eq_true rfl) dX8_isLayer_3 rfl (fun z1 e_z1 => ?_)
  exact GG_zret hk hq dX8_isLayer_6
theorem c_X8_isLayer (l : Launch) (C : DD) (a : Nat) (M : Mem) (l0 : Int32)  : CI l C (a) yX8_isLayer cX8_isLayer 1 .boolean 2 [.int l0] M (f_X8_isLayer M l0) := by
  refine CI_of RX8 (by decide +kernel) rfl (Nat.le_of_ble_eq_true rfl) (fun k q hk hq e1 e2 e3 => ?_)
  subst e1; subst e2; subst e3
  exact m_X8_isLayer hk hq M l0 

/-! SettingsInLayersModel.isKey(I)Z -/
noncomputable def f_X8_isKey (M : Mem) (l0 : Int32) : Option (Int32 × Mem) :=
    Option.bind (f_X8_isIn M l0 0 7) fun z1 =>
    bret z1.1 z1.2
set_option maxRecDepth 20000 in
theorem m_X8_isKey {k : KT} {q : Int32 × Mem} (hk : CX k cX8_isKey RX8 1 (some .boolean) 2) (hq : RI k q) (M : Mem) (l0 : Int32)  : GG k q (wM k M) 0 [(0, .int l0)] [] (f_X8_isKey M l0) := by
  unfold f_X8_isKey
  refine GG_iload_n hk (pc' := 1) 0 dX8_isKey_0 rfl rfl rfl ?_
  refine GG_iconst hk (pc' := 2) 0 dX8_isKey_1 rfl rfl ?_
  refine GG_bipush hk (pc' := 4) 7 dX8_isKey_2 rfl rfl ?_
  refine GG_callSi hk (st := []) (pc' := 7) mf_X8_isIn tw_936 (c_X8_isIn _ _ _ M l0 0 7 ) (by omega) tw_935 rfl rfl (Nat.le_of_ble_eq_true rfl) dX8_isKey_4 rfl (fun z1 e_z1 => ?_)
  exact GG_zret hk hq dX8_isKey_7
theorem c_X8_isKey (l : Launch) (C : DD) (a : Nat) (M : Mem) (l0 : Int32)  : CI l C (a) yX8_isKey cX8_isKey 1 .boolean 2 [.int l0] M (f_X8_isKey M l0) := by
  refine CI_of RX8 (by decide +kernel) rfl (Nat.le_of_ble_eq_true rfl) (fun k q hk hq e1 e2 e3 => ?_)
  subst e1; subst e2; subst e3
  exact m_X8_isKey hk hq M l0 

/-! SettingsInLayersModel.copies([I[I)V -/
noncomputable def f_X8_copies_2  : Nat → Mem → Nat → Nat → Int32 → Option Mem
  | 0, _, _, _, _ => none
  | n + 1, M, l0, l1, l2 =>
    if 640 ≤ l2 then
      some M
    else
      Option.bind (rd (ln l0) (M l0) l2) fun v2 =>
      Option.bind (wra (ln l1) M l1 l2 v2) fun M3 =>
      f_X8_copies_2  n M3 l0 l1 (l2 + 1)
set_option maxRecDepth 20000 in
theorem m_X8_copies_2 {k : KT} {q : Mem} (hk : CX k cX8_copies RX8 3 none 1) (hq : RV k q) : ∀ (n : Nat) (M : Mem) (l0 : Nat) (l1 : Nat) (l2 : Int32) (h_l0 : kd l0 = 11) (h_l1 : kd l1 = 11), GG k q (wM k M) 2 [(0, .ref (kh k + l0)), (1, .ref (kh k + l1)), (2, .int l2)] [] (f_X8_copies_2  n M l0 l1 l2) := by
  intro n
  induction n with
  | zero => intros; exact GG_none
  | succ n ih =>
    intro M l0 l1 l2 h_l0 h_l1
    rw [f_X8_copies_2]
    refine GG_iload_n hk (pc' := 3) 2 dX8_copies_2 rfl rfl rfl ?_
    refine GG_sipush hk (pc' := 6) 640 dX8_copies_3 rfl rfl ?_
    refine GG_icmp_ge hk 21 (pc' := 9) dX8_copies_6 rfl (by decide) (fun c1 => ?_) (fun c1 => ?_)
    · exact GG_vret hk hq dX8_copies_21
    · refine GG_aload_n hk (pc' := 10) 1 dX8_copies_9 rfl rfl rfl ?_
      refine GG_iload_n hk (pc' := 11) 2 dX8_copies_10 rfl rfl rfl ?_
      refine GG_aload_n hk (pc' := 12) 0 dX8_copies_11 rfl rfl rfl ?_
      refine GG_iload_n hk (pc' := 13) 2 dX8_copies_12 rfl rfl rfl ?_
      refine GG_iald hk (pc' := 14) h_l0 rfl dX8_copies_13 rfl (fun v2 e_v2 => ?_)
      refine GG_iast hk (pc' := 15) h_l1 rfl dX8_copies_14 rfl (fun M3 e_M3 => ?_)
      refine GG_iinc hk (pc' := 18) 2 (l2 + 1) [(2, .int (l2 + 1)), (0, .ref (kh k + l0)), (1, .ref (kh k + l1))] dX8_copies_15 rfl rfl rfl (by decide) rfl ?_
      refine GG_goto hk 2 dX8_copies_18 (by decide) ?_
      refine GG_sub (L' := [(0, .ref (kh k + l0)), (1, .ref (kh k + l1)), (2, .int (l2 + 1))]) [1, 2, 0] rfl ?_
      exact ih M3 l0 l1 (l2 + 1) h_l0 h_l1
noncomputable def f_X8_copies (M : Mem) (l0 : Nat) (l1 : Nat) : Option Mem :=
    f_X8_copies_2  1000 M l0 l1 0
set_option maxRecDepth 20000 in
theorem m_X8_copies {k : KT} {q : Mem} (hk : CX k cX8_copies RX8 3 none 1) (hq : RV k q) (M : Mem) (l0 : Nat) (l1 : Nat) (h_l0 : kd l0 = 11) (h_l1 : kd l1 = 11) : GG k q (wM k M) 0 [(0, .ref (kh k + l0)), (1, .ref (kh k + l1))] [] (f_X8_copies M l0 l1) := by
  unfold f_X8_copies
  refine GG_iconst hk (pc' := 1) 0 dX8_copies_0 rfl rfl ?_
  refine GG_istore_n hk (pc' := 2) [(2, .int 0), (0, .ref (kh k + l0)), (1, .ref (kh k + l1))] dX8_copies_1 rfl rfl (by decide) rfl ?_
  refine GG_sub (L' := [(0, .ref (kh k + l0)), (1, .ref (kh k + l1)), (2, .int 0)]) [1, 2, 0] rfl ?_
  exact m_X8_copies_2 hk hq  1000 M l0 l1 0 h_l0 h_l1
theorem c_X8_copies (l : Launch) (C : DD) (a : Nat) (M : Mem) (l0 : Nat) (l1 : Nat) (h_l0 : kd l0 = 11) (h_l1 : kd l1 = 11) : CV l C (a) yX8_copies cX8_copies 3 1 [.ref (a + l0), .ref (a + l1)] M (f_X8_copies M l0 l1) := by
  refine CV_of RX8 (by decide +kernel) rfl (Nat.le_of_ble_eq_true rfl) (fun k q hk hq e1 e2 e3 => ?_)
  subst e1; subst e2; subst e3
  exact m_X8_copies hk hq M l0 l1 h_l0 h_l1

/-! SettingsInLayersModel.entryAt(II)I -/
noncomputable def f_X8_entryAt (M : Mem) (l0 : Int32) (l1 : Int32) : Option (Int32 × Mem) :=
    some ((30 + (12 * ((8 * l0) + l1))), M)
set_option maxRecDepth 20000 in
theorem m_X8_entryAt {k : KT} {q : Int32 × Mem} (hk : CX k cX8_entryAt RX8 2 (some .int) 1) (hq : RI k q) (M : Mem) (l0 : Int32) (l1 : Int32)  : GG k q (wM k M) 0 [(0, .int l0), (1, .int l1)] [] (f_X8_entryAt M l0 l1) := by
  unfold f_X8_entryAt
  refine GG_bipush hk (pc' := 2) 30 dX8_entryAt_0 rfl rfl ?_
  refine GG_bipush hk (pc' := 4) 12 dX8_entryAt_2 rfl rfl ?_
  refine GG_bipush hk (pc' := 6) 8 dX8_entryAt_4 rfl rfl ?_
  refine GG_iload_n hk (pc' := 7) 0 dX8_entryAt_6 rfl rfl rfl ?_
  refine GG_imul hk (pc' := 8) dX8_entryAt_7 rfl ?_
  refine GG_iload_n hk (pc' := 9) 1 dX8_entryAt_8 rfl rfl rfl ?_
  refine GG_iadd hk (pc' := 10) dX8_entryAt_9 rfl ?_
  refine GG_imul hk (pc' := 11) dX8_entryAt_10 rfl ?_
  refine GG_iadd hk (pc' := 12) dX8_entryAt_11 rfl ?_
  exact GG_iret hk hq dX8_entryAt_12
theorem c_X8_entryAt (l : Launch) (C : DD) (a : Nat) (M : Mem) (l0 : Int32) (l1 : Int32)  : CI l C (a) yX8_entryAt cX8_entryAt 2 .int 1 [.int l0, .int l1] M (f_X8_entryAt M l0 l1) := by
  refine CI_of RX8 (by decide +kernel) rfl (Nat.le_of_ble_eq_true rfl) (fun k q hk hq e1 e2 e3 => ?_)
  subst e1; subst e2; subst e3
  exact m_X8_entryAt hk hq M l0 l1 

/-! SettingsInLayersModel.has(II)Z -/
noncomputable def f_X8_has (M : Mem) (l1 : Int32) (l2 : Int32) : Option (Int32 × Mem) :=
    Option.bind (f_X8_entryAt M l1 l2) fun z1 =>
    Option.bind (rd 640 (z1.2 164) (z1.1 + 0)) fun v2 =>
    if v2 = (-9) then
      bret 0 z1.2
    else
      bret 1 z1.2
set_option maxRecDepth 20000 in
theorem m_X8_has {k : KT} {q : Int32 × Mem} (hk : CX k cX8_has RX8 3 (some .boolean) 2) (hq : RI k q) (M : Mem) (l1 : Int32) (l2 : Int32)  : GG k q (wM k M) 0 [(0, .ref (kh k + 163)), (1, .int l1), (2, .int l2)] [] (f_X8_has M l1 l2) := by
  unfold f_X8_has
  refine GG_aload_n hk (pc' := 1) 0 dX8_has_0 rfl rfl rfl ?_
  refine GG_get hk LC8 0 (v := .ref (kh k + 164)) (pc' := 4) tw_842 rfl rfl (by decide) rfl dX8_has_1 rfl ?_
  refine GG_iload_n hk (pc' := 5) 1 dX8_has_4 rfl rfl rfl ?_
  refine GG_iload_n hk (pc' := 6) 2 dX8_has_5 rfl rfl rfl ?_
  refine GG_callSi hk (st := [.ref (kh k + 164)]) (pc' := 9) mf_X8_entryAt tw_962 (c_X8_entryAt _ _ _ M l1 l2 ) (by omega) tw_961 rfl rfl (Nat.le_of_ble_eq_true rfl) dX8_has_6 rfl (fun z1 e_z1 => ?_)
  refine GG_iconst hk (pc' := 10) 0 dX8_has_9 rfl rfl ?_
  refine GG_iadd hk (pc' := 11) dX8_has_10 rfl ?_
  refine GG_iald hk (pc' := 12) rfl rfl dX8_has_11 rfl (fun v2 e_v2 => ?_)
  refine GG_bipush hk (pc' := 14) (-9) dX8_has_12 rfl rfl ?_
  refine GG_icmp_eq hk 21 (pc' := 17) dX8_has_14 rfl (by decide) (fun c3 => ?_) (fun c3 => ?_)
  · refine GG_iconst hk (pc' := 22) 0 dX8_has_21 rfl rfl ?_
    exact GG_zret hk hq dX8_has_22
  · refine GG_iconst hk (pc' := 18) 1 dX8_has_17 rfl rfl ?_
    refine GG_goto hk 22 dX8_has_18 (by decide) ?_
    exact GG_zret hk hq dX8_has_22
theorem c_X8_has (l : Launch) (C : DD) (a : Nat) (M : Mem) (l1 : Int32) (l2 : Int32)  : CI l C (a) yX8_has cX8_has 3 .boolean 2 [.ref (a + 163), .int l1, .int l2] M (f_X8_has M l1 l2) := by
  refine CI_of RX8 (by decide +kernel) rfl (Nat.le_of_ble_eq_true rfl) (fun k q hk hq e1 e2 e3 => ?_)
  subst e1; subst e2; subst e3
  exact m_X8_has hk hq M l1 l2 

/-! SettingsInLayersModel.rank(I)I -/
noncomputable def f_X8_rank_43  (M : Mem) (l3 : Int32) (t0 : Int32) : Option (Int32 × Mem) :=
    some ((t0 + (10 + l3)), M)
set_option maxRecDepth 20000 in
theorem m_X8_rank_43 {k : KT} {q : Int32 × Mem} (hk : CX k cX8_rank RX8 4 (some .int) 1) (hq : RI k q) (M : Mem) (l3 : Int32) (t0 : Int32)  : GG k q (wM k M) 43 [(3, .int l3)] [.int t0] (f_X8_rank_43  M l3 t0) := by
  unfold f_X8_rank_43
  refine GG_bipush hk (pc' := 45) 10 dX8_rank_43 rfl rfl ?_
  refine GG_iload_n hk (pc' := 46) 0 dX8_rank_45 rfl rfl rfl ?_
  refine GG_iadd hk (pc' := 47) dX8_rank_46 rfl ?_
  refine GG_goto hk 71 dX8_rank_47 (by decide) ?_
  refine GG_iadd hk (pc' := 72) dX8_rank_71 rfl ?_
  exact GG_iret hk hq dX8_rank_72
noncomputable def f_X8_rank (M : Mem) (l1 : Int32) : Option (Int32 × Mem) :=
    Option.bind (rd 640 (M 164) ((3 * l1) + 1)) fun v1 =>
    Option.bind (rd 640 (M 164) ((3 * l1) + 2)) fun v2 =>
    if ¬ v1 = 1 then
      if v1 = 2 then
        f_X8_rank_43  M v2 l1
      else
        if ¬ v1 = 5 then
          if ¬ v1 = 3 then
            if ¬ v1 = 4 then
              some ((l1 + 0), M)
            else
              some ((l1 + (-20)), M)
          else
            some ((l1 + 110), M)
        else
          f_X8_rank_43  M v2 l1
    else
      some ((l1 + 10), M)
set_option maxRecDepth 20000 in
theorem m_X8_rank {k : KT} {q : Int32 × Mem} (hk : CX k cX8_rank RX8 4 (some .int) 1) (hq : RI k q) (M : Mem) (l1 : Int32)  : GG k q (wM k M) 0 [(0, .ref (kh k + 163)), (1, .int l1)] [] (f_X8_rank M l1) := by
  unfold f_X8_rank
  refine GG_aload_n hk (pc' := 1) 0 dX8_rank_0 rfl rfl rfl ?_
  refine GG_get hk LC8 0 (v := .ref (kh k + 164)) (pc' := 4) tw_842 rfl rfl (by decide) rfl dX8_rank_1 rfl ?_
  refine GG_iconst hk (pc' := 5) 3 dX8_rank_4 rfl rfl ?_
  refine GG_iload_n hk (pc' := 6) 1 dX8_rank_5 rfl rfl rfl ?_
  refine GG_imul hk (pc' := 7) dX8_rank_6 rfl ?_
  refine GG_iconst hk (pc' := 8) 1 dX8_rank_7 rfl rfl ?_
  refine GG_iadd hk (pc' := 9) dX8_rank_8 rfl ?_
  refine GG_iald hk (pc' := 10) rfl rfl dX8_rank_9 rfl (fun v1 e_v1 => ?_)
  refine GG_istore_n hk (pc' := 11) [(2, .int v1), (0, .ref (kh k + 163)), (1, .int l1)] dX8_rank_10 rfl rfl (by decide) rfl ?_
  refine GG_aload_n hk (pc' := 12) 1 dX8_rank_11 rfl rfl rfl ?_
  refine GG_get hk LC8 0 (v := .ref (kh k + 164)) (pc' := 15) tw_842 rfl rfl (by decide) rfl dX8_rank_12 rfl ?_
  refine GG_iconst hk (pc' := 16) 3 dX8_rank_15 rfl rfl ?_
  refine GG_iload_n hk (pc' := 17) 2 dX8_rank_16 rfl rfl rfl ?_
  refine GG_imul hk (pc' := 18) dX8_rank_17 rfl ?_
  refine GG_iconst hk (pc' := 19) 2 dX8_rank_18 rfl rfl ?_
  refine GG_iadd hk (pc' := 20) dX8_rank_19 rfl ?_
  refine GG_iald hk (pc' := 21) rfl rfl dX8_rank_20 rfl (fun v2 e_v2 => ?_)
  refine GG_istore_n hk (pc' := 22) [(3, .int v2), (2, .int v1), (0, .ref (kh k + 163)), (1, .int l1)] dX8_rank_21 rfl rfl (by decide) rfl ?_
  refine GG_iload_n hk (pc' := 23) 3 dX8_rank_22 rfl rfl rfl ?_
  refine GG_iload_n hk (pc' := 24) 1 dX8_rank_23 rfl rfl rfl ?_
  refine GG_iconst hk (pc' := 25) 1 dX8_rank_24 rfl rfl ?_
  refine GG_icmp_ne hk 33 (pc' := 28) dX8_rank_25 rfl (by decide) (fun c3 => ?_) (fun c3 => ?_)
  · refine GG_iload_n hk (pc' := 34) 1 dX8_rank_33 rfl rfl rfl ?_
    refine GG_iconst hk (pc' := 35) 2 dX8_rank_34 rfl rfl ?_
    refine GG_icmp_eq hk 43 (pc' := 38) dX8_rank_35 rfl (by decide) (fun c4 => ?_) (fun c4 => ?_)
    · refine GG_sub (L' := [(3, .int v2)]) [0] rfl ?_
      exact m_X8_rank_43 hk hq  M v2 l1 
    · refine GG_iload_n hk (pc' := 39) 1 dX8_rank_38 rfl rfl rfl ?_
      refine GG_iconst hk (pc' := 40) 5 dX8_rank_39 rfl rfl ?_
      refine GG_icmp_ne hk 50 (pc' := 43) dX8_rank_40 rfl (by decide) (fun c5 => ?_) (fun c5 => ?_)
      · refine GG_iload_n hk (pc' := 51) 1 dX8_rank_50 rfl rfl rfl ?_
        refine GG_iconst hk (pc' := 52) 3 dX8_rank_51 rfl rfl ?_
        refine GG_icmp_ne hk 60 (pc' := 55) dX8_rank_52 rfl (by decide) (fun c6 => ?_) (fun c6 => ?_)
        · refine GG_iload_n hk (pc' := 61) 1 dX8_rank_60 rfl rfl rfl ?_
          refine GG_iconst hk (pc' := 62) 4 dX8_rank_61 rfl rfl ?_
          refine GG_icmp_ne hk 70 (pc' := 65) dX8_rank_62 rfl (by decide) (fun c7 => ?_) (fun c7 => ?_)
          · refine GG_iconst hk (pc' := 71) 0 dX8_rank_70 rfl rfl ?_
            refine GG_iadd hk (pc' := 72) dX8_rank_71 rfl ?_
            exact GG_iret hk hq dX8_rank_72
          · refine GG_bipush hk (pc' := 67) (-20) dX8_rank_65 rfl rfl ?_
            refine GG_goto hk 71 dX8_rank_67 (by decide) ?_
            refine GG_iadd hk (pc' := 72) dX8_rank_71 rfl ?_
            exact GG_iret hk hq dX8_rank_72
        · refine GG_bipush hk (pc' := 57) 110 dX8_rank_55 rfl rfl ?_
          refine GG_goto hk 71 dX8_rank_57 (by decide) ?_
          refine GG_iadd hk (pc' := 72) dX8_rank_71 rfl ?_
          exact GG_iret hk hq dX8_rank_72
      · refine GG_sub (L' := [(3, .int v2)]) [0] rfl ?_
        exact m_X8_rank_43 hk hq  M v2 l1 
  · refine GG_bipush hk (pc' := 30) 10 dX8_rank_28 rfl rfl ?_
    refine GG_goto hk 71 dX8_rank_30 (by decide) ?_
    refine GG_iadd hk (pc' := 72) dX8_rank_71 rfl ?_
    exact GG_iret hk hq dX8_rank_72
theorem c_X8_rank (l : Launch) (C : DD) (a : Nat) (M : Mem) (l1 : Int32)  : CI l C (a) yX8_rank cX8_rank 4 .int 1 [.ref (a + 163), .int l1] M (f_X8_rank M l1) := by
  refine CI_of RX8 (by decide +kernel) rfl (Nat.le_of_ble_eq_true rfl) (fun k q hk hq e1 e2 e3 => ?_)
  subst e1; subst e2; subst e3
  exact m_X8_rank hk hq M l1 

/-! SettingsInLayersModel.isBehind(II)Z -/
noncomputable def f_X8_isBehind (M : Mem) (l1 : Int32) (l2 : Int32) : Option (Int32 × Mem) :=
    Option.bind (f_X8_rank M l1) fun z1 =>
    Option.bind (f_X8_rank z1.2 l2) fun z2 =>
    if z2.1 < z1.1 then
      bret 1 z2.2
    else
      Option.bind (f_X8_rank z2.2 l1) fun z4 =>
      Option.bind (f_X8_rank z4.2 l2) fun z5 =>
      if ¬ z4.1 = z5.1 then
        bret 0 z5.2
      else
        if l1 ≤ l2 then
          bret 0 z5.2
        else
          bret 1 z5.2
set_option maxRecDepth 20000 in
theorem m_X8_isBehind {k : KT} {q : Int32 × Mem} (hk : CX k cX8_isBehind RX8 3 (some .boolean) 2) (hq : RI k q) (M : Mem) (l1 : Int32) (l2 : Int32)  : GG k q (wM k M) 0 [(0, .ref (kh k + 163)), (1, .int l1), (2, .int l2)] [] (f_X8_isBehind M l1 l2) := by
  unfold f_X8_isBehind
  refine GG_aload_n hk (pc' := 1) 0 dX8_isBehind_0 rfl rfl rfl ?_
  refine GG_iload_n hk (pc' := 2) 1 dX8_isBehind_1 rfl rfl rfl ?_
  refine GG_callVi hk (st := []) (pc' := 5) mf_X8_rank mv_X8_rank LC8 rfl (c_X8_rank _ _ _ M l1 ) (by omega) tw_1039 rfl rfl rfl (Nat.le_of_ble_eq_true rfl) dX8_isBehind_2 rfl (fun z1 e_z1 => ?_)
  refine GG_aload_n hk (pc' := 6) 0 dX8_isBehind_5 rfl rfl rfl ?_
  refine GG_iload_n hk (pc' := 7) 2 dX8_isBehind_6 rfl rfl rfl ?_
  refine GG_callVi hk (st := [.int z1.1]) (pc' := 10) mf_X8_rank mv_X8_rank LC8 rfl (c_X8_rank _ _ _ z1.2 l2 ) (by omega) tw_1039 rfl rfl rfl (Nat.le_of_ble_eq_true rfl) dX8_isBehind_7 rfl (fun z2 e_z2 => ?_)
  refine GG_icmp_gt hk 31 (pc' := 13) dX8_isBehind_10 rfl (by decide) (fun c3 => ?_) (fun c3 => ?_)
  · refine GG_iconst hk (pc' := 32) 1 dX8_isBehind_31 rfl rfl ?_
    refine GG_goto hk 36 dX8_isBehind_32 (by decide) ?_
    exact GG_zret hk hq dX8_isBehind_36
  · refine GG_aload_n hk (pc' := 14) 0 dX8_isBehind_13 rfl rfl rfl ?_
    refine GG_iload_n hk (pc' := 15) 1 dX8_isBehind_14 rfl rfl rfl ?_
    refine GG_callVi hk (st := []) (pc' := 18) mf_X8_rank mv_X8_rank LC8 rfl (c_X8_rank _ _ _ z2.2 l1 ) (by omega) tw_1039 rfl rfl rfl (Nat.le_of_ble_eq_true rfl) dX8_isBehind_15 rfl (fun z4 e_z4 => ?_)
    refine GG_aload_n hk (pc' := 19) 0 dX8_isBehind_18 rfl rfl rfl ?_
    refine GG_iload_n hk (pc' := 20) 2 dX8_isBehind_19 rfl rfl rfl ?_
    refine GG_callVi hk (st := [.int z4.1]) (pc' := 23) mf_X8_rank mv_X8_rank LC8 rfl (c_X8_rank _ _ _ z4.2 l2 ) (by omega) tw_1039 rfl rfl rfl (Nat.le_of_ble_eq_true rfl) dX8_isBehind_20 rfl (fun z5 e_z5 => ?_)
    refine GG_icmp_ne hk 35 (pc' := 26) dX8_isBehind_23 rfl (by decide) (fun c6 => ?_) (fun c6 => ?_)
    · refine GG_iconst hk (pc' := 36) 0 dX8_isBehind_35 rfl rfl ?_
      exact GG_zret hk hq dX8_isBehind_36
    · refine GG_iload_n hk (pc' := 27) 1 dX8_isBehind_26 rfl rfl rfl ?_
      refine GG_iload_n hk (pc' := 28) 2 dX8_isBehind_27 rfl rfl rfl ?_
      refine GG_icmp_le hk 35 (pc' := 31) dX8_isBehind_28 rfl (by decide) (fun c7 => ?_) (fun c7 => ?_)
      · refine GG_iconst hk (pc' := 36) 0 dX8_isBehind_35 rfl rfl ?_
        exact GG_zret hk hq dX8_isBehind_36
      · refine GG_iconst hk (pc' := 32) 1 dX8_isBehind_31 rfl rfl ?_
        refine GG_goto hk 36 dX8_isBehind_32 (by decide) ?_
        exact GG_zret hk hq dX8_isBehind_36
theorem c_X8_isBehind (l : Launch) (C : DD) (a : Nat) (M : Mem) (l1 : Int32) (l2 : Int32)  : CI l C (a) yX8_isBehind cX8_isBehind 3 .boolean 2 [.ref (a + 163), .int l1, .int l2] M (f_X8_isBehind M l1 l2) := by
  refine CI_of RX8 (by decide +kernel) rfl (Nat.le_of_ble_eq_true rfl) (fun k q hk hq e1 e2 e3 => ?_)
  subst e1; subst e2; subst e3
  exact m_X8_isBehind hk hq M l1 l2 

/-! SettingsInLayersModel.counts(II)Z -/
noncomputable def f_X8_counts_114 (rs : Mem → Int32 → Int32 → Option (Int32 × Mem)) (k46 : Mem → Int32 → Int32 → Int32 → Option (Int32 × Mem)) (M : Mem) (l1 : Int32) (l2 : Int32) (l4 : Int32) (t0 : Int32) : Option (Int32 × Mem) :=
    if t0 = 0 then
      k46 M l1 l2 (l4 + 1)
    else
      Option.bind (rs M l4 l2) fun z2 =>
      if z2.1 = 0 then
        k46 z2.2 l1 l2 (l4 + 1)
      else
        bret 0 z2.2
set_option maxRecDepth 20000 in
theorem m_X8_counts_114 {k : KT} {q : Int32 × Mem} (rs : Mem → Int32 → Int32 → Option (Int32 × Mem)) (hr : Nat) (hb : 10 ≤ hr) (hrs : ∀ (M : Mem) (x0 : Int32) (x1 : Int32), CI (kl k) (kC k) (kh k) yX8_counts cX8_counts 6 .boolean hr [.ref (kh k + 163), .int x0, .int x1] M (rs M x0 x1)) (hk : CX k cX8_counts RX8 6 (some .boolean) (hr + 10)) (hq : RI k q) (k46 : Mem → Int32 → Int32 → Int32 → Option (Int32 × Mem)) (hk46 : ∀ (M : Mem) (l1 : Int32) (l2 : Int32) (l4 : Int32) , GG k q (wM k M) 46 [(0, .ref (kh k + 163)), (1, .int l1), (2, .int l2), (4, .int l4)] [] (k46 M l1 l2 l4)) (M : Mem) (l1 : Int32) (l2 : Int32) (l4 : Int32) (t0 : Int32)  : GG k q (wM k M) 114 [(0, .ref (kh k + 163)), (1, .int l1), (2, .int l2), (4, .int l4)] [.int t0] (f_X8_counts_114 rs k46 M l1 l2 l4 t0) := by
  unfold f_X8_counts_114
  refine GG_istore hk (pc' := 116) [(5, .int t0), (0, .ref (kh k + 163)), (1, .int l1), (2, .int l2), (4, .int l4)] dX8_counts_114 rfl (by decide) rfl ?_
  refine GG_iload hk (pc' := 118) 0 dX8_counts_116 rfl rfl ?_
  refine GG_if_eq hk 133 (pc' := 121) dX8_counts_118 rfl (by decide) (fun c1 => ?_) (fun c1 => ?_)
  · refine GG_iinc hk (pc' := 136) 4 (l4 + 1) [(4, .int (l4 + 1)), (5, .int t0), (0, .ref (kh k + 163)), (1, .int l1), (2, .int l2)] dX8_counts_133 rfl rfl rfl (by decide) rfl ?_
    refine GG_goto hk 46 dX8_counts_136 (by decide) ?_
    refine GG_sub (L' := [(0, .ref (kh k + 163)), (1, .int l1), (2, .int l2), (4, .int (l4 + 1))]) [2, 3, 4, 0] rfl ?_
    exact hk46 M l1 l2 (l4 + 1) 
  · refine GG_aload_n hk (pc' := 122) 1 dX8_counts_121 rfl rfl rfl ?_
    refine GG_iload hk (pc' := 124) 4 dX8_counts_122 rfl rfl ?_
    refine GG_iload_n hk (pc' := 125) 3 dX8_counts_124 rfl rfl rfl ?_
    refine GG_callVi hk (st := []) (pc' := 128) mf_X8_counts mv_X8_counts LC8 rfl (hrs M l4 l2) (by omega) tw_1063 rfl rfl rfl (Nat.le_of_ble_eq_true rfl) dX8_counts_125 rfl (fun z2 e_z2 => ?_)
    refine GG_if_eq hk 133 (pc' := 131) dX8_counts_128 rfl (by decide) (fun c3 => ?_) (fun c3 => ?_)
    · refine GG_iinc hk (pc' := 136) 4 (l4 + 1) [(4, .int (l4 + 1)), (5, .int t0), (0, .ref (kh k + 163)), (1, .int l1), (2, .int l2)] dX8_counts_133 rfl rfl rfl (by decide) rfl ?_
      refine GG_goto hk 46 dX8_counts_136 (by decide) ?_
      refine GG_sub (L' := [(0, .ref (kh k + 163)), (1, .int l1), (2, .int l2), (4, .int (l4 + 1))]) [2, 3, 4, 0] rfl ?_
      exact hk46 z2.2 l1 l2 (l4 + 1) 
    · refine GG_iconst hk (pc' := 132) 0 dX8_counts_131 rfl rfl ?_
      exact GG_zret hk hq dX8_counts_132
noncomputable def f_X8_counts_113 (rs : Mem → Int32 → Int32 → Option (Int32 × Mem)) (k46 : Mem → Int32 → Int32 → Int32 → Option (Int32 × Mem)) (M : Mem) (l1 : Int32) (l2 : Int32) (l4 : Int32) : Option (Int32 × Mem) :=
    f_X8_counts_114 rs k46 M l1 l2 l4 0
set_option maxRecDepth 20000 in
theorem m_X8_counts_113 {k : KT} {q : Int32 × Mem} (rs : Mem → Int32 → Int32 → Option (Int32 × Mem)) (hr : Nat) (hb : 10 ≤ hr) (hrs : ∀ (M : Mem) (x0 : Int32) (x1 : Int32), CI (kl k) (kC k) (kh k) yX8_counts cX8_counts 6 .boolean hr [.ref (kh k + 163), .int x0, .int x1] M (rs M x0 x1)) (hk : CX k cX8_counts RX8 6 (some .boolean) (hr + 10)) (hq : RI k q) (k46 : Mem → Int32 → Int32 → Int32 → Option (Int32 × Mem)) (hk46 : ∀ (M : Mem) (l1 : Int32) (l2 : Int32) (l4 : Int32) , GG k q (wM k M) 46 [(0, .ref (kh k + 163)), (1, .int l1), (2, .int l2), (4, .int l4)] [] (k46 M l1 l2 l4)) (M : Mem) (l1 : Int32) (l2 : Int32) (l4 : Int32)  : GG k q (wM k M) 113 [(0, .ref (kh k + 163)), (1, .int l1), (2, .int l2), (4, .int l4)] [] (f_X8_counts_113 rs k46 M l1 l2 l4) := by
  unfold f_X8_counts_113
  refine GG_iconst hk (pc' := 114) 0 dX8_counts_113 rfl rfl ?_
  exact m_X8_counts_114 rs hr hb hrs hk hq k46 hk46 M l1 l2 l4 0 
noncomputable def f_X8_counts_46 (rs : Mem → Int32 → Int32 → Option (Int32 × Mem)) : Nat → Mem → Int32 → Int32 → Int32 → Option (Int32 × Mem)
  | 0, _, _, _, _ => none
  | n + 1, M, l1, l2, l4 =>
    if 6 ≤ l4 then
      bret 1 M
    else
      Option.bind (f_X8_rank M l4) fun z2 =>
      Option.bind (f_X8_rank z2.2 l1) fun z3 =>
      if z2.1 ≤ z3.1 then
        f_X8_counts_113 rs (f_X8_counts_46 rs  n) z3.2 l1 l2 l4
      else
        Option.bind (rd 640 (z3.2 164) ((3 * l4) + 0)) fun v5 =>
        if ¬ v5 = 1 then
          f_X8_counts_113 rs (f_X8_counts_46 rs  n) z3.2 l1 l2 l4
        else
          Option.bind (f_X8_has z3.2 l4 l2) fun z7 =>
          if z7.1 = 0 then
            f_X8_counts_113 rs (f_X8_counts_46 rs  n) z7.2 l1 l2 l4
          else
            Option.bind (f_X8_entryAt z7.2 l4 l2) fun z9 =>
            Option.bind (rd 640 (z9.2 164) (z9.1 + 0)) fun v10 =>
            if v10 = 4 then
              f_X8_counts_113 rs (f_X8_counts_46 rs  n) z9.2 l1 l2 l4
            else
              f_X8_counts_114 rs (f_X8_counts_46 rs  n) z9.2 l1 l2 l4 1
set_option maxRecDepth 20000 in
theorem m_X8_counts_46 {k : KT} {q : Int32 × Mem} (rs : Mem → Int32 → Int32 → Option (Int32 × Mem)) (hr : Nat) (hb : 10 ≤ hr) (hrs : ∀ (M : Mem) (x0 : Int32) (x1 : Int32), CI (kl k) (kC k) (kh k) yX8_counts cX8_counts 6 .boolean hr [.ref (kh k + 163), .int x0, .int x1] M (rs M x0 x1)) (hk : CX k cX8_counts RX8 6 (some .boolean) (hr + 10)) (hq : RI k q) : ∀ (n : Nat) (M : Mem) (l1 : Int32) (l2 : Int32) (l4 : Int32) , GG k q (wM k M) 46 [(0, .ref (kh k + 163)), (1, .int l1), (2, .int l2), (4, .int l4)] [] (f_X8_counts_46 rs  n M l1 l2 l4) := by
  intro n
  induction n with
  | zero => intros; exact GG_none
  | succ n ih =>
    intro M l1 l2 l4 
    rw [f_X8_counts_46]
    refine GG_iload hk (pc' := 48) 3 dX8_counts_46 rfl rfl ?_
    refine GG_bipush hk (pc' := 50) 6 dX8_counts_48 rfl rfl ?_
    refine GG_icmp_ge hk 139 (pc' := 53) dX8_counts_50 rfl (by decide) (fun c1 => ?_) (fun c1 => ?_)
    · refine GG_iconst hk (pc' := 140) 1 dX8_counts_139 rfl rfl ?_
      exact GG_zret hk hq dX8_counts_140
    · refine GG_aload_n hk (pc' := 54) 0 dX8_counts_53 rfl rfl rfl ?_
      refine GG_iload hk (pc' := 56) 3 dX8_counts_54 rfl rfl ?_
      refine GG_callVi hk (st := []) (pc' := 59) mf_X8_rank mv_X8_rank LC8 rfl (c_X8_rank _ _ _ M l4 ) (by omega) tw_1039 rfl rfl rfl (Nat.le_of_ble_eq_true rfl) dX8_counts_56 rfl (fun z2 e_z2 => ?_)
      refine GG_aload_n hk (pc' := 60) 0 dX8_counts_59 rfl rfl rfl ?_
      refine GG_iload_n hk (pc' := 61) 1 dX8_counts_60 rfl rfl rfl ?_
      refine GG_callVi hk (st := [.int z2.1]) (pc' := 64) mf_X8_rank mv_X8_rank LC8 rfl (c_X8_rank _ _ _ z2.2 l1 ) (by omega) tw_1039 rfl rfl rfl (Nat.le_of_ble_eq_true rfl) dX8_counts_61 rfl (fun z3 e_z3 => ?_)
      refine GG_icmp_le hk 113 (pc' := 67) dX8_counts_64 rfl (by decide) (fun c4 => ?_) (fun c4 => ?_)
      · exact m_X8_counts_113 rs hr hb hrs hk hq (f_X8_counts_46 rs  n) ih z3.2 l1 l2 l4 
      · refine GG_aload_n hk (pc' := 68) 0 dX8_counts_67 rfl rfl rfl ?_
        refine GG_get hk LC8 0 (v := .ref (kh k + 164)) (pc' := 71) tw_842 rfl rfl (by decide) rfl dX8_counts_68 rfl ?_
        refine GG_iconst hk (pc' := 72) 3 dX8_counts_71 rfl rfl ?_
        refine GG_iload hk (pc' := 74) 3 dX8_counts_72 rfl rfl ?_
        refine GG_imul hk (pc' := 75) dX8_counts_74 rfl ?_
        refine GG_iconst hk (pc' := 76) 0 dX8_counts_75 rfl rfl ?_
        refine GG_iadd hk (pc' := 77) dX8_counts_76 rfl ?_
        refine GG_iald hk (pc' := 78) rfl rfl dX8_counts_77 rfl (fun v5 e_v5 => ?_)
        refine GG_iconst hk (pc' := 79) 1 dX8_counts_78 rfl rfl ?_
        refine GG_icmp_ne hk 113 (pc' := 82) dX8_counts_79 rfl (by decide) (fun c6 => ?_) (fun c6 => ?_)
        · exact m_X8_counts_113 rs hr hb hrs hk hq (f_X8_counts_46 rs  n) ih z3.2 l1 l2 l4 
        · refine GG_aload_n hk (pc' := 83) 0 dX8_counts_82 rfl rfl rfl ?_
          refine GG_iload hk (pc' := 85) 3 dX8_counts_83 rfl rfl ?_
          refine GG_iload_n hk (pc' := 86) 2 dX8_counts_85 rfl rfl rfl ?_
          refine GG_callVi hk (st := []) (pc' := 89) mf_X8_has mv_X8_has LC8 rfl (c_X8_has _ _ _ z3.2 l4 l2 ) (by omega) tw_968 rfl rfl rfl (Nat.le_of_ble_eq_true rfl) dX8_counts_86 rfl (fun z7 e_z7 => ?_)
          refine GG_if_eq hk 113 (pc' := 92) dX8_counts_89 rfl (by decide) (fun c8 => ?_) (fun c8 => ?_)
          · exact m_X8_counts_113 rs hr hb hrs hk hq (f_X8_counts_46 rs  n) ih z7.2 l1 l2 l4 
          · refine GG_aload_n hk (pc' := 93) 0 dX8_counts_92 rfl rfl rfl ?_
            refine GG_get hk LC8 0 (v := .ref (kh k + 164)) (pc' := 96) tw_842 rfl rfl (by decide) rfl dX8_counts_93 rfl ?_
            refine GG_iload hk (pc' := 98) 3 dX8_counts_96 rfl rfl ?_
            refine GG_iload_n hk (pc' := 99) 2 dX8_counts_98 rfl rfl rfl ?_
            refine GG_callSi hk (st := [.ref (kh k + 164)]) (pc' := 102) mf_X8_entryAt tw_962 (c_X8_entryAt _ _ _ z7.2 l4 l2 ) (by omega) tw_961 rfl rfl (Nat.le_of_ble_eq_true rfl) dX8_counts_99 rfl (fun z9 e_z9 => ?_)
            refine GG_iconst hk (pc' := 103) 0 dX8_counts_102 rfl rfl ?_
            refine GG_iadd hk (pc' := 104) dX8_counts_103 rfl ?_
            refine GG_iald hk (pc' := 105) rfl rfl dX8_counts_104 rfl (fun v10 e_v10 => ?_)
            refine GG_iconst hk (pc' := 106) 4 dX8_counts_105 rfl rfl ?_
            refine GG_icmp_eq hk 113 (pc' := 109) dX8_counts_106 rfl (by decide) (fun c11 => ?_) (fun c11 => ?_)
            · exact m_X8_counts_113 rs hr hb hrs hk hq (f_X8_counts_46 rs  n) ih z9.2 l1 l2 l4 
            · refine GG_iconst hk (pc' := 110) 1 dX8_counts_109 rfl rfl ?_
              refine GG_goto hk 114 dX8_counts_110 (by decide) ?_
              exact m_X8_counts_114 rs hr hb hrs hk hq (f_X8_counts_46 rs  n) ih z9.2 l1 l2 l4 1 
noncomputable def f_X8_counts_b (rs : Mem → Int32 → Int32 → Option (Int32 × Mem)) (M : Mem) (l1 : Int32) (l2 : Int32) : Option (Int32 × Mem) :=
    Option.bind (rd 640 (M 164) ((3 * l1) + 1)) fun v1 =>
    if ¬ v1 = 5 then
      if v1 = 4 then
        f_X8_counts_46 rs  1000 M l1 l2 0
      else
        bret 1 M
    else
      Option.bind (rd 640 (M 164) ((3 * l1) + 2)) fun v4 =>
      if v4 < l2 then
        bret 0 M
      else
        bret 1 M
noncomputable def f_X8_counts : Nat → Mem → Int32 → Int32 → Option (Int32 × Mem)
  | 0 => fun _ _ _ => none
  | n + 1 => fun M l1 l2 => f_X8_counts_b (f_X8_counts n) M l1 l2
set_option maxRecDepth 20000 in
theorem m_X8_counts {k : KT} {q : Int32 × Mem} (rs : Mem → Int32 → Int32 → Option (Int32 × Mem)) (hr : Nat) (hb : 10 ≤ hr) (hrs : ∀ (M : Mem) (x0 : Int32) (x1 : Int32), CI (kl k) (kC k) (kh k) yX8_counts cX8_counts 6 .boolean hr [.ref (kh k + 163), .int x0, .int x1] M (rs M x0 x1)) (hk : CX k cX8_counts RX8 6 (some .boolean) (hr + 10)) (hq : RI k q) (M : Mem) (l1 : Int32) (l2 : Int32)  : GG k q (wM k M) 0 [(0, .ref (kh k + 163)), (1, .int l1), (2, .int l2)] [] (f_X8_counts_b rs M l1 l2) := by
  unfold f_X8_counts_b
  refine GG_aload_n hk (pc' := 1) 0 dX8_counts_0 rfl rfl rfl ?_
  refine GG_get hk LC8 0 (v := .ref (kh k + 164)) (pc' := 4) tw_842 rfl rfl (by decide) rfl dX8_counts_1 rfl ?_
  refine GG_iconst hk (pc' := 5) 3 dX8_counts_4 rfl rfl ?_
  refine GG_iload_n hk (pc' := 6) 1 dX8_counts_5 rfl rfl rfl ?_
  refine GG_imul hk (pc' := 7) dX8_counts_6 rfl ?_
  refine GG_iconst hk (pc' := 8) 1 dX8_counts_7 rfl rfl ?_
  refine GG_iadd hk (pc' := 9) dX8_counts_8 rfl ?_
  refine GG_iald hk (pc' := 10) rfl rfl dX8_counts_9 rfl (fun v1 e_v1 => ?_)
  refine GG_istore_n hk (pc' := 11) [(3, .int v1), (0, .ref (kh k + 163)), (1, .int l1), (2, .int l2)] dX8_counts_10 rfl rfl (by decide) rfl ?_
  refine GG_iload_n hk (pc' := 12) 0 dX8_counts_11 rfl rfl rfl ?_
  refine GG_iconst hk (pc' := 13) 5 dX8_counts_12 rfl rfl ?_
  refine GG_icmp_ne hk 36 (pc' := 16) dX8_counts_13 rfl (by decide) (fun c2 => ?_) (fun c2 => ?_)
  · refine GG_iload_n hk (pc' := 37) 0 dX8_counts_36 rfl rfl rfl ?_
    refine GG_iconst hk (pc' := 38) 4 dX8_counts_37 rfl rfl ?_
    refine GG_icmp_eq hk 43 (pc' := 41) dX8_counts_38 rfl (by decide) (fun c3 => ?_) (fun c3 => ?_)
    · refine GG_iconst hk (pc' := 44) 0 dX8_counts_43 rfl rfl ?_
      refine GG_istore hk (pc' := 46) [(4, .int 0), (3, .int v1), (0, .ref (kh k + 163)), (1, .int l1), (2, .int l2)] dX8_counts_44 rfl (by decide) rfl ?_
      refine GG_sub (L' := [(0, .ref (kh k + 163)), (1, .int l1), (2, .int l2), (4, .int 0)]) [2, 3, 4, 0] rfl ?_
      exact m_X8_counts_46 rs hr hb hrs hk hq  1000 M l1 l2 0 
    · refine GG_iconst hk (pc' := 42) 1 dX8_counts_41 rfl rfl ?_
      exact GG_zret hk hq dX8_counts_42
  · refine GG_iload_n hk (pc' := 17) 3 dX8_counts_16 rfl rfl rfl ?_
    refine GG_aload_n hk (pc' := 18) 1 dX8_counts_17 rfl rfl rfl ?_
    refine GG_get hk LC8 0 (v := .ref (kh k + 164)) (pc' := 21) tw_842 rfl rfl (by decide) rfl dX8_counts_18 rfl ?_
    refine GG_iconst hk (pc' := 22) 3 dX8_counts_21 rfl rfl ?_
    refine GG_iload_n hk (pc' := 23) 2 dX8_counts_22 rfl rfl rfl ?_
    refine GG_imul hk (pc' := 24) dX8_counts_23 rfl ?_
    refine GG_iconst hk (pc' := 25) 2 dX8_counts_24 rfl rfl ?_
    refine GG_iadd hk (pc' := 26) dX8_counts_25 rfl ?_
    refine GG_iald hk (pc' := 27) rfl rfl dX8_counts_26 rfl (fun v4 e_v4 => ?_)
    refine GG_icmp_gt hk 34 (pc' := 30) dX8_counts_27 rfl (by decide) (fun c5 => ?_) (fun c5 => ?_)
    · refine GG_iconst hk (pc' := 35) 0 dX8_counts_34 rfl rfl ?_
      exact GG_zret hk hq dX8_counts_35
    · refine GG_iconst hk (pc' := 31) 1 dX8_counts_30 rfl rfl ?_
      refine GG_goto hk 35 dX8_counts_31 (by decide) ?_
      exact GG_zret hk hq dX8_counts_35
theorem hx_X8_counts {k : KT} {n : Nat} (hk : CX k cX8_counts RX8 6 (some .boolean) (10 * (n + 1) + 10)) : CX k cX8_counts RX8 6 (some .boolean) (10 * n + 10 + 10) := by
  have e : 10 * (n + 1) + 10 = 10 * n + 10 + 10 := by omega
  rw [e] at hk
  exact hk
theorem c_X8_counts (l : Launch) (C : DD) (a : Nat) : ∀ (n : Nat) (M : Mem) (l1 : Int32) (l2 : Int32), CI l C (a) yX8_counts cX8_counts 6 .boolean (10 * n + 10) [.ref (a + 163), .int l1, .int l2] M (f_X8_counts n M l1 l2) := by
  intro n
  induction n with
  | zero => intro M l1 l2 q e; exact absurd e (fun e => nomatch e)
  | succ n ih =>
    intro M l1 l2
    refine CI_of RX8 (by decide +kernel) rfl (Nat.le_of_ble_eq_true rfl) (fun k q hk hq e1 e2 e3 => ?_)
    subst e1; subst e2; subst e3
    exact m_X8_counts (f_X8_counts n) (10 * n + 10) (by omega) ih (hx_X8_counts hk) hq M l1 l2

/-! SettingsInLayersModel.ordered(I)I -/
noncomputable def f_X8_ordered_44  (k2 : Mem → Int32 → Int32 → Option (Int32 × Mem)) (M : Mem) (l1 : Int32) (l2 : Int32) (l3 : Int32) : Option (Int32 × Mem) :=
    if ¬ l3 = l1 then
      k2 M l1 (l2 + 1)
    else
      some (l2, M)
set_option maxRecDepth 20000 in
theorem m_X8_ordered_44 {k : KT} {q : Int32 × Mem} (hk : CX k cX8_ordered RX8 5 (some .int) 3) (hq : RI k q) (k2 : Mem → Int32 → Int32 → Option (Int32 × Mem)) (hk2 : ∀ (M : Mem) (l1 : Int32) (l2 : Int32) , GG k q (wM k M) 2 [(0, .ref (kh k + 163)), (1, .int l1), (2, .int l2)] [] (k2 M l1 l2)) (M : Mem) (l1 : Int32) (l2 : Int32) (l3 : Int32)  : GG k q (wM k M) 44 [(0, .ref (kh k + 163)), (1, .int l1), (2, .int l2), (3, .int l3)] [] (f_X8_ordered_44 k2 M l1 l2 l3) := by
  unfold f_X8_ordered_44
  refine GG_iload_n hk (pc' := 45) 3 dX8_ordered_44 rfl rfl rfl ?_
  refine GG_iload_n hk (pc' := 46) 1 dX8_ordered_45 rfl rfl rfl ?_
  refine GG_icmp_ne hk 51 (pc' := 49) dX8_ordered_46 rfl (by decide) (fun c1 => ?_) (fun c1 => ?_)
  · refine GG_iinc hk (pc' := 54) 2 (l2 + 1) [(2, .int (l2 + 1)), (0, .ref (kh k + 163)), (1, .int l1), (3, .int l3)] dX8_ordered_51 rfl rfl rfl (by decide) rfl ?_
    refine GG_goto hk 2 dX8_ordered_54 (by decide) ?_
    refine GG_sub (L' := [(0, .ref (kh k + 163)), (1, .int l1), (2, .int (l2 + 1))]) [1, 2, 0] rfl ?_
    exact hk2 M l1 (l2 + 1) 
  · refine GG_iload_n hk (pc' := 50) 2 dX8_ordered_49 rfl rfl rfl ?_
    exact GG_iret hk hq dX8_ordered_50
noncomputable def f_X8_ordered_13  (k2 : Mem → Int32 → Int32 → Option (Int32 × Mem)) : Nat → Mem → Int32 → Int32 → Int32 → Int32 → Option (Int32 × Mem)
  | 0, _, _, _, _, _ => none
  | n + 1, M, l1, l2, l3, l4 =>
    if 6 ≤ l4 then
      f_X8_ordered_44 k2 M l1 l2 l3
    else
      Option.bind (f_X8_isBehind M l2 l4) fun z2 =>
      if z2.1 = 0 then
        f_X8_ordered_13 k2 n z2.2 l1 l2 (l3 + 0) (l4 + 1)
      else
        f_X8_ordered_13 k2 n z2.2 l1 l2 (l3 + 1) (l4 + 1)
set_option maxRecDepth 20000 in
theorem m_X8_ordered_13 {k : KT} {q : Int32 × Mem} (hk : CX k cX8_ordered RX8 5 (some .int) 3) (hq : RI k q) (k2 : Mem → Int32 → Int32 → Option (Int32 × Mem)) (hk2 : ∀ (M : Mem) (l1 : Int32) (l2 : Int32) , GG k q (wM k M) 2 [(0, .ref (kh k + 163)), (1, .int l1), (2, .int l2)] [] (k2 M l1 l2)) : ∀ (n : Nat) (M : Mem) (l1 : Int32) (l2 : Int32) (l3 : Int32) (l4 : Int32) , GG k q (wM k M) 13 [(0, .ref (kh k + 163)), (1, .int l1), (2, .int l2), (3, .int l3), (4, .int l4)] [] (f_X8_ordered_13 k2 n M l1 l2 l3 l4) := by
  intro n
  induction n with
  | zero => intros; exact GG_none
  | succ n ih =>
    intro M l1 l2 l3 l4 
    rw [f_X8_ordered_13]
    refine GG_iload hk (pc' := 15) 4 dX8_ordered_13 rfl rfl ?_
    refine GG_bipush hk (pc' := 17) 6 dX8_ordered_15 rfl rfl ?_
    refine GG_icmp_ge hk 44 (pc' := 20) dX8_ordered_17 rfl (by decide) (fun c1 => ?_) (fun c1 => ?_)
    · refine GG_sub (L' := [(0, .ref (kh k + 163)), (1, .int l1), (2, .int l2), (3, .int l3)]) [0, 1, 2, 3] rfl ?_
      exact m_X8_ordered_44 hk hq k2 hk2 M l1 l2 l3 
    · refine GG_iload_n hk (pc' := 21) 3 dX8_ordered_20 rfl rfl rfl ?_
      refine GG_aload_n hk (pc' := 22) 0 dX8_ordered_21 rfl rfl rfl ?_
      refine GG_iload_n hk (pc' := 23) 2 dX8_ordered_22 rfl rfl rfl ?_
      refine GG_iload hk (pc' := 25) 4 dX8_ordered_23 rfl rfl ?_
      refine GG_callVi hk (st := [.int l3]) (pc' := 28) mf_X8_isBehind mv_X8_isBehind LC8 rfl (c_X8_isBehind _ _ _ M l2 l4 ) (by omega) tw_1043 rfl rfl rfl (Nat.le_of_ble_eq_true rfl) dX8_ordered_25 rfl (fun z2 e_z2 => ?_)
      refine GG_if_eq hk 35 (pc' := 31) dX8_ordered_28 rfl (by decide) (fun c3 => ?_) (fun c3 => ?_)
      · refine GG_iconst hk (pc' := 36) 0 dX8_ordered_35 rfl rfl ?_
        refine GG_iadd hk (pc' := 37) dX8_ordered_36 rfl ?_
        refine GG_istore_n hk (pc' := 38) [(3, .int (l3 + 0)), (0, .ref (kh k + 163)), (1, .int l1), (2, .int l2), (4, .int l4)] dX8_ordered_37 rfl rfl (by decide) rfl ?_
        refine GG_iinc hk (pc' := 41) 4 (l4 + 1) [(4, .int (l4 + 1)), (3, .int (l3 + 0)), (0, .ref (kh k + 163)), (1, .int l1), (2, .int l2)] dX8_ordered_38 rfl rfl rfl (by decide) rfl ?_
        refine GG_goto hk 13 dX8_ordered_41 (by decide) ?_
        refine GG_sub (L' := [(0, .ref (kh k + 163)), (1, .int l1), (2, .int l2), (3, .int (l3 + 0)), (4, .int (l4 + 1))]) [2, 3, 4, 1, 0] rfl ?_
        exact ih z2.2 l1 l2 (l3 + 0) (l4 + 1) 
      · refine GG_iconst hk (pc' := 32) 1 dX8_ordered_31 rfl rfl ?_
        refine GG_goto hk 36 dX8_ordered_32 (by decide) ?_
        refine GG_iadd hk (pc' := 37) dX8_ordered_36 rfl ?_
        refine GG_istore_n hk (pc' := 38) [(3, .int (l3 + 1)), (0, .ref (kh k + 163)), (1, .int l1), (2, .int l2), (4, .int l4)] dX8_ordered_37 rfl rfl (by decide) rfl ?_
        refine GG_iinc hk (pc' := 41) 4 (l4 + 1) [(4, .int (l4 + 1)), (3, .int (l3 + 1)), (0, .ref (kh k + 163)), (1, .int l1), (2, .int l2)] dX8_ordered_38 rfl rfl rfl (by decide) rfl ?_
        refine GG_goto hk 13 dX8_ordered_41 (by decide) ?_
        refine GG_sub (L' := [(0, .ref (kh k + 163)), (1, .int l1), (2, .int l2), (3, .int (l3 + 1)), (4, .int (l4 + 1))]) [2, 3, 4, 1, 0] rfl ?_
        exact ih z2.2 l1 l2 (l3 + 1) (l4 + 1) 
noncomputable def f_X8_ordered_2  : Nat → Mem → Int32 → Int32 → Option (Int32 × Mem)
  | 0, _, _, _ => none
  | n + 1, M, l1, l2 =>
    if 6 ≤ l2 then
      some ((-9), M)
    else
      f_X8_ordered_13 (f_X8_ordered_2  n) 1000 M l1 l2 0 0
set_option maxRecDepth 20000 in
theorem m_X8_ordered_2 {k : KT} {q : Int32 × Mem} (hk : CX k cX8_ordered RX8 5 (some .int) 3) (hq : RI k q) : ∀ (n : Nat) (M : Mem) (l1 : Int32) (l2 : Int32) , GG k q (wM k M) 2 [(0, .ref (kh k + 163)), (1, .int l1), (2, .int l2)] [] (f_X8_ordered_2  n M l1 l2) := by
  intro n
  induction n with
  | zero => intros; exact GG_none
  | succ n ih =>
    intro M l1 l2 
    rw [f_X8_ordered_2]
    refine GG_iload_n hk (pc' := 3) 2 dX8_ordered_2 rfl rfl rfl ?_
    refine GG_bipush hk (pc' := 5) 6 dX8_ordered_3 rfl rfl ?_
    refine GG_icmp_ge hk 57 (pc' := 8) dX8_ordered_5 rfl (by decide) (fun c1 => ?_) (fun c1 => ?_)
    · refine GG_bipush hk (pc' := 59) (-9) dX8_ordered_57 rfl rfl ?_
      exact GG_iret hk hq dX8_ordered_59
    · refine GG_iconst hk (pc' := 9) 0 dX8_ordered_8 rfl rfl ?_
      refine GG_istore_n hk (pc' := 10) [(3, .int 0), (0, .ref (kh k + 163)), (1, .int l1), (2, .int l2)] dX8_ordered_9 rfl rfl (by decide) rfl ?_
      refine GG_iconst hk (pc' := 11) 0 dX8_ordered_10 rfl rfl ?_
      refine GG_istore hk (pc' := 13) [(4, .int 0), (3, .int 0), (0, .ref (kh k + 163)), (1, .int l1), (2, .int l2)] dX8_ordered_11 rfl (by decide) rfl ?_
      refine GG_sub (L' := [(0, .ref (kh k + 163)), (1, .int l1), (2, .int l2), (3, .int 0), (4, .int 0)]) [2, 3, 4, 1, 0] rfl ?_
      exact m_X8_ordered_13 hk hq (f_X8_ordered_2  n) ih 1000 M l1 l2 0 0 
noncomputable def f_X8_ordered (M : Mem) (l1 : Int32) : Option (Int32 × Mem) :=
    f_X8_ordered_2  1000 M l1 0
set_option maxRecDepth 20000 in
theorem m_X8_ordered {k : KT} {q : Int32 × Mem} (hk : CX k cX8_ordered RX8 5 (some .int) 3) (hq : RI k q) (M : Mem) (l1 : Int32)  : GG k q (wM k M) 0 [(0, .ref (kh k + 163)), (1, .int l1)] [] (f_X8_ordered M l1) := by
  unfold f_X8_ordered
  refine GG_iconst hk (pc' := 1) 0 dX8_ordered_0 rfl rfl ?_
  refine GG_istore_n hk (pc' := 2) [(2, .int 0), (0, .ref (kh k + 163)), (1, .int l1)] dX8_ordered_1 rfl rfl (by decide) rfl ?_
  refine GG_sub (L' := [(0, .ref (kh k + 163)), (1, .int l1), (2, .int 0)]) [1, 2, 0] rfl ?_
  exact m_X8_ordered_2 hk hq  1000 M l1 0 
theorem c_X8_ordered (l : Launch) (C : DD) (a : Nat) (M : Mem) (l1 : Int32)  : CI l C (a) yX8_ordered cX8_ordered 5 .int 3 [.ref (a + 163), .int l1] M (f_X8_ordered M l1) := by
  refine CI_of RX8 (by decide +kernel) rfl (Nat.le_of_ble_eq_true rfl) (fun k q hk hq e1 e2 e3 => ?_)
  subst e1; subst e2; subst e3
  exact m_X8_ordered hk hq M l1 

/-! SettingsInLayersModel.offers(I)I -/
noncomputable def f_X8_offers_4  : Nat → Mem → Int32 → Int32 → Int32 → Option (Int32 × Mem)
  | 0, _, _, _, _ => none
  | n + 1, M, l1, l2, l3 =>
    if 6 ≤ l3 then
      some (l2, M)
    else
      Option.bind (f_X8_ordered M l3) fun z2 =>
      Option.bind (rd 640 (z2.2 164) ((3 * z2.1) + 0)) fun v3 =>
      if v3 = 0 then
        f_X8_offers_4  n z2.2 l1 l2 (l3 + 1)
      else
        Option.bind (f_X8_has z2.2 z2.1 l1) fun z5 =>
        if z5.1 = 0 then
          f_X8_offers_4  n z5.2 l1 l2 (l3 + 1)
        else
          Option.bind (f_X8_counts 8 z5.2 z2.1 l1) fun z7 =>
          if ¬ z7.1 = 0 then
            Option.bind (f_X8_entryAt z7.2 z2.1 l1) fun z9 =>
            Option.bind (rd 640 (z9.2 164) (z9.1 + 0)) fun v10 =>
            if ¬ v10 = 4 then
              Option.bind (some (l2 ||| (1 <<< (z2.1 &&& 31)))) fun v12 =>
              f_X8_offers_4  n z9.2 l1 v12 (l3 + 1)
            else
              f_X8_offers_4  n z9.2 l1 0 (l3 + 1)
          else
            f_X8_offers_4  n z7.2 l1 l2 (l3 + 1)
set_option maxRecDepth 20000 in
theorem m_X8_offers_4 {k : KT} {q : Int32 × Mem} (hk : CX k cX8_offers RX8 5 (some .int) 91) (hq : RI k q) : ∀ (n : Nat) (M : Mem) (l1 : Int32) (l2 : Int32) (l3 : Int32) , GG k q (wM k M) 4 [(0, .ref (kh k + 163)), (1, .int l1), (2, .int l2), (3, .int l3)] [] (f_X8_offers_4  n M l1 l2 l3) := by
  intro n
  induction n with
  | zero => intros; exact GG_none
  | succ n ih =>
    intro M l1 l2 l3 
    rw [f_X8_offers_4]
    refine GG_iload_n hk (pc' := 5) 3 dX8_offers_4 rfl rfl rfl ?_
    refine GG_bipush hk (pc' := 7) 6 dX8_offers_5 rfl rfl ?_
    refine GG_icmp_ge hk 88 (pc' := 10) dX8_offers_7 rfl (by decide) (fun c1 => ?_) (fun c1 => ?_)
    · refine GG_iload_n hk (pc' := 89) 2 dX8_offers_88 rfl rfl rfl ?_
      exact GG_iret hk hq dX8_offers_89
    · refine GG_aload_n hk (pc' := 11) 0 dX8_offers_10 rfl rfl rfl ?_
      refine GG_iload_n hk (pc' := 12) 3 dX8_offers_11 rfl rfl rfl ?_
      refine GG_callVi hk (st := []) (pc' := 15) mf_X8_ordered mv_X8_ordered LC8 rfl (c_X8_ordered _ _ _ M l3 ) (by omega) tw_1059 rfl rfl rfl (Nat.le_of_ble_eq_true rfl) dX8_offers_12 rfl (fun z2 e_z2 => ?_)
      refine GG_istore hk (pc' := 17) [(4, .int z2.1), (0, .ref (kh k + 163)), (1, .int l1), (2, .int l2), (3, .int l3)] dX8_offers_15 rfl (by decide) rfl ?_
      refine GG_aload_n hk (pc' := 18) 1 dX8_offers_17 rfl rfl rfl ?_
      refine GG_get hk LC8 0 (v := .ref (kh k + 164)) (pc' := 21) tw_842 rfl rfl (by decide) rfl dX8_offers_18 rfl ?_
      refine GG_iconst hk (pc' := 22) 3 dX8_offers_21 rfl rfl ?_
      refine GG_iload hk (pc' := 24) 0 dX8_offers_22 rfl rfl ?_
      refine GG_imul hk (pc' := 25) dX8_offers_24 rfl ?_
      refine GG_iconst hk (pc' := 26) 0 dX8_offers_25 rfl rfl ?_
      refine GG_iadd hk (pc' := 27) dX8_offers_26 rfl ?_
      refine GG_iald hk (pc' := 28) rfl rfl dX8_offers_27 rfl (fun v3 e_v3 => ?_)
      refine GG_if_eq hk 82 (pc' := 31) dX8_offers_28 rfl (by decide) (fun c4 => ?_) (fun c4 => ?_)
      · refine GG_iinc hk (pc' := 85) 4 (l3 + 1) [(3, .int (l3 + 1)), (4, .int z2.1), (0, .ref (kh k + 163)), (1, .int l1), (2, .int l2)] dX8_offers_82 rfl rfl rfl (by decide) rfl ?_
        refine GG_goto hk 4 dX8_offers_85 (by decide) ?_
        refine GG_sub (L' := [(0, .ref (kh k + 163)), (1, .int l1), (2, .int l2), (3, .int (l3 + 1))]) [2, 3, 4, 0] rfl ?_
        exact ih z2.2 l1 l2 (l3 + 1) 
      · refine GG_aload_n hk (pc' := 32) 1 dX8_offers_31 rfl rfl rfl ?_
        refine GG_iload hk (pc' := 34) 0 dX8_offers_32 rfl rfl ?_
        refine GG_iload_n hk (pc' := 35) 2 dX8_offers_34 rfl rfl rfl ?_
        refine GG_callVi hk (st := []) (pc' := 38) mf_X8_has mv_X8_has LC8 rfl (c_X8_has _ _ _ z2.2 z2.1 l1 ) (by omega) tw_968 rfl rfl rfl (Nat.le_of_ble_eq_true rfl) dX8_offers_35 rfl (fun z5 e_z5 => ?_)
        refine GG_if_eq hk 82 (pc' := 41) dX8_offers_38 rfl (by decide) (fun c6 => ?_) (fun c6 => ?_)
        · refine GG_iinc hk (pc' := 85) 4 (l3 + 1) [(3, .int (l3 + 1)), (4, .int z2.1), (0, .ref (kh k + 163)), (1, .int l1), (2, .int l2)] dX8_offers_82 rfl rfl rfl (by decide) rfl ?_
          refine GG_goto hk 4 dX8_offers_85 (by decide) ?_
          refine GG_sub (L' := [(0, .ref (kh k + 163)), (1, .int l1), (2, .int l2), (3, .int (l3 + 1))]) [2, 3, 4, 0] rfl ?_
          exact ih z5.2 l1 l2 (l3 + 1) 
        · refine GG_aload_n hk (pc' := 42) 1 dX8_offers_41 rfl rfl rfl ?_
          refine GG_iload hk (pc' := 44) 0 dX8_offers_42 rfl rfl ?_
          refine GG_iload_n hk (pc' := 45) 2 dX8_offers_44 rfl rfl rfl ?_
          refine GG_callVi hk (st := []) (pc' := 48) mf_X8_counts mv_X8_counts LC8 rfl (c_X8_counts _ _ _ 8 z5.2 z2.1 l1) (by omega) tw_1063 rfl rfl rfl (Nat.le_of_ble_eq_true rfl) dX8_offers_45 rfl (fun z7 e_z7 => ?_)
          refine GG_if_ne hk 54 (pc' := 51) dX8_offers_48 rfl (by decide) (fun c8 => ?_) (fun c8 => ?_)
          · refine GG_aload_n hk (pc' := 55) 1 dX8_offers_54 rfl rfl rfl ?_
            refine GG_get hk LC8 0 (v := .ref (kh k + 164)) (pc' := 58) tw_842 rfl rfl (by decide) rfl dX8_offers_55 rfl ?_
            refine GG_iload hk (pc' := 60) 0 dX8_offers_58 rfl rfl ?_
            refine GG_iload_n hk (pc' := 61) 2 dX8_offers_60 rfl rfl rfl ?_
            refine GG_callSi hk (st := [.ref (kh k + 164)]) (pc' := 64) mf_X8_entryAt tw_962 (c_X8_entryAt _ _ _ z7.2 z2.1 l1 ) (by omega) tw_961 rfl rfl (Nat.le_of_ble_eq_true rfl) dX8_offers_61 rfl (fun z9 e_z9 => ?_)
            refine GG_iconst hk (pc' := 65) 0 dX8_offers_64 rfl rfl ?_
            refine GG_iadd hk (pc' := 66) dX8_offers_65 rfl ?_
            refine GG_iald hk (pc' := 67) rfl rfl dX8_offers_66 rfl (fun v10 e_v10 => ?_)
            refine GG_iconst hk (pc' := 68) 4 dX8_offers_67 rfl rfl ?_
            refine GG_icmp_ne hk 75 (pc' := 71) dX8_offers_68 rfl (by decide) (fun c11 => ?_) (fun c11 => ?_)
            · refine GG_iload_n hk (pc' := 76) 3 dX8_offers_75 rfl rfl rfl ?_
              refine GG_iconst hk (pc' := 77) 1 dX8_offers_76 rfl rfl ?_
              refine GG_iload hk (pc' := 79) 0 dX8_offers_77 rfl rfl ?_
              refine GG_ishl hk (pc' := 80) dX8_offers_79 rfl ?_
              refine GG_ior hk (pc' := 81) dX8_offers_80 rfl ?_
              refine GG_nm (fun v12 e_v12 => ?_)
              refine GG_istore_n hk (pc' := 82) [(2, .int v12), (4, .int z2.1), (0, .ref (kh k + 163)), (1, .int l1), (3, .int l3)] dX8_offers_81 rfl rfl (by decide) rfl ?_
              refine GG_iinc hk (pc' := 85) 4 (l3 + 1) [(3, .int (l3 + 1)), (2, .int v12), (4, .int z2.1), (0, .ref (kh k + 163)), (1, .int l1)] dX8_offers_82 rfl rfl rfl (by decide) rfl ?_
              refine GG_goto hk 4 dX8_offers_85 (by decide) ?_
              refine GG_sub (L' := [(0, .ref (kh k + 163)), (1, .int l1), (2, .int v12), (3, .int (l3 + 1))]) [3, 4, 1, 0] rfl ?_
              exact ih z9.2 l1 v12 (l3 + 1) 
            · refine GG_iconst hk (pc' := 72) 0 dX8_offers_71 rfl rfl ?_
              refine GG_goto hk 81 dX8_offers_72 (by decide) ?_
              refine GG_istore_n hk (pc' := 82) [(2, .int 0), (4, .int z2.1), (0, .ref (kh k + 163)), (1, .int l1), (3, .int l3)] dX8_offers_81 rfl rfl (by decide) rfl ?_
              refine GG_iinc hk (pc' := 85) 4 (l3 + 1) [(3, .int (l3 + 1)), (2, .int 0), (4, .int z2.1), (0, .ref (kh k + 163)), (1, .int l1)] dX8_offers_82 rfl rfl rfl (by decide) rfl ?_
              refine GG_goto hk 4 dX8_offers_85 (by decide) ?_
              refine GG_sub (L' := [(0, .ref (kh k + 163)), (1, .int l1), (2, .int 0), (3, .int (l3 + 1))]) [3, 4, 1, 0] rfl ?_
              exact ih z9.2 l1 0 (l3 + 1) 
          · refine GG_goto hk 82 dX8_offers_51 (by decide) ?_
            refine GG_iinc hk (pc' := 85) 4 (l3 + 1) [(3, .int (l3 + 1)), (4, .int z2.1), (0, .ref (kh k + 163)), (1, .int l1), (2, .int l2)] dX8_offers_82 rfl rfl rfl (by decide) rfl ?_
            refine GG_goto hk 4 dX8_offers_85 (by decide) ?_
            refine GG_sub (L' := [(0, .ref (kh k + 163)), (1, .int l1), (2, .int l2), (3, .int (l3 + 1))]) [2, 3, 4, 0] rfl ?_
            exact ih z7.2 l1 l2 (l3 + 1) 
noncomputable def f_X8_offers (M : Mem) (l1 : Int32) : Option (Int32 × Mem) :=
    f_X8_offers_4  1000 M l1 0 0
set_option maxRecDepth 20000 in
theorem m_X8_offers {k : KT} {q : Int32 × Mem} (hk : CX k cX8_offers RX8 5 (some .int) 91) (hq : RI k q) (M : Mem) (l1 : Int32)  : GG k q (wM k M) 0 [(0, .ref (kh k + 163)), (1, .int l1)] [] (f_X8_offers M l1) := by
  unfold f_X8_offers
  refine GG_iconst hk (pc' := 1) 0 dX8_offers_0 rfl rfl ?_
  refine GG_istore_n hk (pc' := 2) [(2, .int 0), (0, .ref (kh k + 163)), (1, .int l1)] dX8_offers_1 rfl rfl (by decide) rfl ?_
  refine GG_iconst hk (pc' := 3) 0 dX8_offers_2 rfl rfl ?_
  refine GG_istore_n hk (pc' := 4) [(3, .int 0), (2, .int 0), (0, .ref (kh k + 163)), (1, .int l1)] dX8_offers_3 rfl rfl (by decide) rfl ?_
  refine GG_sub (L' := [(0, .ref (kh k + 163)), (1, .int l1), (2, .int 0), (3, .int 0)]) [2, 3, 1, 0] rfl ?_
  exact m_X8_offers_4 hk hq  1000 M l1 0 0 
theorem c_X8_offers (l : Launch) (C : DD) (a : Nat) (M : Mem) (l1 : Int32)  : CI l C (a) yX8_offers cX8_offers 5 .int 91 [.ref (a + 163), .int l1] M (f_X8_offers M l1) := by
  refine CI_of RX8 (by decide +kernel) rfl (Nat.le_of_ble_eq_true rfl) (fun k q hk hq e1 e2 e3 => ?_)
  subst e1; subst e2; subst e3
  exact m_X8_offers hk hq M l1 

/-! SettingsInLayersModel.fails(II)Z -/
noncomputable def f_X8_fails_43  (M : Mem) (l1 : Int32) (l2 : Int32) : Option (Int32 × Mem) :=
    Option.bind (wra 80 M 180 0 l1) fun M1 =>
    Option.bind (wra 80 M1 181 0 l2) fun M2 =>
    Option.bind (wrf M2 163 24 ((M2 163 24) + 1)) fun M3 =>
    bret 0 M3
set_option maxRecDepth 20000 in
theorem m_X8_fails_43 {k : KT} {q : Int32 × Mem} (hk : CX k cX8_fails RX8 4 (some .boolean) 1) (hq : RI k q) (M : Mem) (l1 : Int32) (l2 : Int32)  : GG k q (wM k M) 43 [(0, .ref (kh k + 163)), (1, .int l1), (2, .int l2)] [] (f_X8_fails_43  M l1 l2) := by
  unfold f_X8_fails_43
  refine GG_aload_n hk (pc' := 44) 0 dX8_fails_43 rfl rfl rfl ?_
  refine GG_get hk LC8 22 (v := .ref (kh k + 180)) (pc' := 47) tw_864 rfl rfl (by decide) rfl dX8_fails_44 rfl ?_
  refine GG_iconst hk (pc' := 48) 0 dX8_fails_47 rfl rfl ?_
  refine GG_iload_n hk (pc' := 49) 1 dX8_fails_48 rfl rfl rfl ?_
  refine GG_iast hk (pc' := 50) rfl rfl dX8_fails_49 rfl (fun M1 e_M1 => ?_)
  refine GG_aload_n hk (pc' := 51) 0 dX8_fails_50 rfl rfl rfl ?_
  refine GG_get hk LC8 23 (v := .ref (kh k + 181)) (pc' := 54) tw_865 rfl rfl (by decide) rfl dX8_fails_51 rfl ?_
  refine GG_iconst hk (pc' := 55) 0 dX8_fails_54 rfl rfl ?_
  refine GG_iload_n hk (pc' := 56) 2 dX8_fails_55 rfl rfl rfl ?_
  refine GG_iast hk (pc' := 57) rfl rfl dX8_fails_56 rfl (fun M2 e_M2 => ?_)
  refine GG_aload_n hk (pc' := 58) 0 dX8_fails_57 rfl rfl rfl ?_
  refine GG_dup hk (pc' := 59) dX8_fails_58 rfl rfl ?_
  refine GG_get hk LC8 24 (v := .int (M2 163 24)) (pc' := 62) tw_866 rfl rfl (by decide) rfl dX8_fails_59 rfl ?_
  refine GG_iconst hk (pc' := 63) 1 dX8_fails_62 rfl rfl ?_
  refine GG_iadd hk (pc' := 64) dX8_fails_63 rfl ?_
  refine GG_put hk LC8 24 (pc' := 67) tw_866 rfl rfl (by decide) rfl rfl (Nat.le_of_ble_eq_true rfl) (pv_8_24 _ _ _ _) dX8_fails_64 rfl (fun M3 e_M3 => ?_)
  refine GG_iconst hk (pc' := 68) 0 dX8_fails_67 rfl rfl ?_
  exact GG_zret hk hq dX8_fails_68
noncomputable def f_X8_fails_5  : Nat → Mem → Int32 → Int32 → Int32 → Option (Int32 × Mem)
  | 0, _, _, _, _ => none
  | n + 1, M, l1, l2, l3 =>
    if l3 ≤ 0 then
      f_X8_fails_43  M l1 l2
    else
      Option.bind (rd 80 (M 180) (l3 - 1)) fun v2 =>
      Option.bind (wra 80 M 180 l3 v2) fun M3 =>
      Option.bind (rd 80 (M3 181) (l3 - 1)) fun v4 =>
      Option.bind (wra 80 M3 181 l3 v4) fun M5 =>
      f_X8_fails_5  n M5 l1 l2 (l3 + (-1))
set_option maxRecDepth 20000 in
theorem m_X8_fails_5 {k : KT} {q : Int32 × Mem} (hk : CX k cX8_fails RX8 4 (some .boolean) 1) (hq : RI k q) : ∀ (n : Nat) (M : Mem) (l1 : Int32) (l2 : Int32) (l3 : Int32) , GG k q (wM k M) 5 [(0, .ref (kh k + 163)), (1, .int l1), (2, .int l2), (3, .int l3)] [] (f_X8_fails_5  n M l1 l2 l3) := by
  intro n
  induction n with
  | zero => intros; exact GG_none
  | succ n ih =>
    intro M l1 l2 l3 
    rw [f_X8_fails_5]
    refine GG_iload_n hk (pc' := 6) 3 dX8_fails_5 rfl rfl rfl ?_
    refine GG_if_le hk 43 (pc' := 9) dX8_fails_6 rfl (by decide) (fun c1 => ?_) (fun c1 => ?_)
    · refine GG_sub (L' := [(0, .ref (kh k + 163)), (1, .int l1), (2, .int l2)]) [0, 1, 2] rfl ?_
      exact m_X8_fails_43 hk hq  M l1 l2 
    · refine GG_aload_n hk (pc' := 10) 0 dX8_fails_9 rfl rfl rfl ?_
      refine GG_get hk LC8 22 (v := .ref (kh k + 180)) (pc' := 13) tw_864 rfl rfl (by decide) rfl dX8_fails_10 rfl ?_
      refine GG_iload_n hk (pc' := 14) 3 dX8_fails_13 rfl rfl rfl ?_
      refine GG_aload_n hk (pc' := 15) 0 dX8_fails_14 rfl rfl rfl ?_
      refine GG_get hk LC8 22 (v := .ref (kh k + 180)) (pc' := 18) tw_864 rfl rfl (by decide) rfl dX8_fails_15 rfl ?_
      refine GG_iload_n hk (pc' := 19) 3 dX8_fails_18 rfl rfl rfl ?_
      refine GG_iconst hk (pc' := 20) 1 dX8_fails_19 rfl rfl ?_
      refine GG_isub hk (pc' := 21) dX8_fails_20 rfl ?_
      refine GG_iald hk (pc' := 22) rfl rfl dX8_fails_21 rfl (fun v2 e_v2 => ?_)
      refine GG_iast hk (pc' := 23) rfl rfl dX8_fails_22 rfl (fun M3 e_M3 => ?_)
      refine GG_aload_n hk (pc' := 24) 0 dX8_fails_23 rfl rfl rfl ?_
      refine GG_get hk LC8 23 (v := .ref (kh k + 181)) (pc' := 27) tw_865 rfl rfl (by decide) rfl dX8_fails_24 rfl ?_
      refine GG_iload_n hk (pc' := 28) 3 dX8_fails_27 rfl rfl rfl ?_
      refine GG_aload_n hk (pc' := 29) 0 dX8_fails_28 rfl rfl rfl ?_
      refine GG_get hk LC8 23 (v := .ref (kh k + 181)) (pc' := 32) tw_865 rfl rfl (by decide) rfl dX8_fails_29 rfl ?_
      refine GG_iload_n hk (pc' := 33) 3 dX8_fails_32 rfl rfl rfl ?_
      refine GG_iconst hk (pc' := 34) 1 dX8_fails_33 rfl rfl ?_
      refine GG_isub hk (pc' := 35) dX8_fails_34 rfl ?_
      refine GG_iald hk (pc' := 36) rfl rfl dX8_fails_35 rfl (fun v4 e_v4 => ?_)
      refine GG_iast hk (pc' := 37) rfl rfl dX8_fails_36 rfl (fun M5 e_M5 => ?_)
      refine GG_iinc hk (pc' := 40) 3 (l3 + (-1)) [(3, .int (l3 + (-1))), (0, .ref (kh k + 163)), (1, .int l1), (2, .int l2)] dX8_fails_37 rfl rfl rfl (by decide) rfl ?_
      refine GG_goto hk 5 dX8_fails_40 (by decide) ?_
      refine GG_sub (L' := [(0, .ref (kh k + 163)), (1, .int l1), (2, .int l2), (3, .int (l3 + (-1)))]) [1, 2, 3, 0] rfl ?_
      exact ih M5 l1 l2 (l3 + (-1)) 
noncomputable def f_X8_fails (M : Mem) (l1 : Int32) (l2 : Int32) : Option (Int32 × Mem) :=
    f_X8_fails_5  1000 M l1 l2 (M 163 24)
set_option maxRecDepth 20000 in
theorem m_X8_fails {k : KT} {q : Int32 × Mem} (hk : CX k cX8_fails RX8 4 (some .boolean) 1) (hq : RI k q) (M : Mem) (l1 : Int32) (l2 : Int32)  : GG k q (wM k M) 0 [(0, .ref (kh k + 163)), (1, .int l1), (2, .int l2)] [] (f_X8_fails M l1 l2) := by
  unfold f_X8_fails
  refine GG_aload_n hk (pc' := 1) 0 dX8_fails_0 rfl rfl rfl ?_
  refine GG_get hk LC8 24 (v := .int (M 163 24)) (pc' := 4) tw_866 rfl rfl (by decide) rfl dX8_fails_1 rfl ?_
  refine GG_istore_n hk (pc' := 5) [(3, .int (M 163 24)), (0, .ref (kh k + 163)), (1, .int l1), (2, .int l2)] dX8_fails_4 rfl rfl (by decide) rfl ?_
  refine GG_sub (L' := [(0, .ref (kh k + 163)), (1, .int l1), (2, .int l2), (3, .int (M 163 24))]) [1, 2, 3, 0] rfl ?_
  exact m_X8_fails_5 hk hq  1000 M l1 l2 (M 163 24) 
theorem c_X8_fails (l : Launch) (C : DD) (a : Nat) (M : Mem) (l1 : Int32) (l2 : Int32)  : CI l C (a) yX8_fails cX8_fails 4 .boolean 1 [.ref (a + 163), .int l1, .int l2] M (f_X8_fails M l1 l2) := by
  refine CI_of RX8 (by decide +kernel) rfl (Nat.le_of_ble_eq_true rfl) (fun k q hk hq e1 e2 e3 => ?_)
  subst e1; subst e2; subst e3
  exact m_X8_fails hk hq M l1 l2 

/-! SettingsInLayersModel.makes(III)Z -/
noncomputable def f_X8_makes_279 (rs : Mem → Int32 → Int32 → Option (Int32 × Mem)) : Nat → Mem → Int32 → Int32 → Int32 → Option (Int32 × Mem)
  | 0, _, _, _, _ => none
  | n + 1, M, l1, l6, l7 =>
    Option.bind (rd 12 (M 173) l6) fun v1 =>
    if v1 ≤ l7 then
      bret 1 M
    else
      Option.bind (rd 12 (M 171) l6) fun v3 =>
      if ¬ v3 = 1 then
        bret 1 M
      else
        Option.bind (wra 120 M 178 ((10 * l6) + l7) l1) fun M5 =>
        f_X8_makes_279 rs  n M5 l1 l6 (l7 + 1)
set_option maxRecDepth 20000 in
theorem m_X8_makes_279 {k : KT} {q : Int32 × Mem} (rs : Mem → Int32 → Int32 → Option (Int32 × Mem)) (hr : Nat) (hb : 100 ≤ hr) (hrs : ∀ (M : Mem) (x0 : Int32) (x1 : Int32), CI (kl k) (kC k) (kh k) yX8_resolves_ cX8_resolves_ 5 .boolean hr [.ref (kh k + 163), .int x0, .int x1] M (rs M x0 x1)) (hk : CX k cX8_makes RX8 8 (some .boolean) (hr + 6)) (hq : RI k q) : ∀ (n : Nat) (M : Mem) (l1 : Int32) (l6 : Int32) (l7 : Int32) , GG k q (wM k M) 279 [(0, .ref (kh k + 163)), (1, .int l1), (6, .int l6), (7, .int l7)] [] (f_X8_makes_279 rs  n M l1 l6 l7) := by
  intro n
  induction n with
  | zero => intros; exact GG_none
  | succ n ih =>
    intro M l1 l6 l7 
    rw [f_X8_makes_279]
    refine GG_iload hk (pc' := 281) 3 dX8_makes_279 rfl rfl ?_
    refine GG_aload_n hk (pc' := 282) 0 dX8_makes_281 rfl rfl rfl ?_
    refine GG_get hk LC8 15 (v := .ref (kh k + 173)) (pc' := 285) tw_857 rfl rfl (by decide) rfl dX8_makes_282 rfl ?_
    refine GG_iload hk (pc' := 287) 2 dX8_makes_285 rfl rfl ?_
    refine GG_iald hk (pc' := 288) rfl rfl dX8_makes_287 rfl (fun v1 e_v1 => ?_)
    refine GG_icmp_ge hk 322 (pc' := 291) dX8_makes_288 rfl (by decide) (fun c2 => ?_) (fun c2 => ?_)
    · refine GG_iconst hk (pc' := 323) 1 dX8_makes_322 rfl rfl ?_
      exact GG_zret hk hq dX8_makes_323
    · refine GG_aload_n hk (pc' := 292) 0 dX8_makes_291 rfl rfl rfl ?_
      refine GG_get hk LC8 13 (v := .ref (kh k + 171)) (pc' := 295) tw_855 rfl rfl (by decide) rfl dX8_makes_292 rfl ?_
      refine GG_iload hk (pc' := 297) 2 dX8_makes_295 rfl rfl ?_
      refine GG_iald hk (pc' := 298) rfl rfl dX8_makes_297 rfl (fun v3 e_v3 => ?_)
      refine GG_iconst hk (pc' := 299) 1 dX8_makes_298 rfl rfl ?_
      refine GG_icmp_ne hk 322 (pc' := 302) dX8_makes_299 rfl (by decide) (fun c4 => ?_) (fun c4 => ?_)
      · refine GG_iconst hk (pc' := 323) 1 dX8_makes_322 rfl rfl ?_
        exact GG_zret hk hq dX8_makes_323
      · refine GG_aload_n hk (pc' := 303) 0 dX8_makes_302 rfl rfl rfl ?_
        refine GG_get hk LC8 20 (v := .ref (kh k + 178)) (pc' := 306) tw_862 rfl rfl (by decide) rfl dX8_makes_303 rfl ?_
        refine GG_bipush hk (pc' := 308) 10 dX8_makes_306 rfl rfl ?_
        refine GG_iload hk (pc' := 310) 2 dX8_makes_308 rfl rfl ?_
        refine GG_imul hk (pc' := 311) dX8_makes_310 rfl ?_
        refine GG_iload hk (pc' := 313) 3 dX8_makes_311 rfl rfl ?_
        refine GG_iadd hk (pc' := 314) dX8_makes_313 rfl ?_
        refine GG_iload_n hk (pc' := 315) 1 dX8_makes_314 rfl rfl rfl ?_
        refine GG_iast hk (pc' := 316) rfl rfl dX8_makes_315 rfl (fun M5 e_M5 => ?_)
        refine GG_iinc hk (pc' := 319) 3 (l7 + 1) [(7, .int (l7 + 1)), (0, .ref (kh k + 163)), (1, .int l1), (6, .int l6)] dX8_makes_316 rfl rfl rfl (by decide) rfl ?_
        refine GG_goto hk 279 dX8_makes_319 (by decide) ?_
        refine GG_sub (L' := [(0, .ref (kh k + 163)), (1, .int l1), (6, .int l6), (7, .int (l7 + 1))]) [1, 2, 3, 0] rfl ?_
        exact ih M5 l1 l6 (l7 + 1) 
noncomputable def f_X8_makes_122 (rs : Mem → Int32 → Int32 → Option (Int32 × Mem)) (M : Mem) (l1 : Int32) (l6 : Int32) : Option (Int32 × Mem) :=
    Option.bind (rd 12 (M 175) l6) fun v1 =>
    Option.bind (wra 12 M 175 l6 (v1 ||| (1 <<< (l1 &&& 31)))) fun M2 =>
    f_X8_makes_279 rs  1000 M2 l1 l6 0
set_option maxRecDepth 20000 in
theorem m_X8_makes_122 {k : KT} {q : Int32 × Mem} (rs : Mem → Int32 → Int32 → Option (Int32 × Mem)) (hr : Nat) (hb : 100 ≤ hr) (hrs : ∀ (M : Mem) (x0 : Int32) (x1 : Int32), CI (kl k) (kC k) (kh k) yX8_resolves_ cX8_resolves_ 5 .boolean hr [.ref (kh k + 163), .int x0, .int x1] M (rs M x0 x1)) (hk : CX k cX8_makes RX8 8 (some .boolean) (hr + 6)) (hq : RI k q) (M : Mem) (l1 : Int32) (l6 : Int32)  : GG k q (wM k M) 122 [(0, .ref (kh k + 163)), (1, .int l1), (6, .int l6)] [] (f_X8_makes_122 rs  M l1 l6) := by
  unfold f_X8_makes_122
  refine GG_aload_n hk (pc' := 123) 0 dX8_makes_122 rfl rfl rfl ?_
  refine GG_get hk LC8 17 (v := .ref (kh k + 175)) (pc' := 126) tw_859 rfl rfl (by decide) rfl dX8_makes_123 rfl ?_
  refine GG_iload hk (pc' := 128) 2 dX8_makes_126 rfl rfl ?_
  refine GG_dup2 hk (pc' := 129) dX8_makes_128 rfl rfl rfl ?_
  refine GG_iald hk (pc' := 130) rfl rfl dX8_makes_129 rfl (fun v1 e_v1 => ?_)
  refine GG_iconst hk (pc' := 131) 1 dX8_makes_130 rfl rfl ?_
  refine GG_iload_n hk (pc' := 132) 1 dX8_makes_131 rfl rfl rfl ?_
  refine GG_ishl hk (pc' := 133) dX8_makes_132 rfl ?_
  refine GG_ior hk (pc' := 134) dX8_makes_133 rfl ?_
  refine GG_iast hk (pc' := 135) rfl rfl dX8_makes_134 rfl (fun M2 e_M2 => ?_)
  refine GG_goto hk 276 dX8_makes_135 (by decide) ?_
  refine GG_iconst hk (pc' := 277) 0 dX8_makes_276 rfl rfl ?_
  refine GG_istore hk (pc' := 279) [(7, .int 0), (0, .ref (kh k + 163)), (1, .int l1), (6, .int l6)] dX8_makes_277 rfl (by decide) rfl ?_
  refine GG_sub (L' := [(0, .ref (kh k + 163)), (1, .int l1), (6, .int l6), (7, .int 0)]) [1, 2, 3, 0] rfl ?_
  exact m_X8_makes_279 rs hr hb hrs hk hq  1000 M2 l1 l6 0 
noncomputable def f_X8_makes_35 (rs : Mem → Int32 → Int32 → Option (Int32 × Mem)) (M : Mem) (l1 : Int32) (l2 : Int32) (l4 : Int32) (l5 : Int32) (l6 : Int32) : Option (Int32 × Mem) :=
    Option.bind (rd 640 (M 164) (l4 + 2)) fun v1 =>
    Option.bind (rs M v1 l6) fun z2 =>
    if ¬ z2.1 = 0 then
      if ¬ l5 = 3 then
        f_X8_makes_122 rs  z2.2 l1 l6
      else
        Option.bind (rd 12 (z2.2 171) l6) fun v5 =>
        if v5 = 0 then
          Option.bind (rd 12 (z2.2 172) l6) fun v7 =>
          Option.bind (rd 640 (z2.2 164) (l4 + 1)) fun v8 =>
          Option.bind (wra 12 z2.2 172 l6 (v7 + v8)) fun M9 =>
          Option.bind (rd 12 (M9 172) l6) fun v10 =>
          if v10 ≤ 999 then
            f_X8_makes_122 rs  M9 l1 l6
          else
            Option.bind (f_X8_fails M9 4 l2) fun z12 =>
            bret z12.1 z12.2
        else
          Option.bind (f_X8_fails z2.2 3 l2) fun z13 =>
          bret z13.1 z13.2
    else
      Option.bind (f_X8_fails z2.2 5 l2) fun z14 =>
      bret z14.1 z14.2
set_option maxRecDepth 20000 in
theorem m_X8_makes_35 {k : KT} {q : Int32 × Mem} (rs : Mem → Int32 → Int32 → Option (Int32 × Mem)) (hr : Nat) (hb : 100 ≤ hr) (hrs : ∀ (M : Mem) (x0 : Int32) (x1 : Int32), CI (kl k) (kC k) (kh k) yX8_resolves_ cX8_resolves_ 5 .boolean hr [.ref (kh k + 163), .int x0, .int x1] M (rs M x0 x1)) (hk : CX k cX8_makes RX8 8 (some .boolean) (hr + 6)) (hq : RI k q) (M : Mem) (l1 : Int32) (l2 : Int32) (l4 : Int32) (l5 : Int32) (l6 : Int32)  : GG k q (wM k M) 35 [(0, .ref (kh k + 163)), (1, .int l1), (2, .int l2), (4, .int l4), (5, .int l5), (6, .int l6)] [] (f_X8_makes_35 rs  M l1 l2 l4 l5 l6) := by
  unfold f_X8_makes_35
  refine GG_aload_n hk (pc' := 36) 0 dX8_makes_35 rfl rfl rfl ?_
  refine GG_aload_n hk (pc' := 37) 0 dX8_makes_36 rfl rfl rfl ?_
  refine GG_get hk LC8 0 (v := .ref (kh k + 164)) (pc' := 40) tw_842 rfl rfl (by decide) rfl dX8_makes_37 rfl ?_
  refine GG_iload hk (pc' := 42) 3 dX8_makes_40 rfl rfl ?_
  refine GG_iconst hk (pc' := 43) 2 dX8_makes_42 rfl rfl ?_
  refine GG_iadd hk (pc' := 44) dX8_makes_43 rfl ?_
  refine GG_iald hk (pc' := 45) rfl rfl dX8_makes_44 rfl (fun v1 e_v1 => ?_)
  refine GG_iload hk (pc' := 47) 5 dX8_makes_45 rfl rfl ?_
  refine GG_callVi hk (st := []) (pc' := 50) mf_X8_resolves_ mv_X8_resolves_ LC8 rfl (hrs M v1 l6) (by omega) tw_1071 rfl rfl rfl (Nat.le_of_ble_eq_true rfl) dX8_makes_47 rfl (fun z2 e_z2 => ?_)
  refine GG_if_ne hk 60 (pc' := 53) dX8_makes_50 rfl (by decide) (fun c3 => ?_) (fun c3 => ?_)
  · refine GG_iload hk (pc' := 62) 4 dX8_makes_60 rfl rfl ?_
    refine GG_iconst hk (pc' := 63) 3 dX8_makes_62 rfl rfl ?_
    refine GG_icmp_ne hk 122 (pc' := 66) dX8_makes_63 rfl (by decide) (fun c4 => ?_) (fun c4 => ?_)
    · refine GG_sub (L' := [(0, .ref (kh k + 163)), (1, .int l1), (6, .int l6)]) [0, 1, 5] rfl ?_
      exact m_X8_makes_122 rs hr hb hrs hk hq  z2.2 l1 l6 
    · refine GG_aload_n hk (pc' := 67) 0 dX8_makes_66 rfl rfl rfl ?_
      refine GG_get hk LC8 13 (v := .ref (kh k + 171)) (pc' := 70) tw_855 rfl rfl (by decide) rfl dX8_makes_67 rfl ?_
      refine GG_iload hk (pc' := 72) 5 dX8_makes_70 rfl rfl ?_
      refine GG_iald hk (pc' := 73) rfl rfl dX8_makes_72 rfl (fun v5 e_v5 => ?_)
      refine GG_if_eq hk 83 (pc' := 76) dX8_makes_73 rfl (by decide) (fun c6 => ?_) (fun c6 => ?_)
      · refine GG_aload_n hk (pc' := 84) 0 dX8_makes_83 rfl rfl rfl ?_
        refine GG_get hk LC8 14 (v := .ref (kh k + 172)) (pc' := 87) tw_856 rfl rfl (by decide) rfl dX8_makes_84 rfl ?_
        refine GG_iload hk (pc' := 89) 5 dX8_makes_87 rfl rfl ?_
        refine GG_dup2 hk (pc' := 90) dX8_makes_89 rfl rfl rfl ?_
        refine GG_iald hk (pc' := 91) rfl rfl dX8_makes_90 rfl (fun v7 e_v7 => ?_)
        refine GG_aload_n hk (pc' := 92) 0 dX8_makes_91 rfl rfl rfl ?_
        refine GG_get hk LC8 0 (v := .ref (kh k + 164)) (pc' := 95) tw_842 rfl rfl (by decide) rfl dX8_makes_92 rfl ?_
        refine GG_iload hk (pc' := 97) 3 dX8_makes_95 rfl rfl ?_
        refine GG_iconst hk (pc' := 98) 1 dX8_makes_97 rfl rfl ?_
        refine GG_iadd hk (pc' := 99) dX8_makes_98 rfl ?_
        refine GG_iald hk (pc' := 100) rfl rfl dX8_makes_99 rfl (fun v8 e_v8 => ?_)
        refine GG_iadd hk (pc' := 101) dX8_makes_100 rfl ?_
        refine GG_iast hk (pc' := 102) rfl rfl dX8_makes_101 rfl (fun M9 e_M9 => ?_)
        refine GG_aload_n hk (pc' := 103) 0 dX8_makes_102 rfl rfl rfl ?_
        refine GG_get hk LC8 14 (v := .ref (kh k + 172)) (pc' := 106) tw_856 rfl rfl (by decide) rfl dX8_makes_103 rfl ?_
        refine GG_iload hk (pc' := 108) 5 dX8_makes_106 rfl rfl ?_
        refine GG_iald hk (pc' := 109) rfl rfl dX8_makes_108 rfl (fun v10 e_v10 => ?_)
        refine GG_sipush hk (pc' := 112) 999 dX8_makes_109 rfl rfl ?_
        refine GG_icmp_le hk 122 (pc' := 115) dX8_makes_112 rfl (by decide) (fun c11 => ?_) (fun c11 => ?_)
        · refine GG_sub (L' := [(0, .ref (kh k + 163)), (1, .int l1), (6, .int l6)]) [0, 1, 5] rfl ?_
          exact m_X8_makes_122 rs hr hb hrs hk hq  M9 l1 l6 
        · refine GG_aload_n hk (pc' := 116) 0 dX8_makes_115 rfl rfl rfl ?_
          refine GG_iconst hk (pc' := 117) 4 dX8_makes_116 rfl rfl ?_
          refine GG_iload_n hk (pc' := 118) 2 dX8_makes_117 rfl rfl rfl ?_
          refine GG_callVi hk (st := []) (pc' := 121) mf_X8_fails mv_X8_fails LC8 rfl (c_X8_fails _ _ _ M9 4 l2 ) (by omega) tw_1075 rfl rfl rfl (Nat.le_of_ble_eq_true rfl) dX8_makes_118 rfl (fun z12 e_z12 => ?_)
          exact GG_zret hk hq dX8_makes_121
      · refine GG_aload_n hk (pc' := 77) 0 dX8_makes_76 rfl rfl rfl ?_
        refine GG_iconst hk (pc' := 78) 3 dX8_makes_77 rfl rfl ?_
        refine GG_iload_n hk (pc' := 79) 2 dX8_makes_78 rfl rfl rfl ?_
        refine GG_callVi hk (st := []) (pc' := 82) mf_X8_fails mv_X8_fails LC8 rfl (c_X8_fails _ _ _ z2.2 3 l2 ) (by omega) tw_1075 rfl rfl rfl (Nat.le_of_ble_eq_true rfl) dX8_makes_79 rfl (fun z13 e_z13 => ?_)
        exact GG_zret hk hq dX8_makes_82
  · refine GG_aload_n hk (pc' := 54) 0 dX8_makes_53 rfl rfl rfl ?_
    refine GG_iconst hk (pc' := 55) 5 dX8_makes_54 rfl rfl ?_
    refine GG_iload_n hk (pc' := 56) 2 dX8_makes_55 rfl rfl rfl ?_
    refine GG_callVi hk (st := []) (pc' := 59) mf_X8_fails mv_X8_fails LC8 rfl (c_X8_fails _ _ _ z2.2 5 l2 ) (by omega) tw_1075 rfl rfl rfl (Nat.le_of_ble_eq_true rfl) dX8_makes_56 rfl (fun z14 e_z14 => ?_)
    exact GG_zret hk hq dX8_makes_59
noncomputable def f_X8_makes_266 (rs : Mem → Int32 → Int32 → Option (Int32 × Mem)) (M : Mem) (l1 : Int32) (l6 : Int32) : Option (Int32 × Mem) :=
    Option.bind (wra 12 M 175 l6 (1 <<< (l1 &&& 31))) fun M1 =>
    f_X8_makes_279 rs  1000 M1 l1 l6 0
set_option maxRecDepth 20000 in
theorem m_X8_makes_266 {k : KT} {q : Int32 × Mem} (rs : Mem → Int32 → Int32 → Option (Int32 × Mem)) (hr : Nat) (hb : 100 ≤ hr) (hrs : ∀ (M : Mem) (x0 : Int32) (x1 : Int32), CI (kl k) (kC k) (kh k) yX8_resolves_ cX8_resolves_ 5 .boolean hr [.ref (kh k + 163), .int x0, .int x1] M (rs M x0 x1)) (hk : CX k cX8_makes RX8 8 (some .boolean) (hr + 6)) (hq : RI k q) (M : Mem) (l1 : Int32) (l6 : Int32)  : GG k q (wM k M) 266 [(0, .ref (kh k + 163)), (1, .int l1), (6, .int l6)] [] (f_X8_makes_266 rs  M l1 l6) := by
  unfold f_X8_makes_266
  refine GG_aload_n hk (pc' := 267) 0 dX8_makes_266 rfl rfl rfl ?_
  refine GG_get hk LC8 17 (v := .ref (kh k + 175)) (pc' := 270) tw_859 rfl rfl (by decide) rfl dX8_makes_267 rfl ?_
  refine GG_iload hk (pc' := 272) 2 dX8_makes_270 rfl rfl ?_
  refine GG_iconst hk (pc' := 273) 1 dX8_makes_272 rfl rfl ?_
  refine GG_iload_n hk (pc' := 274) 1 dX8_makes_273 rfl rfl rfl ?_
  refine GG_ishl hk (pc' := 275) dX8_makes_274 rfl ?_
  refine GG_iast hk (pc' := 276) rfl rfl dX8_makes_275 rfl (fun M1 e_M1 => ?_)
  refine GG_iconst hk (pc' := 277) 0 dX8_makes_276 rfl rfl ?_
  refine GG_istore hk (pc' := 279) [(7, .int 0), (0, .ref (kh k + 163)), (1, .int l1), (6, .int l6)] dX8_makes_277 rfl (by decide) rfl ?_
  refine GG_sub (L' := [(0, .ref (kh k + 163)), (1, .int l1), (6, .int l6), (7, .int 0)]) [1, 2, 3, 0] rfl ?_
  exact m_X8_makes_279 rs hr hb hrs hk hq  1000 M1 l1 l6 0 
noncomputable def f_X8_makes_192 (rs : Mem → Int32 → Int32 → Option (Int32 × Mem)) : Nat → Mem → Int32 → Int32 → Int32 → Int32 → Option (Int32 × Mem)
  | 0, _, _, _, _, _ => none
  | n + 1, M, l1, l4, l6, l7 =>
    Option.bind (rd 12 (M 173) l6) fun v1 =>
    if v1 ≤ l7 then
      f_X8_makes_266 rs  M l1 l6
    else
      Option.bind (rd 640 (M 164) ((l4 + 4) + (2 * l7))) fun v3 =>
      Option.bind (wra 120 M 176 ((10 * l6) + l7) v3) fun M4 =>
      Option.bind (rd 640 (M4 164) (((l4 + 4) + (2 * l7)) + 1)) fun v5 =>
      Option.bind (wra 120 M4 177 ((10 * l6) + l7) v5) fun M6 =>
      f_X8_makes_192 rs  n M6 l1 l4 l6 (l7 + 1)
set_option maxRecDepth 20000 in
theorem m_X8_makes_192 {k : KT} {q : Int32 × Mem} (rs : Mem → Int32 → Int32 → Option (Int32 × Mem)) (hr : Nat) (hb : 100 ≤ hr) (hrs : ∀ (M : Mem) (x0 : Int32) (x1 : Int32), CI (kl k) (kC k) (kh k) yX8_resolves_ cX8_resolves_ 5 .boolean hr [.ref (kh k + 163), .int x0, .int x1] M (rs M x0 x1)) (hk : CX k cX8_makes RX8 8 (some .boolean) (hr + 6)) (hq : RI k q) : ∀ (n : Nat) (M : Mem) (l1 : Int32) (l4 : Int32) (l6 : Int32) (l7 : Int32) , GG k q (wM k M) 192 [(0, .ref (kh k + 163)), (1, .int l1), (4, .int l4), (6, .int l6), (7, .int l7)] [] (f_X8_makes_192 rs  n M l1 l4 l6 l7) := by
  intro n
  induction n with
  | zero => intros; exact GG_none
  | succ n ih =>
    intro M l1 l4 l6 l7 
    rw [f_X8_makes_192]
    refine GG_iload hk (pc' := 194) 4 dX8_makes_192 rfl rfl ?_
    refine GG_aload_n hk (pc' := 195) 0 dX8_makes_194 rfl rfl rfl ?_
    refine GG_get hk LC8 15 (v := .ref (kh k + 173)) (pc' := 198) tw_857 rfl rfl (by decide) rfl dX8_makes_195 rfl ?_
    refine GG_iload hk (pc' := 200) 3 dX8_makes_198 rfl rfl ?_
    refine GG_iald hk (pc' := 201) rfl rfl dX8_makes_200 rfl (fun v1 e_v1 => ?_)
    refine GG_icmp_ge hk 266 (pc' := 204) dX8_makes_201 rfl (by decide) (fun c2 => ?_) (fun c2 => ?_)
    · refine GG_sub (L' := [(0, .ref (kh k + 163)), (1, .int l1), (6, .int l6)]) [0, 1, 3] rfl ?_
      exact m_X8_makes_266 rs hr hb hrs hk hq  M l1 l6 
    · refine GG_aload_n hk (pc' := 205) 0 dX8_makes_204 rfl rfl rfl ?_
      refine GG_get hk LC8 18 (v := .ref (kh k + 176)) (pc' := 208) tw_860 rfl rfl (by decide) rfl dX8_makes_205 rfl ?_
      refine GG_bipush hk (pc' := 210) 10 dX8_makes_208 rfl rfl ?_
      refine GG_iload hk (pc' := 212) 3 dX8_makes_210 rfl rfl ?_
      refine GG_imul hk (pc' := 213) dX8_makes_212 rfl ?_
      refine GG_iload hk (pc' := 215) 4 dX8_makes_213 rfl rfl ?_
      refine GG_iadd hk (pc' := 216) dX8_makes_215 rfl ?_
      refine GG_aload_n hk (pc' := 217) 0 dX8_makes_216 rfl rfl rfl ?_
      refine GG_get hk LC8 0 (v := .ref (kh k + 164)) (pc' := 220) tw_842 rfl rfl (by decide) rfl dX8_makes_217 rfl ?_
      refine GG_iload hk (pc' := 222) 2 dX8_makes_220 rfl rfl ?_
      refine GG_iconst hk (pc' := 223) 4 dX8_makes_222 rfl rfl ?_
      refine GG_iadd hk (pc' := 224) dX8_makes_223 rfl ?_
      refine GG_iconst hk (pc' := 225) 2 dX8_makes_224 rfl rfl ?_
      refine GG_iload hk (pc' := 227) 4 dX8_makes_225 rfl rfl ?_
      refine GG_imul hk (pc' := 228) dX8_makes_227 rfl ?_
      refine GG_iadd hk (pc' := 229) dX8_makes_228 rfl ?_
      refine GG_iald hk (pc' := 230) rfl rfl dX8_makes_229 rfl (fun v3 e_v3 => ?_)
      refine GG_iast hk (pc' := 231) rfl rfl dX8_makes_230 rfl (fun M4 e_M4 => ?_)
      refine GG_aload_n hk (pc' := 232) 0 dX8_makes_231 rfl rfl rfl ?_
      refine GG_get hk LC8 19 (v := .ref (kh k + 177)) (pc' := 235) tw_861 rfl rfl (by decide) rfl dX8_makes_232 rfl ?_
      refine GG_bipush hk (pc' := 237) 10 dX8_makes_235 rfl rfl ?_
      refine GG_iload hk (pc' := 239) 3 dX8_makes_237 rfl rfl ?_
      refine GG_imul hk (pc' := 240) dX8_makes_239 rfl ?_
      refine GG_iload hk (pc' := 242) 4 dX8_makes_240 rfl rfl ?_
      refine GG_iadd hk (pc' := 243) dX8_makes_242 rfl ?_
      refine GG_aload_n hk (pc' := 244) 0 dX8_makes_243 rfl rfl rfl ?_
      refine GG_get hk LC8 0 (v := .ref (kh k + 164)) (pc' := 247) tw_842 rfl rfl (by decide) rfl dX8_makes_244 rfl ?_
      refine GG_iload hk (pc' := 249) 2 dX8_makes_247 rfl rfl ?_
      refine GG_iconst hk (pc' := 250) 4 dX8_makes_249 rfl rfl ?_
      refine GG_iadd hk (pc' := 251) dX8_makes_250 rfl ?_
      refine GG_iconst hk (pc' := 252) 2 dX8_makes_251 rfl rfl ?_
      refine GG_iload hk (pc' := 254) 4 dX8_makes_252 rfl rfl ?_
      refine GG_imul hk (pc' := 255) dX8_makes_254 rfl ?_
      refine GG_iadd hk (pc' := 256) dX8_makes_255 rfl ?_
      refine GG_iconst hk (pc' := 257) 1 dX8_makes_256 rfl rfl ?_
      refine GG_iadd hk (pc' := 258) dX8_makes_257 rfl ?_
      refine GG_iald hk (pc' := 259) rfl rfl dX8_makes_258 rfl (fun v5 e_v5 => ?_)
      refine GG_iast hk (pc' := 260) rfl rfl dX8_makes_259 rfl (fun M6 e_M6 => ?_)
      refine GG_iinc hk (pc' := 263) 4 (l7 + 1) [(7, .int (l7 + 1)), (0, .ref (kh k + 163)), (1, .int l1), (4, .int l4), (6, .int l6)] dX8_makes_260 rfl rfl rfl (by decide) rfl ?_
      refine GG_goto hk 192 dX8_makes_263 (by decide) ?_
      refine GG_sub (L' := [(0, .ref (kh k + 163)), (1, .int l1), (4, .int l4), (6, .int l6), (7, .int (l7 + 1))]) [1, 2, 3, 4, 0] rfl ?_
      exact ih M6 l1 l4 l6 (l7 + 1) 
noncomputable def f_X8_makes (rs : Mem → Int32 → Int32 → Option (Int32 × Mem)) (M : Mem) (l1 : Int32) (l2 : Int32) (l3 : Int32) : Option (Int32 × Mem) :=
    Option.bind (f_X8_entryAt M l1 l2) fun z1 =>
    Option.bind (rd 640 (z1.2 164) (z1.1 + 0)) fun v2 =>
    if v2 = 2 then
      f_X8_makes_35 rs  z1.2 l1 l2 z1.1 v2 (l3 + 1)
    else
      if ¬ v2 = 3 then
        Option.bind (wra 12 z1.2 171 (l3 + 1) v2) fun M5 =>
        Option.bind (rd 640 (M5 164) (z1.1 + 1)) fun v6 =>
        Option.bind (wra 12 M5 172 (l3 + 1) v6) fun M7 =>
        if ¬ v2 = 1 then
          Option.bind (wra 12 M7 173 (l3 + 1) 0) fun M9 =>
          f_X8_makes_192 rs  1000 M9 l1 z1.1 (l3 + 1) 0
        else
          Option.bind (rd 640 (M7 164) (z1.1 + 3)) fun v10 =>
          Option.bind (wra 12 M7 173 (l3 + 1) v10) fun M11 =>
          f_X8_makes_192 rs  1000 M11 l1 z1.1 (l3 + 1) 0
      else
        f_X8_makes_35 rs  z1.2 l1 l2 z1.1 v2 (l3 + 1)
set_option maxRecDepth 20000 in
theorem m_X8_makes {k : KT} {q : Int32 × Mem} (rs : Mem → Int32 → Int32 → Option (Int32 × Mem)) (hr : Nat) (hb : 100 ≤ hr) (hrs : ∀ (M : Mem) (x0 : Int32) (x1 : Int32), CI (kl k) (kC k) (kh k) yX8_resolves_ cX8_resolves_ 5 .boolean hr [.ref (kh k + 163), .int x0, .int x1] M (rs M x0 x1)) (hk : CX k cX8_makes RX8 8 (some .boolean) (hr + 6)) (hq : RI k q) (M : Mem) (l1 : Int32) (l2 : Int32) (l3 : Int32)  : GG k q (wM k M) 0 [(0, .ref (kh k + 163)), (1, .int l1), (2, .int l2), (3, .int l3)] [] (f_X8_makes rs M l1 l2 l3) := by
  unfold f_X8_makes
  refine GG_iload_n hk (pc' := 1) 1 dX8_makes_0 rfl rfl rfl ?_
  refine GG_iload_n hk (pc' := 2) 2 dX8_makes_1 rfl rfl rfl ?_
  refine GG_callSi hk (st := []) (pc' := 5) mf_X8_entryAt tw_962 (c_X8_entryAt _ _ _ M l1 l2 ) (by omega) tw_961 rfl rfl (Nat.le_of_ble_eq_true rfl) dX8_makes_2 rfl (fun z1 e_z1 => ?_)
  refine GG_istore hk (pc' := 7) [(4, .int z1.1), (0, .ref (kh k + 163)), (1, .int l1), (2, .int l2), (3, .int l3)] dX8_makes_5 rfl (by decide) rfl ?_
  refine GG_aload_n hk (pc' := 8) 1 dX8_makes_7 rfl rfl rfl ?_
  refine GG_get hk LC8 0 (v := .ref (kh k + 164)) (pc' := 11) tw_842 rfl rfl (by decide) rfl dX8_makes_8 rfl ?_
  refine GG_iload hk (pc' := 13) 0 dX8_makes_11 rfl rfl ?_
  refine GG_iconst hk (pc' := 14) 0 dX8_makes_13 rfl rfl ?_
  refine GG_iadd hk (pc' := 15) dX8_makes_14 rfl ?_
  refine GG_iald hk (pc' := 16) rfl rfl dX8_makes_15 rfl (fun v2 e_v2 => ?_)
  refine GG_istore hk (pc' := 18) [(5, .int v2), (4, .int z1.1), (0, .ref (kh k + 163)), (1, .int l1), (2, .int l2), (3, .int l3)] dX8_makes_16 rfl (by decide) rfl ?_
  refine GG_iload_n hk (pc' := 19) 5 dX8_makes_18 rfl rfl rfl ?_
  refine GG_iconst hk (pc' := 20) 1 dX8_makes_19 rfl rfl ?_
  refine GG_iadd hk (pc' := 21) dX8_makes_20 rfl ?_
  refine GG_istore hk (pc' := 23) [(6, .int (l3 + 1)), (5, .int v2), (4, .int z1.1), (0, .ref (kh k + 163)), (1, .int l1), (2, .int l2), (3, .int l3)] dX8_makes_21 rfl (by decide) rfl ?_
  refine GG_iload hk (pc' := 25) 1 dX8_makes_23 rfl rfl ?_
  refine GG_iconst hk (pc' := 26) 2 dX8_makes_25 rfl rfl ?_
  refine GG_icmp_eq hk 35 (pc' := 29) dX8_makes_26 rfl (by decide) (fun c3 => ?_) (fun c3 => ?_)
  · refine GG_sub (L' := [(0, .ref (kh k + 163)), (1, .int l1), (2, .int l2), (4, .int z1.1), (5, .int v2), (6, .int (l3 + 1))]) [3, 4, 5, 2, 1, 0] rfl ?_
    exact m_X8_makes_35 rs hr hb hrs hk hq  z1.2 l1 l2 z1.1 v2 (l3 + 1) 
  · refine GG_iload hk (pc' := 31) 1 dX8_makes_29 rfl rfl ?_
    refine GG_iconst hk (pc' := 32) 3 dX8_makes_31 rfl rfl ?_
    refine GG_icmp_ne hk 138 (pc' := 35) dX8_makes_32 rfl (by decide) (fun c4 => ?_) (fun c4 => ?_)
    · refine GG_aload_n hk (pc' := 139) 3 dX8_makes_138 rfl rfl rfl ?_
      refine GG_get hk LC8 13 (v := .ref (kh k + 171)) (pc' := 142) tw_855 rfl rfl (by decide) rfl dX8_makes_139 rfl ?_
      refine GG_iload hk (pc' := 144) 0 dX8_makes_142 rfl rfl ?_
      refine GG_iload hk (pc' := 146) 1 dX8_makes_144 rfl rfl ?_
      refine GG_iast hk (pc' := 147) rfl rfl dX8_makes_146 rfl (fun M5 e_M5 => ?_)
      refine GG_aload_n hk (pc' := 148) 3 dX8_makes_147 rfl rfl rfl ?_
      refine GG_get hk LC8 14 (v := .ref (kh k + 172)) (pc' := 151) tw_856 rfl rfl (by decide) rfl dX8_makes_148 rfl ?_
      refine GG_iload hk (pc' := 153) 0 dX8_makes_151 rfl rfl ?_
      refine GG_aload_n hk (pc' := 154) 3 dX8_makes_153 rfl rfl rfl ?_
      refine GG_get hk LC8 0 (v := .ref (kh k + 164)) (pc' := 157) tw_842 rfl rfl (by decide) rfl dX8_makes_154 rfl ?_
      refine GG_iload hk (pc' := 159) 2 dX8_makes_157 rfl rfl ?_
      refine GG_iconst hk (pc' := 160) 1 dX8_makes_159 rfl rfl ?_
      refine GG_iadd hk (pc' := 161) dX8_makes_160 rfl ?_
      refine GG_iald hk (pc' := 162) rfl rfl dX8_makes_161 rfl (fun v6 e_v6 => ?_)
      refine GG_iast hk (pc' := 163) rfl rfl dX8_makes_162 rfl (fun M7 e_M7 => ?_)
      refine GG_aload_n hk (pc' := 164) 3 dX8_makes_163 rfl rfl rfl ?_
      refine GG_get hk LC8 15 (v := .ref (kh k + 173)) (pc' := 167) tw_857 rfl rfl (by decide) rfl dX8_makes_164 rfl ?_
      refine GG_iload hk (pc' := 169) 0 dX8_makes_167 rfl rfl ?_
      refine GG_iload hk (pc' := 171) 1 dX8_makes_169 rfl rfl ?_
      refine GG_iconst hk (pc' := 172) 1 dX8_makes_171 rfl rfl ?_
      refine GG_icmp_ne hk 187 (pc' := 175) dX8_makes_172 rfl (by decide) (fun c8 => ?_) (fun c8 => ?_)
      · refine GG_iconst hk (pc' := 188) 0 dX8_makes_187 rfl rfl ?_
        refine GG_iast hk (pc' := 189) rfl rfl dX8_makes_188 rfl (fun M9 e_M9 => ?_)
        refine GG_iconst hk (pc' := 190) 0 dX8_makes_189 rfl rfl ?_
        refine GG_istore hk (pc' := 192) [(7, .int 0), (6, .int (l3 + 1)), (5, .int v2), (4, .int z1.1), (0, .ref (kh k + 163)), (1, .int l1), (2, .int l2), (3, .int l3)] dX8_makes_190 rfl (by decide) rfl ?_
        refine GG_sub (L' := [(0, .ref (kh k + 163)), (1, .int l1), (4, .int z1.1), (6, .int (l3 + 1)), (7, .int 0)]) [4, 5, 3, 1, 0] rfl ?_
        exact m_X8_makes_192 rs hr hb hrs hk hq  1000 M9 l1 z1.1 (l3 + 1) 0 
      · refine GG_aload_n hk (pc' := 176) 3 dX8_makes_175 rfl rfl rfl ?_
        refine GG_get hk LC8 0 (v := .ref (kh k + 164)) (pc' := 179) tw_842 rfl rfl (by decide) rfl dX8_makes_176 rfl ?_
        refine GG_iload hk (pc' := 181) 2 dX8_makes_179 rfl rfl ?_
        refine GG_iconst hk (pc' := 182) 3 dX8_makes_181 rfl rfl ?_
        refine GG_iadd hk (pc' := 183) dX8_makes_182 rfl ?_
        refine GG_iald hk (pc' := 184) rfl rfl dX8_makes_183 rfl (fun v10 e_v10 => ?_)
        refine GG_goto hk 188 dX8_makes_184 (by decide) ?_
        refine GG_iast hk (pc' := 189) rfl rfl dX8_makes_188 rfl (fun M11 e_M11 => ?_)
        refine GG_iconst hk (pc' := 190) 0 dX8_makes_189 rfl rfl ?_
        refine GG_istore hk (pc' := 192) [(7, .int 0), (6, .int (l3 + 1)), (5, .int v2), (4, .int z1.1), (0, .ref (kh k + 163)), (1, .int l1), (2, .int l2), (3, .int l3)] dX8_makes_190 rfl (by decide) rfl ?_
        refine GG_sub (L' := [(0, .ref (kh k + 163)), (1, .int l1), (4, .int z1.1), (6, .int (l3 + 1)), (7, .int 0)]) [4, 5, 3, 1, 0] rfl ?_
        exact m_X8_makes_192 rs hr hb hrs hk hq  1000 M11 l1 z1.1 (l3 + 1) 0 
    · refine GG_sub (L' := [(0, .ref (kh k + 163)), (1, .int l1), (2, .int l2), (4, .int z1.1), (5, .int v2), (6, .int (l3 + 1))]) [3, 4, 5, 2, 1, 0] rfl ?_
      exact m_X8_makes_35 rs hr hb hrs hk hq  z1.2 l1 l2 z1.1 v2 (l3 + 1) 
theorem c_X8_makes (l : Launch) (C : DD) (a : Nat) (rs : Mem → Int32 → Int32 → Option (Int32 × Mem)) (hr : Nat) (hb : 100 ≤ hr) (hrs : ∀ (M : Mem) (x0 : Int32) (x1 : Int32), CI l C (a) yX8_resolves_ cX8_resolves_ 5 .boolean hr [.ref (a + 163), .int x0, .int x1] M (rs M x0 x1)) (M : Mem) (l1 : Int32) (l2 : Int32) (l3 : Int32)  : CI l C (a) yX8_makes cX8_makes 8 .boolean (hr + 6) [.ref (a + 163), .int l1, .int l2, .int l3] M (f_X8_makes rs M l1 l2 l3) := by
  refine CI_of RX8 (by decide +kernel) rfl (Nat.le_of_ble_eq_true rfl) (fun k q hk hq e1 e2 e3 => ?_)
  subst e1; subst e2; subst e3
  exact m_X8_makes rs hr hb hrs hk hq M l1 l2 l3 

/-! SettingsInLayersModel.is(II)V -/
noncomputable def f_X8_is_128  (M : Mem) (l1 : Int32) (l2 : Int32) : Option Mem :=
    Option.bind (wra 12 M 174 l1 (1 <<< (l2 &&& 31))) fun M1 =>
    Option.bind (rd 12 (M1 175) (l1 + 1)) fun v2 =>
    Option.bind (wra 12 M1 175 l1 v2) fun M3 =>
    some M3
set_option maxRecDepth 20000 in
theorem m_X8_is_128 {k : KT} {q : Mem} (hk : CX k cX8_is RX8 4 none 1) (hq : RV k q) (M : Mem) (l1 : Int32) (l2 : Int32)  : GG k q (wM k M) 128 [(0, .ref (kh k + 163)), (1, .int l1), (2, .int l2)] [] (f_X8_is_128  M l1 l2) := by
  unfold f_X8_is_128
  refine GG_aload_n hk (pc' := 129) 0 dX8_is_128 rfl rfl rfl ?_
  refine GG_get hk LC8 16 (v := .ref (kh k + 174)) (pc' := 132) tw_858 rfl rfl (by decide) rfl dX8_is_129 rfl ?_
  refine GG_iload_n hk (pc' := 133) 1 dX8_is_132 rfl rfl rfl ?_
  refine GG_iconst hk (pc' := 134) 1 dX8_is_133 rfl rfl ?_
  refine GG_iload_n hk (pc' := 135) 2 dX8_is_134 rfl rfl rfl ?_
  refine GG_ishl hk (pc' := 136) dX8_is_135 rfl ?_
  refine GG_iast hk (pc' := 137) rfl rfl dX8_is_136 rfl (fun M1 e_M1 => ?_)
  refine GG_aload_n hk (pc' := 138) 0 dX8_is_137 rfl rfl rfl ?_
  refine GG_get hk LC8 17 (v := .ref (kh k + 175)) (pc' := 141) tw_859 rfl rfl (by decide) rfl dX8_is_138 rfl ?_
  refine GG_iload_n hk (pc' := 142) 1 dX8_is_141 rfl rfl rfl ?_
  refine GG_aload_n hk (pc' := 143) 0 dX8_is_142 rfl rfl rfl ?_
  refine GG_get hk LC8 17 (v := .ref (kh k + 175)) (pc' := 146) tw_859 rfl rfl (by decide) rfl dX8_is_143 rfl ?_
  refine GG_iload_n hk (pc' := 147) 1 dX8_is_146 rfl rfl rfl ?_
  refine GG_iconst hk (pc' := 148) 1 dX8_is_147 rfl rfl ?_
  refine GG_iadd hk (pc' := 149) dX8_is_148 rfl ?_
  refine GG_iald hk (pc' := 150) rfl rfl dX8_is_149 rfl (fun v2 e_v2 => ?_)
  refine GG_iast hk (pc' := 151) rfl rfl dX8_is_150 rfl (fun M3 e_M3 => ?_)
  exact GG_vret hk hq dX8_is_151
noncomputable def f_X8_is_44  : Nat → Mem → Int32 → Int32 → Int32 → Option Mem
  | 0, _, _, _, _ => none
  | n + 1, M, l1, l2, l3 =>
    if 10 ≤ l3 then
      f_X8_is_128  M l1 l2
    else
      Option.bind (rd 120 (M 176) ((10 * (l1 + 1)) + l3)) fun v2 =>
      Option.bind (wra 120 M 176 ((10 * l1) + l3) v2) fun M3 =>
      Option.bind (rd 120 (M3 177) ((10 * (l1 + 1)) + l3)) fun v4 =>
      Option.bind (wra 120 M3 177 ((10 * l1) + l3) v4) fun M5 =>
      Option.bind (rd 120 (M5 178) ((10 * (l1 + 1)) + l3)) fun v6 =>
      Option.bind (wra 120 M5 178 ((10 * l1) + l3) v6) fun M7 =>
      f_X8_is_44  n M7 l1 l2 (l3 + 1)
set_option maxRecDepth 20000 in
theorem m_X8_is_44 {k : KT} {q : Mem} (hk : CX k cX8_is RX8 4 none 1) (hq : RV k q) : ∀ (n : Nat) (M : Mem) (l1 : Int32) (l2 : Int32) (l3 : Int32) , GG k q (wM k M) 44 [(0, .ref (kh k + 163)), (1, .int l1), (2, .int l2), (3, .int l3)] [] (f_X8_is_44  n M l1 l2 l3) := by
  intro n
  induction n with
  | zero => intros; exact GG_none
  | succ n ih =>
    intro M l1 l2 l3 
    rw [f_X8_is_44]
    refine GG_iload_n hk (pc' := 45) 3 dX8_is_44 rfl rfl rfl ?_
    refine GG_bipush hk (pc' := 47) 10 dX8_is_45 rfl rfl ?_
    refine GG_icmp_ge hk 128 (pc' := 50) dX8_is_47 rfl (by decide) (fun c1 => ?_) (fun c1 => ?_)
    · refine GG_sub (L' := [(0, .ref (kh k + 163)), (1, .int l1), (2, .int l2)]) [0, 1, 2] rfl ?_
      exact m_X8_is_128 hk hq  M l1 l2 
    · refine GG_aload_n hk (pc' := 51) 0 dX8_is_50 rfl rfl rfl ?_
      refine GG_get hk LC8 18 (v := .ref (kh k + 176)) (pc' := 54) tw_860 rfl rfl (by decide) rfl dX8_is_51 rfl ?_
      refine GG_bipush hk (pc' := 56) 10 dX8_is_54 rfl rfl ?_
      refine GG_iload_n hk (pc' := 57) 1 dX8_is_56 rfl rfl rfl ?_
      refine GG_imul hk (pc' := 58) dX8_is_57 rfl ?_
      refine GG_iload_n hk (pc' := 59) 3 dX8_is_58 rfl rfl rfl ?_
      refine GG_iadd hk (pc' := 60) dX8_is_59 rfl ?_
      refine GG_aload_n hk (pc' := 61) 0 dX8_is_60 rfl rfl rfl ?_
      refine GG_get hk LC8 18 (v := .ref (kh k + 176)) (pc' := 64) tw_860 rfl rfl (by decide) rfl dX8_is_61 rfl ?_
      refine GG_bipush hk (pc' := 66) 10 dX8_is_64 rfl rfl ?_
      refine GG_iload_n hk (pc' := 67) 1 dX8_is_66 rfl rfl rfl ?_
      refine GG_iconst hk (pc' := 68) 1 dX8_is_67 rfl rfl ?_
      refine GG_iadd hk (pc' := 69) dX8_is_68 rfl ?_
      refine GG_imul hk (pc' := 70) dX8_is_69 rfl ?_
      refine GG_iload_n hk (pc' := 71) 3 dX8_is_70 rfl rfl rfl ?_
      refine GG_iadd hk (pc' := 72) dX8_is_71 rfl ?_
      refine GG_iald hk (pc' := 73) rfl rfl dX8_is_72 rfl (fun v2 e_v2 => ?_)
      refine GG_iast hk (pc' := 74) rfl rfl dX8_is_73 rfl (fun M3 e_M3 => ?_)
      refine GG_aload_n hk (pc' := 75) 0 dX8_is_74 rfl rfl rfl ?_
      refine GG_get hk LC8 19 (v := .ref (kh k + 177)) (pc' := 78) tw_861 rfl rfl (by decide) rfl dX8_is_75 rfl ?_
      refine GG_bipush hk (pc' := 80) 10 dX8_is_78 rfl rfl ?_
      refine GG_iload_n hk (pc' := 81) 1 dX8_is_80 rfl rfl rfl ?_
      refine GG_imul hk (pc' := 82) dX8_is_81 rfl ?_
      refine GG_iload_n hk (pc' := 83) 3 dX8_is_82 rfl rfl rfl ?_
      refine GG_iadd hk (pc' := 84) dX8_is_83 rfl ?_
      refine GG_aload_n hk (pc' := 85) 0 dX8_is_84 rfl rfl rfl ?_
      refine GG_get hk LC8 19 (v := .ref (kh k + 177)) (pc' := 88) tw_861 rfl rfl (by decide) rfl dX8_is_85 rfl ?_
      refine GG_bipush hk (pc' := 90) 10 dX8_is_88 rfl rfl ?_
      refine GG_iload_n hk (pc' := 91) 1 dX8_is_90 rfl rfl rfl ?_
      refine GG_iconst hk (pc' := 92) 1 dX8_is_91 rfl rfl ?_
      refine GG_iadd hk (pc' := 93) dX8_is_92 rfl ?_
      refine GG_imul hk (pc' := 94) dX8_is_93 rfl ?_
      refine GG_iload_n hk (pc' := 95) 3 dX8_is_94 rfl rfl rfl ?_
      refine GG_iadd hk (pc' := 96) dX8_is_95 rfl ?_
      refine GG_iald hk (pc' := 97) rfl rfl dX8_is_96 rfl (fun v4 e_v4 => ?_)
      refine GG_iast hk (pc' := 98) rfl rfl dX8_is_97 rfl (fun M5 e_M5 => ?_)
      refine GG_aload_n hk (pc' := 99) 0 dX8_is_98 rfl rfl rfl ?_
      refine GG_get hk LC8 20 (v := .ref (kh k + 178)) (pc' := 102) tw_862 rfl rfl (by decide) rfl dX8_is_99 rfl ?_
      refine GG_bipush hk (pc' := 104) 10 dX8_is_102 rfl rfl ?_
      refine GG_iload_n hk (pc' := 105) 1 dX8_is_104 rfl rfl rfl ?_
      refine GG_imul hk (pc' := 106) dX8_is_105 rfl ?_
      refine GG_iload_n hk (pc' := 107) 3 dX8_is_106 rfl rfl rfl ?_
      refine GG_iadd hk (pc' := 108) dX8_is_107 rfl ?_
      refine GG_aload_n hk (pc' := 109) 0 dX8_is_108 rfl rfl rfl ?_
      refine GG_get hk LC8 20 (v := .ref (kh k + 178)) (pc' := 112) tw_862 rfl rfl (by decide) rfl dX8_is_109 rfl ?_
      refine GG_bipush hk (pc' := 114) 10 dX8_is_112 rfl rfl ?_
      refine GG_iload_n hk (pc' := 115) 1 dX8_is_114 rfl rfl rfl ?_
      refine GG_iconst hk (pc' := 116) 1 dX8_is_115 rfl rfl ?_
      refine GG_iadd hk (pc' := 117) dX8_is_116 rfl ?_
      refine GG_imul hk (pc' := 118) dX8_is_117 rfl ?_
      refine GG_iload_n hk (pc' := 119) 3 dX8_is_118 rfl rfl rfl ?_
      refine GG_iadd hk (pc' := 120) dX8_is_119 rfl ?_
      refine GG_iald hk (pc' := 121) rfl rfl dX8_is_120 rfl (fun v6 e_v6 => ?_)
      refine GG_iast hk (pc' := 122) rfl rfl dX8_is_121 rfl (fun M7 e_M7 => ?_)
      refine GG_iinc hk (pc' := 125) 3 (l3 + 1) [(3, .int (l3 + 1)), (0, .ref (kh k + 163)), (1, .int l1), (2, .int l2)] dX8_is_122 rfl rfl rfl (by decide) rfl ?_
      refine GG_goto hk 44 dX8_is_125 (by decide) ?_
      refine GG_sub (L' := [(0, .ref (kh k + 163)), (1, .int l1), (2, .int l2), (3, .int (l3 + 1))]) [1, 2, 3, 0] rfl ?_
      exact ih M7 l1 l2 (l3 + 1) 
noncomputable def f_X8_is (M : Mem) (l1 : Int32) (l2 : Int32) : Option Mem :=
    Option.bind (rd 12 (M 171) (l1 + 1)) fun v1 =>
    Option.bind (wra 12 M 171 l1 v1) fun M2 =>
    Option.bind (rd 12 (M2 172) (l1 + 1)) fun v3 =>
    Option.bind (wra 12 M2 172 l1 v3) fun M4 =>
    Option.bind (rd 12 (M4 173) (l1 + 1)) fun v5 =>
    Option.bind (wra 12 M4 173 l1 v5) fun M6 =>
    f_X8_is_44  1000 M6 l1 l2 0
set_option maxRecDepth 20000 in
theorem m_X8_is {k : KT} {q : Mem} (hk : CX k cX8_is RX8 4 none 1) (hq : RV k q) (M : Mem) (l1 : Int32) (l2 : Int32)  : GG k q (wM k M) 0 [(0, .ref (kh k + 163)), (1, .int l1), (2, .int l2)] [] (f_X8_is M l1 l2) := by
  unfold f_X8_is
  refine GG_aload_n hk (pc' := 1) 0 dX8_is_0 rfl rfl rfl ?_
  refine GG_get hk LC8 13 (v := .ref (kh k + 171)) (pc' := 4) tw_855 rfl rfl (by decide) rfl dX8_is_1 rfl ?_
  refine GG_iload_n hk (pc' := 5) 1 dX8_is_4 rfl rfl rfl ?_
  refine GG_aload_n hk (pc' := 6) 0 dX8_is_5 rfl rfl rfl ?_
  refine GG_get hk LC8 13 (v := .ref (kh k + 171)) (pc' := 9) tw_855 rfl rfl (by decide) rfl dX8_is_6 rfl ?_
  refine GG_iload_n hk (pc' := 10) 1 dX8_is_9 rfl rfl rfl ?_
  refine GG_iconst hk (pc' := 11) 1 dX8_is_10 rfl rfl ?_
  refine GG_iadd hk (pc' := 12) dX8_is_11 rfl ?_
  refine GG_iald hk (pc' := 13) rfl rfl dX8_is_12 rfl (fun v1 e_v1 => ?_)
  refine GG_iast hk (pc' := 14) rfl rfl dX8_is_13 rfl (fun M2 e_M2 => ?_)
  refine GG_aload_n hk (pc' := 15) 0 dX8_is_14 rfl rfl rfl ?_
  refine GG_get hk LC8 14 (v := .ref (kh k + 172)) (pc' := 18) tw_856 rfl rfl (by decide) rfl dX8_is_15 rfl ?_
  refine GG_iload_n hk (pc' := 19) 1 dX8_is_18 rfl rfl rfl ?_
  refine GG_aload_n hk (pc' := 20) 0 dX8_is_19 rfl rfl rfl ?_
  refine GG_get hk LC8 14 (v := .ref (kh k + 172)) (pc' := 23) tw_856 rfl rfl (by decide) rfl dX8_is_20 rfl ?_
  refine GG_iload_n hk (pc' := 24) 1 dX8_is_23 rfl rfl rfl ?_
  refine GG_iconst hk (pc' := 25) 1 dX8_is_24 rfl rfl ?_
  refine GG_iadd hk (pc' := 26) dX8_is_25 rfl ?_
  refine GG_iald hk (pc' := 27) rfl rfl dX8_is_26 rfl (fun v3 e_v3 => ?_)
  refine GG_iast hk (pc' := 28) rfl rfl dX8_is_27 rfl (fun M4 e_M4 => ?_)
  refine GG_aload_n hk (pc' := 29) 0 dX8_is_28 rfl rfl rfl ?_
  refine GG_get hk LC8 15 (v := .ref (kh k + 173)) (pc' := 32) tw_857 rfl rfl (by decide) rfl dX8_is_29 rfl ?_
  refine GG_iload_n hk (pc' := 33) 1 dX8_is_32 rfl rfl rfl ?_
  refine GG_aload_n hk (pc' := 34) 0 dX8_is_33 rfl rfl rfl ?_
  refine GG_get hk LC8 15 (v := .ref (kh k + 173)) (pc' := 37) tw_857 rfl rfl (by decide) rfl dX8_is_34 rfl ?_
  refine GG_iload_n hk (pc' := 38) 1 dX8_is_37 rfl rfl rfl ?_
  refine GG_iconst hk (pc' := 39) 1 dX8_is_38 rfl rfl ?_
  refine GG_iadd hk (pc' := 40) dX8_is_39 rfl ?_
  refine GG_iald hk (pc' := 41) rfl rfl dX8_is_40 rfl (fun v5 e_v5 => ?_)
  refine GG_iast hk (pc' := 42) rfl rfl dX8_is_41 rfl (fun M6 e_M6 => ?_)
  refine GG_iconst hk (pc' := 43) 0 dX8_is_42 rfl rfl ?_
  refine GG_istore_n hk (pc' := 44) [(3, .int 0), (0, .ref (kh k + 163)), (1, .int l1), (2, .int l2)] dX8_is_43 rfl rfl (by decide) rfl ?_
  refine GG_sub (L' := [(0, .ref (kh k + 163)), (1, .int l1), (2, .int l2), (3, .int 0)]) [1, 2, 3, 0] rfl ?_
  exact m_X8_is_44 hk hq  1000 M6 l1 l2 0 
theorem c_X8_is (l : Launch) (C : DD) (a : Nat) (M : Mem) (l1 : Int32) (l2 : Int32)  : CV l C (a) yX8_is cX8_is 4 1 [.ref (a + 163), .int l1, .int l2] M (f_X8_is M l1 l2) := by
  refine CV_of RX8 (by decide +kernel) rfl (Nat.le_of_ble_eq_true rfl) (fun k q hk hq e1 e2 e3 => ?_)
  subst e1; subst e2; subst e3
  exact m_X8_is hk hq M l1 l2 

/-! SettingsInLayersModel.merges(III)Z -/
noncomputable def f_X8_merges_184  (M : Mem) (l2 : Int32) (l3 : Int32) : Option (Int32 × Mem) :=
    Option.bind (rd 12 (M 174) l2) fun v1 =>
    Option.bind (wra 12 M 174 l2 (v1 ||| (1 <<< (l3 &&& 31)))) fun M2 =>
    Option.bind (rd 12 (M2 175) l2) fun v3 =>
    Option.bind (rd 12 (M2 175) (l2 + 1)) fun v4 =>
    Option.bind (wra 12 M2 175 l2 (v3 ||| v4)) fun M5 =>
    bret 1 M5
set_option maxRecDepth 20000 in
theorem m_X8_merges_184 {k : KT} {q : Int32 × Mem} (hk : CX k cX8_merges RX8 7 (some .boolean) 2) (hq : RI k q) (M : Mem) (l2 : Int32) (l3 : Int32)  : GG k q (wM k M) 184 [(0, .ref (kh k + 163)), (2, .int l2), (3, .int l3)] [] (f_X8_merges_184  M l2 l3) := by
  unfold f_X8_merges_184
  refine GG_aload_n hk (pc' := 185) 0 dX8_merges_184 rfl rfl rfl ?_
  refine GG_get hk LC8 16 (v := .ref (kh k + 174)) (pc' := 188) tw_858 rfl rfl (by decide) rfl dX8_merges_185 rfl ?_
  refine GG_iload_n hk (pc' := 189) 1 dX8_merges_188 rfl rfl rfl ?_
  refine GG_dup2 hk (pc' := 190) dX8_merges_189 rfl rfl rfl ?_
  refine GG_iald hk (pc' := 191) rfl rfl dX8_merges_190 rfl (fun v1 e_v1 => ?_)
  refine GG_iconst hk (pc' := 192) 1 dX8_merges_191 rfl rfl ?_
  refine GG_iload_n hk (pc' := 193) 2 dX8_merges_192 rfl rfl rfl ?_
  refine GG_ishl hk (pc' := 194) dX8_merges_193 rfl ?_
  refine GG_ior hk (pc' := 195) dX8_merges_194 rfl ?_
  refine GG_iast hk (pc' := 196) rfl rfl dX8_merges_195 rfl (fun M2 e_M2 => ?_)
  refine GG_aload_n hk (pc' := 197) 0 dX8_merges_196 rfl rfl rfl ?_
  refine GG_get hk LC8 17 (v := .ref (kh k + 175)) (pc' := 200) tw_859 rfl rfl (by decide) rfl dX8_merges_197 rfl ?_
  refine GG_iload_n hk (pc' := 201) 1 dX8_merges_200 rfl rfl rfl ?_
  refine GG_dup2 hk (pc' := 202) dX8_merges_201 rfl rfl rfl ?_
  refine GG_iald hk (pc' := 203) rfl rfl dX8_merges_202 rfl (fun v3 e_v3 => ?_)
  refine GG_aload_n hk (pc' := 204) 0 dX8_merges_203 rfl rfl rfl ?_
  refine GG_get hk LC8 17 (v := .ref (kh k + 175)) (pc' := 207) tw_859 rfl rfl (by decide) rfl dX8_merges_204 rfl ?_
  refine GG_iload_n hk (pc' := 208) 1 dX8_merges_207 rfl rfl rfl ?_
  refine GG_iconst hk (pc' := 209) 1 dX8_merges_208 rfl rfl ?_
  refine GG_iadd hk (pc' := 210) dX8_merges_209 rfl ?_
  refine GG_iald hk (pc' := 211) rfl rfl dX8_merges_210 rfl (fun v4 e_v4 => ?_)
  refine GG_ior hk (pc' := 212) dX8_merges_211 rfl ?_
  refine GG_iast hk (pc' := 213) rfl rfl dX8_merges_212 rfl (fun M5 e_M5 => ?_)
  refine GG_iconst hk (pc' := 214) 1 dX8_merges_213 rfl rfl ?_
  exact GG_zret hk hq dX8_merges_214
noncomputable def f_X8_merges_88  (k22 : Mem → Int32 → Int32 → Int32 → Int32 → Option (Int32 × Mem)) (M : Mem) (l1 : Int32) (l2 : Int32) (l3 : Int32) (l4 : Int32) (l5 : Int32) (l6 : Int32) : Option (Int32 × Mem) :=
    if ¬ l6 = 10 then
      Option.bind (rd 120 (M 176) l5) fun v2 =>
      Option.bind (wra 120 M 176 ((10 * l2) + l6) v2) fun M3 =>
      Option.bind (rd 120 (M3 177) l5) fun v4 =>
      Option.bind (wra 120 M3 177 ((10 * l2) + l6) v4) fun M5 =>
      Option.bind (rd 120 (M5 178) l5) fun v6 =>
      Option.bind (wra 120 M5 178 ((10 * l2) + l6) v6) fun M7 =>
      Option.bind (rd 12 (M7 173) l2) fun v8 =>
      Option.bind (wra 12 M7 173 l2 (if v8 < (l6 + 1) then (l6 + 1) else v8)) fun M9 =>
      k22 M9 l1 l2 l3 (l4 + 1)
    else
      Option.bind (f_X8_fails M 4 l1) fun z10 =>
      bret z10.1 z10.2
set_option maxRecDepth 20000 in
theorem m_X8_merges_88 {k : KT} {q : Int32 × Mem} (hk : CX k cX8_merges RX8 7 (some .boolean) 2) (hq : RI k q) (k22 : Mem → Int32 → Int32 → Int32 → Int32 → Option (Int32 × Mem)) (hk22 : ∀ (M : Mem) (l1 : Int32) (l2 : Int32) (l3 : Int32) (l4 : Int32) , GG k q (wM k M) 22 [(0, .ref (kh k + 163)), (1, .int l1), (2, .int l2), (3, .int l3), (4, .int l4)] [] (k22 M l1 l2 l3 l4)) (M : Mem) (l1 : Int32) (l2 : Int32) (l3 : Int32) (l4 : Int32) (l5 : Int32) (l6 : Int32)  : GG k q (wM k M) 88 [(0, .ref (kh k + 163)), (1, .int l1), (2, .int l2), (3, .int l3), (4, .int l4), (5, .int l5), (6, .int l6)] [] (f_X8_merges_88 k22 M l1 l2 l3 l4 l5 l6) := by
  unfold f_X8_merges_88
  refine GG_iload hk (pc' := 90) 6 dX8_merges_88 rfl rfl ?_
  refine GG_bipush hk (pc' := 92) 10 dX8_merges_90 rfl rfl ?_
  refine GG_icmp_ne hk 102 (pc' := 95) dX8_merges_92 rfl (by decide) (fun c1 => ?_) (fun c1 => ?_)
  · refine GG_aload_n hk (pc' := 103) 0 dX8_merges_102 rfl rfl rfl ?_
    refine GG_get hk LC8 18 (v := .ref (kh k + 176)) (pc' := 106) tw_860 rfl rfl (by decide) rfl dX8_merges_103 rfl ?_
    refine GG_bipush hk (pc' := 108) 10 dX8_merges_106 rfl rfl ?_
    refine GG_iload_n hk (pc' := 109) 2 dX8_merges_108 rfl rfl rfl ?_
    refine GG_imul hk (pc' := 110) dX8_merges_109 rfl ?_
    refine GG_iload hk (pc' := 112) 6 dX8_merges_110 rfl rfl ?_
    refine GG_iadd hk (pc' := 113) dX8_merges_112 rfl ?_
    refine GG_aload_n hk (pc' := 114) 0 dX8_merges_113 rfl rfl rfl ?_
    refine GG_get hk LC8 18 (v := .ref (kh k + 176)) (pc' := 117) tw_860 rfl rfl (by decide) rfl dX8_merges_114 rfl ?_
    refine GG_iload hk (pc' := 119) 5 dX8_merges_117 rfl rfl ?_
    refine GG_iald hk (pc' := 120) rfl rfl dX8_merges_119 rfl (fun v2 e_v2 => ?_)
    refine GG_iast hk (pc' := 121) rfl rfl dX8_merges_120 rfl (fun M3 e_M3 => ?_)
    refine GG_aload_n hk (pc' := 122) 0 dX8_merges_121 rfl rfl rfl ?_
    refine GG_get hk LC8 19 (v := .ref (kh k + 177)) (pc' := 125) tw_861 rfl rfl (by decide) rfl dX8_merges_122 rfl ?_
    refine GG_bipush hk (pc' := 127) 10 dX8_merges_125 rfl rfl ?_
    refine GG_iload_n hk (pc' := 128) 2 dX8_merges_127 rfl rfl rfl ?_
    refine GG_imul hk (pc' := 129) dX8_merges_128 rfl ?_
    refine GG_iload hk (pc' := 131) 6 dX8_merges_129 rfl rfl ?_
    refine GG_iadd hk (pc' := 132) dX8_merges_131 rfl ?_
    refine GG_aload_n hk (pc' := 133) 0 dX8_merges_132 rfl rfl rfl ?_
    refine GG_get hk LC8 19 (v := .ref (kh k + 177)) (pc' := 136) tw_861 rfl rfl (by decide) rfl dX8_merges_133 rfl ?_
    refine GG_iload hk (pc' := 138) 5 dX8_merges_136 rfl rfl ?_
    refine GG_iald hk (pc' := 139) rfl rfl dX8_merges_138 rfl (fun v4 e_v4 => ?_)
    refine GG_iast hk (pc' := 140) rfl rfl dX8_merges_139 rfl (fun M5 e_M5 => ?_)
    refine GG_aload_n hk (pc' := 141) 0 dX8_merges_140 rfl rfl rfl ?_
    refine GG_get hk LC8 20 (v := .ref (kh k + 178)) (pc' := 144) tw_862 rfl rfl (by decide) rfl dX8_merges_141 rfl ?_
    refine GG_bipush hk (pc' := 146) 10 dX8_merges_144 rfl rfl ?_
    refine GG_iload_n hk (pc' := 147) 2 dX8_merges_146 rfl rfl rfl ?_
    refine GG_imul hk (pc' := 148) dX8_merges_147 rfl ?_
    refine GG_iload hk (pc' := 150) 6 dX8_merges_148 rfl rfl ?_
    refine GG_iadd hk (pc' := 151) dX8_merges_150 rfl ?_
    refine GG_aload_n hk (pc' := 152) 0 dX8_merges_151 rfl rfl rfl ?_
    refine GG_get hk LC8 20 (v := .ref (kh k + 178)) (pc' := 155) tw_862 rfl rfl (by decide) rfl dX8_merges_152 rfl ?_
    refine GG_iload hk (pc' := 157) 5 dX8_merges_155 rfl rfl ?_
    refine GG_iald hk (pc' := 158) rfl rfl dX8_merges_157 rfl (fun v6 e_v6 => ?_)
    refine GG_iast hk (pc' := 159) rfl rfl dX8_merges_158 rfl (fun M7 e_M7 => ?_)
    refine GG_aload_n hk (pc' := 160) 0 dX8_merges_159 rfl rfl rfl ?_
    refine GG_get hk LC8 15 (v := .ref (kh k + 173)) (pc' := 163) tw_857 rfl rfl (by decide) rfl dX8_merges_160 rfl ?_
    refine GG_iload_n hk (pc' := 164) 2 dX8_merges_163 rfl rfl rfl ?_
    refine GG_aload_n hk (pc' := 165) 0 dX8_merges_164 rfl rfl rfl ?_
    refine GG_get hk LC8 15 (v := .ref (kh k + 173)) (pc' := 168) tw_857 rfl rfl (by decide) rfl dX8_merges_165 rfl ?_
    refine GG_iload_n hk (pc' := 169) 2 dX8_merges_168 rfl rfl rfl ?_
    refine GG_iald hk (pc' := 170) rfl rfl dX8_merges_169 rfl (fun v8 e_v8 => ?_)
    refine GG_iload hk (pc' := 172) 6 dX8_merges_170 rfl rfl ?_
    refine GG_iconst hk (pc' := 173) 1 dX8_merges_172 rfl rfl ?_
    refine GG_iadd hk (pc' := 174) dX8_merges_173 rfl ?_
    refine GG_mmax hk (st := [.int l2, .ref (kh k + 173)]) (pc' := 177) tw_984 tw_804 tw_11 tw_805 (by omega) (Nat.le_of_ble_eq_true rfl) dX8_merges_174 rfl ?_
    refine GG_iast hk (pc' := 178) rfl rfl dX8_merges_177 rfl (fun M9 e_M9 => ?_)
    refine GG_iinc hk (pc' := 181) 4 (l4 + 1) [(4, .int (l4 + 1)), (0, .ref (kh k + 163)), (1, .int l1), (2, .int l2), (3, .int l3), (5, .int l5), (6, .int l6)] dX8_merges_178 rfl rfl rfl (by decide) rfl ?_
    refine GG_goto hk 22 dX8_merges_181 (by decide) ?_
    refine GG_sub (L' := [(0, .ref (kh k + 163)), (1, .int l1), (2, .int l2), (3, .int l3), (4, .int (l4 + 1))]) [1, 2, 3, 4, 0] rfl ?_
    exact hk22 M9 l1 l2 l3 (l4 + 1) 
  · refine GG_aload_n hk (pc' := 96) 0 dX8_merges_95 rfl rfl rfl ?_
    refine GG_iconst hk (pc' := 97) 4 dX8_merges_96 rfl rfl ?_
    refine GG_iload_n hk (pc' := 98) 1 dX8_merges_97 rfl rfl rfl ?_
    refine GG_callVi hk (st := []) (pc' := 101) mf_X8_fails mv_X8_fails LC8 rfl (c_X8_fails _ _ _ M 4 l1 ) (by omega) tw_1075 rfl rfl rfl (Nat.le_of_ble_eq_true rfl) dX8_merges_98 rfl (fun z10 e_z10 => ?_)
    exact GG_zret hk hq dX8_merges_101
noncomputable def f_X8_merges_49  (k22 : Mem → Int32 → Int32 → Int32 → Int32 → Option (Int32 × Mem)) : Nat → Mem → Int32 → Int32 → Int32 → Int32 → Int32 → Int32 → Option (Int32 × Mem)
  | 0, _, _, _, _, _, _, _ => none
  | n + 1, M, l1, l2, l3, l4, l5, l6 =>
    Option.bind (rd 12 (M 173) l2) fun v1 =>
    if v1 ≤ l6 then
      f_X8_merges_88 k22 M l1 l2 l3 l4 l5 l6
    else
      Option.bind (rd 120 (M 176) ((10 * l2) + l6)) fun v3 =>
      Option.bind (rd 120 (M 176) l5) fun v4 =>
      if v3 = v4 then
        f_X8_merges_88 k22 M l1 l2 l3 l4 l5 l6
      else
        f_X8_merges_49 k22 n M l1 l2 l3 l4 l5 (l6 + 1)
set_option maxRecDepth 20000 in
theorem m_X8_merges_49 {k : KT} {q : Int32 × Mem} (hk : CX k cX8_merges RX8 7 (some .boolean) 2) (hq : RI k q) (k22 : Mem → Int32 → Int32 → Int32 → Int32 → Option (Int32 × Mem)) (hk22 : ∀ (M : Mem) (l1 : Int32) (l2 : Int32) (l3 : Int32) (l4 : Int32) , GG k q (wM k M) 22 [(0, .ref (kh k + 163)), (1, .int l1), (2, .int l2), (3, .int l3), (4, .int l4)] [] (k22 M l1 l2 l3 l4)) : ∀ (n : Nat) (M : Mem) (l1 : Int32) (l2 : Int32) (l3 : Int32) (l4 : Int32) (l5 : Int32) (l6 : Int32) , GG k q (wM k M) 49 [(0, .ref (kh k + 163)), (1, .int l1), (2, .int l2), (3, .int l3), (4, .int l4), (5, .int l5), (6, .int l6)] [] (f_X8_merges_49 k22 n M l1 l2 l3 l4 l5 l6) := by
  intro n
  induction n with
  | zero => intros; exact GG_none
  | succ n ih =>
    intro M l1 l2 l3 l4 l5 l6 
    rw [f_X8_merges_49]
    refine GG_iload hk (pc' := 51) 6 dX8_merges_49 rfl rfl ?_
    refine GG_aload_n hk (pc' := 52) 0 dX8_merges_51 rfl rfl rfl ?_
    refine GG_get hk LC8 15 (v := .ref (kh k + 173)) (pc' := 55) tw_857 rfl rfl (by decide) rfl dX8_merges_52 rfl ?_
    refine GG_iload_n hk (pc' := 56) 2 dX8_merges_55 rfl rfl rfl ?_
    refine GG_iald hk (pc' := 57) rfl rfl dX8_merges_56 rfl (fun v1 e_v1 => ?_)
    refine GG_icmp_ge hk 88 (pc' := 60) dX8_merges_57 rfl (by decide) (fun c2 => ?_) (fun c2 => ?_)
    · exact m_X8_merges_88 hk hq k22 hk22 M l1 l2 l3 l4 l5 l6 
    · refine GG_aload_n hk (pc' := 61) 0 dX8_merges_60 rfl rfl rfl ?_
      refine GG_get hk LC8 18 (v := .ref (kh k + 176)) (pc' := 64) tw_860 rfl rfl (by decide) rfl dX8_merges_61 rfl ?_
      refine GG_bipush hk (pc' := 66) 10 dX8_merges_64 rfl rfl ?_
      refine GG_iload_n hk (pc' := 67) 2 dX8_merges_66 rfl rfl rfl ?_
      refine GG_imul hk (pc' := 68) dX8_merges_67 rfl ?_
      refine GG_iload hk (pc' := 70) 6 dX8_merges_68 rfl rfl ?_
      refine GG_iadd hk (pc' := 71) dX8_merges_70 rfl ?_
      refine GG_iald hk (pc' := 72) rfl rfl dX8_merges_71 rfl (fun v3 e_v3 => ?_)
      refine GG_aload_n hk (pc' := 73) 0 dX8_merges_72 rfl rfl rfl ?_
      refine GG_get hk LC8 18 (v := .ref (kh k + 176)) (pc' := 76) tw_860 rfl rfl (by decide) rfl dX8_merges_73 rfl ?_
      refine GG_iload hk (pc' := 78) 5 dX8_merges_76 rfl rfl ?_
      refine GG_iald hk (pc' := 79) rfl rfl dX8_merges_78 rfl (fun v4 e_v4 => ?_)
      refine GG_icmp_eq hk 88 (pc' := 82) dX8_merges_79 rfl (by decide) (fun c5 => ?_) (fun c5 => ?_)
      · exact m_X8_merges_88 hk hq k22 hk22 M l1 l2 l3 l4 l5 l6 
      · refine GG_iinc hk (pc' := 85) 6 (l6 + 1) [(6, .int (l6 + 1)), (0, .ref (kh k + 163)), (1, .int l1), (2, .int l2), (3, .int l3), (4, .int l4), (5, .int l5)] dX8_merges_82 rfl rfl rfl (by decide) rfl ?_
        refine GG_goto hk 49 dX8_merges_85 (by decide) ?_
        refine GG_sub (L' := [(0, .ref (kh k + 163)), (1, .int l1), (2, .int l2), (3, .int l3), (4, .int l4), (5, .int l5), (6, .int (l6 + 1))]) [1, 2, 3, 4, 5, 6, 0] rfl ?_
        exact ih M l1 l2 l3 l4 l5 (l6 + 1) 
noncomputable def f_X8_merges_22  : Nat → Mem → Int32 → Int32 → Int32 → Int32 → Option (Int32 × Mem)
  | 0, _, _, _, _, _ => none
  | n + 1, M, l1, l2, l3, l4 =>
    Option.bind (rd 12 (M 173) (l2 + 1)) fun v1 =>
    if v1 ≤ l4 then
      f_X8_merges_184  M l2 l3
    else
      f_X8_merges_49 (f_X8_merges_22  n) 1000 M l1 l2 l3 l4 ((10 * (l2 + 1)) + l4) 0
set_option maxRecDepth 20000 in
theorem m_X8_merges_22 {k : KT} {q : Int32 × Mem} (hk : CX k cX8_merges RX8 7 (some .boolean) 2) (hq : RI k q) : ∀ (n : Nat) (M : Mem) (l1 : Int32) (l2 : Int32) (l3 : Int32) (l4 : Int32) , GG k q (wM k M) 22 [(0, .ref (kh k + 163)), (1, .int l1), (2, .int l2), (3, .int l3), (4, .int l4)] [] (f_X8_merges_22  n M l1 l2 l3 l4) := by
  intro n
  induction n with
  | zero => intros; exact GG_none
  | succ n ih =>
    intro M l1 l2 l3 l4 
    rw [f_X8_merges_22]
    refine GG_iload hk (pc' := 24) 4 dX8_merges_22 rfl rfl ?_
    refine GG_aload_n hk (pc' := 25) 0 dX8_merges_24 rfl rfl rfl ?_
    refine GG_get hk LC8 15 (v := .ref (kh k + 173)) (pc' := 28) tw_857 rfl rfl (by decide) rfl dX8_merges_25 rfl ?_
    refine GG_iload_n hk (pc' := 29) 2 dX8_merges_28 rfl rfl rfl ?_
    refine GG_iconst hk (pc' := 30) 1 dX8_merges_29 rfl rfl ?_
    refine GG_iadd hk (pc' := 31) dX8_merges_30 rfl ?_
    refine GG_iald hk (pc' := 32) rfl rfl dX8_merges_31 rfl (fun v1 e_v1 => ?_)
    refine GG_icmp_ge hk 184 (pc' := 35) dX8_merges_32 rfl (by decide) (fun c2 => ?_) (fun c2 => ?_)
    · refine GG_sub (L' := [(0, .ref (kh k + 163)), (2, .int l2), (3, .int l3)]) [0, 2, 3] rfl ?_
      exact m_X8_merges_184 hk hq  M l2 l3 
    · refine GG_bipush hk (pc' := 37) 10 dX8_merges_35 rfl rfl ?_
      refine GG_iload_n hk (pc' := 38) 2 dX8_merges_37 rfl rfl rfl ?_
      refine GG_iconst hk (pc' := 39) 1 dX8_merges_38 rfl rfl ?_
      refine GG_iadd hk (pc' := 40) dX8_merges_39 rfl ?_
      refine GG_imul hk (pc' := 41) dX8_merges_40 rfl ?_
      refine GG_iload hk (pc' := 43) 4 dX8_merges_41 rfl rfl ?_
      refine GG_iadd hk (pc' := 44) dX8_merges_43 rfl ?_
      refine GG_istore hk (pc' := 46) [(5, .int ((10 * (l2 + 1)) + l4)), (0, .ref (kh k + 163)), (1, .int l1), (2, .int l2), (3, .int l3), (4, .int l4)] dX8_merges_44 rfl (by decide) rfl ?_
      refine GG_iconst hk (pc' := 47) 0 dX8_merges_46 rfl rfl ?_
      refine GG_istore hk (pc' := 49) [(6, .int 0), (5, .int ((10 * (l2 + 1)) + l4)), (0, .ref (kh k + 163)), (1, .int l1), (2, .int l2), (3, .int l3), (4, .int l4)] dX8_merges_47 rfl (by decide) rfl ?_
      refine GG_sub (L' := [(0, .ref (kh k + 163)), (1, .int l1), (2, .int l2), (3, .int l3), (4, .int l4), (5, .int ((10 * (l2 + 1)) + l4)), (6, .int 0)]) [2, 3, 4, 5, 6, 1, 0] rfl ?_
      exact m_X8_merges_49 hk hq (f_X8_merges_22  n) ih 1000 M l1 l2 l3 l4 ((10 * (l2 + 1)) + l4) 0 
noncomputable def f_X8_merges (M : Mem) (l1 : Int32) (l2 : Int32) (l3 : Int32) : Option (Int32 × Mem) :=
    Option.bind (rd 12 (M 171) (l2 + 1)) fun v1 =>
    if v1 = 1 then
      f_X8_merges_22  1000 M l1 l2 l3 0
    else
      Option.bind (f_X8_fails M 3 l1) fun z3 =>
      bret z3.1 z3.2
set_option maxRecDepth 20000 in
theorem m_X8_merges {k : KT} {q : Int32 × Mem} (hk : CX k cX8_merges RX8 7 (some .boolean) 2) (hq : RI k q) (M : Mem) (l1 : Int32) (l2 : Int32) (l3 : Int32)  : GG k q (wM k M) 0 [(0, .ref (kh k + 163)), (1, .int l1), (2, .int l2), (3, .int l3)] [] (f_X8_merges M l1 l2 l3) := by
  unfold f_X8_merges
  refine GG_aload_n hk (pc' := 1) 0 dX8_merges_0 rfl rfl rfl ?_
  refine GG_get hk LC8 13 (v := .ref (kh k + 171)) (pc' := 4) tw_855 rfl rfl (by decide) rfl dX8_merges_1 rfl ?_
  refine GG_iload_n hk (pc' := 5) 2 dX8_merges_4 rfl rfl rfl ?_
  refine GG_iconst hk (pc' := 6) 1 dX8_merges_5 rfl rfl ?_
  refine GG_iadd hk (pc' := 7) dX8_merges_6 rfl ?_
  refine GG_iald hk (pc' := 8) rfl rfl dX8_merges_7 rfl (fun v1 e_v1 => ?_)
  refine GG_iconst hk (pc' := 9) 1 dX8_merges_8 rfl rfl ?_
  refine GG_icmp_eq hk 19 (pc' := 12) dX8_merges_9 rfl (by decide) (fun c2 => ?_) (fun c2 => ?_)
  · refine GG_iconst hk (pc' := 20) 0 dX8_merges_19 rfl rfl ?_
    refine GG_istore hk (pc' := 22) [(4, .int 0), (0, .ref (kh k + 163)), (1, .int l1), (2, .int l2), (3, .int l3)] dX8_merges_20 rfl (by decide) rfl ?_
    refine GG_sub (L' := [(0, .ref (kh k + 163)), (1, .int l1), (2, .int l2), (3, .int l3), (4, .int 0)]) [1, 2, 3, 4, 0] rfl ?_
    exact m_X8_merges_22 hk hq  1000 M l1 l2 l3 0 
  · refine GG_aload_n hk (pc' := 13) 0 dX8_merges_12 rfl rfl rfl ?_
    refine GG_iconst hk (pc' := 14) 3 dX8_merges_13 rfl rfl ?_
    refine GG_iload_n hk (pc' := 15) 1 dX8_merges_14 rfl rfl rfl ?_
    refine GG_callVi hk (st := []) (pc' := 18) mf_X8_fails mv_X8_fails LC8 rfl (c_X8_fails _ _ _ M 3 l1 ) (by omega) tw_1075 rfl rfl rfl (Nat.le_of_ble_eq_true rfl) dX8_merges_15 rfl (fun z3 e_z3 => ?_)
    exact GG_zret hk hq dX8_merges_18
theorem c_X8_merges (l : Launch) (C : DD) (a : Nat) (M : Mem) (l1 : Int32) (l2 : Int32) (l3 : Int32)  : CI l C (a) yX8_merges cX8_merges 7 .boolean 2 [.ref (a + 163), .int l1, .int l2, .int l3] M (f_X8_merges M l1 l2 l3) := by
  refine CI_of RX8 (by decide +kernel) rfl (Nat.le_of_ble_eq_true rfl) (fun k q hk hq e1 e2 e3 => ?_)
  subst e1; subst e2; subst e3
  exact m_X8_merges hk hq M l1 l2 l3 

/-! SettingsInLayersModel.takes(III)Z -/
noncomputable def f_X8_takes_290 (rs : Mem → Int32 → Int32 → Option (Int32 × Mem)) (M : Mem) (l1 : Int32) (l2 : Int32) (l4 : Int32) (l6 : Int32) : Option (Int32 × Mem) :=
    if l4 = 0 then
      Option.bind (f_X8_makes rs M l6 l1 l2) fun z2 =>
      if ¬ z2.1 = 0 then
        Option.bind (f_X8_is z2.2 l2 l6) fun z4 =>
        bret 1 z4
      else
        bret 0 z2.2
    else
      bret 1 M
set_option maxRecDepth 20000 in
theorem m_X8_takes_290 {k : KT} {q : Int32 × Mem} (rs : Mem → Int32 → Int32 → Option (Int32 × Mem)) (hr : Nat) (hb : 100 ≤ hr) (hrs : ∀ (M : Mem) (x0 : Int32) (x1 : Int32), CI (kl k) (kC k) (kh k) yX8_resolves_ cX8_resolves_ 5 .boolean hr [.ref (kh k + 163), .int x0, .int x1] M (rs M x0 x1)) (hk : CX k cX8_takes RX8 9 (some .boolean) (hr + 8)) (hq : RI k q) (M : Mem) (l1 : Int32) (l2 : Int32) (l4 : Int32) (l6 : Int32)  : GG k q (wM k M) 290 [(0, .ref (kh k + 163)), (1, .int l1), (2, .int l2), (4, .int l4), (6, .int l6)] [] (f_X8_takes_290 rs  M l1 l2 l4 l6) := by
  unfold f_X8_takes_290
  refine GG_iload hk (pc' := 292) 3 dX8_takes_290 rfl rfl ?_
  refine GG_if_eq hk 297 (pc' := 295) dX8_takes_292 rfl (by decide) (fun c1 => ?_) (fun c1 => ?_)
  · refine GG_aload_n hk (pc' := 298) 0 dX8_takes_297 rfl rfl rfl ?_
    refine GG_iload hk (pc' := 300) 4 dX8_takes_298 rfl rfl ?_
    refine GG_iload_n hk (pc' := 301) 1 dX8_takes_300 rfl rfl rfl ?_
    refine GG_iload_n hk (pc' := 302) 2 dX8_takes_301 rfl rfl rfl ?_
    refine GG_callVi hk (st := []) (pc' := 305) mf_X8_makes mv_X8_makes LC8 rfl (c_X8_makes _ _ _ rs hr hb hrs M l6 l1 l2 ) (by omega) tw_1083 rfl rfl rfl (Nat.le_of_ble_eq_true rfl) dX8_takes_302 rfl (fun z2 e_z2 => ?_)
    refine GG_if_ne hk 310 (pc' := 308) dX8_takes_305 rfl (by decide) (fun c3 => ?_) (fun c3 => ?_)
    · refine GG_aload_n hk (pc' := 311) 0 dX8_takes_310 rfl rfl rfl ?_
      refine GG_iload_n hk (pc' := 312) 2 dX8_takes_311 rfl rfl rfl ?_
      refine GG_iload hk (pc' := 314) 4 dX8_takes_312 rfl rfl ?_
      refine GG_callVv hk (st := []) (pc' := 317) mf_X8_is mv_X8_is LC8 rfl (c_X8_is _ _ _ z2.2 l2 l6 ) (by omega) tw_1087 rfl rfl rfl (Nat.le_of_ble_eq_true rfl) dX8_takes_314 rfl (fun z4 e_z4 => ?_)
      refine GG_iconst hk (pc' := 318) 1 dX8_takes_317 rfl rfl ?_
      exact GG_zret hk hq dX8_takes_318
    · refine GG_iconst hk (pc' := 309) 0 dX8_takes_308 rfl rfl ?_
      exact GG_zret hk hq dX8_takes_309
  · refine GG_iconst hk (pc' := 296) 1 dX8_takes_295 rfl rfl ?_
    exact GG_zret hk hq dX8_takes_296
noncomputable def f_X8_takes_256 (rs : Mem → Int32 → Int32 → Option (Int32 × Mem)) (k21 : Mem → Int32 → Int32 → Int32 → Int32 → Int32 → Int32 → Int32 → Option (Int32 × Mem)) (M : Mem) (l1 : Int32) (l2 : Int32) (l3 : Int32) (l4 : Int32) (l6 : Int32) (l7 : Int32) : Option (Int32 × Mem) :=
    Option.bind (rd 12 (M 172) l2) fun v1 =>
    if v1 ≤ 999 then
      k21 M l1 l2 l3 l4 0 l6 (l7 + 1)
    else
      if ¬ l4 = 2 then
        k21 M l1 l2 l3 l4 0 l6 (l7 + 1)
      else
        Option.bind (f_X8_fails M 4 l1) fun z4 =>
        bret z4.1 z4.2
set_option maxRecDepth 20000 in
theorem m_X8_takes_256 {k : KT} {q : Int32 × Mem} (rs : Mem → Int32 → Int32 → Option (Int32 × Mem)) (hr : Nat) (hb : 100 ≤ hr) (hrs : ∀ (M : Mem) (x0 : Int32) (x1 : Int32), CI (kl k) (kC k) (kh k) yX8_resolves_ cX8_resolves_ 5 .boolean hr [.ref (kh k + 163), .int x0, .int x1] M (rs M x0 x1)) (hk : CX k cX8_takes RX8 9 (some .boolean) (hr + 8)) (hq : RI k q) (k21 : Mem → Int32 → Int32 → Int32 → Int32 → Int32 → Int32 → Int32 → Option (Int32 × Mem)) (hk21 : ∀ (M : Mem) (l1 : Int32) (l2 : Int32) (l3 : Int32) (l4 : Int32) (l5 : Int32) (l6 : Int32) (l7 : Int32) , GG k q (wM k M) 21 [(0, .ref (kh k + 163)), (1, .int l1), (2, .int l2), (3, .int l3), (4, .int l4), (5, .int l5), (6, .int l6), (7, .int l7)] [] (k21 M l1 l2 l3 l4 l5 l6 l7)) (M : Mem) (l1 : Int32) (l2 : Int32) (l3 : Int32) (l4 : Int32) (l6 : Int32) (l7 : Int32)  : GG k q (wM k M) 256 [(0, .ref (kh k + 163)), (1, .int l1), (2, .int l2), (3, .int l3), (4, .int l4), (6, .int l6), (7, .int l7)] [] (f_X8_takes_256 rs k21 M l1 l2 l3 l4 l6 l7) := by
  unfold f_X8_takes_256
  refine GG_aload_n hk (pc' := 257) 0 dX8_takes_256 rfl rfl rfl ?_
  refine GG_get hk LC8 14 (v := .ref (kh k + 172)) (pc' := 260) tw_856 rfl rfl (by decide) rfl dX8_takes_257 rfl ?_
  refine GG_iload_n hk (pc' := 261) 2 dX8_takes_260 rfl rfl rfl ?_
  refine GG_iald hk (pc' := 262) rfl rfl dX8_takes_261 rfl (fun v1 e_v1 => ?_)
  refine GG_sipush hk (pc' := 265) 999 dX8_takes_262 rfl rfl ?_
  refine GG_icmp_le hk 281 (pc' := 268) dX8_takes_265 rfl (by decide) (fun c2 => ?_) (fun c2 => ?_)
  · refine GG_iconst hk (pc' := 282) 0 dX8_takes_281 rfl rfl ?_
    refine GG_istore hk (pc' := 284) [(5, .int 0), (0, .ref (kh k + 163)), (1, .int l1), (2, .int l2), (3, .int l3), (4, .int l4), (6, .int l6), (7, .int l7)] dX8_takes_282 rfl (by decide) rfl ?_
    refine GG_iinc hk (pc' := 287) 7 (l7 + 1) [(7, .int (l7 + 1)), (5, .int 0), (0, .ref (kh k + 163)), (1, .int l1), (2, .int l2), (3, .int l3), (4, .int l4), (6, .int l6)] dX8_takes_284 rfl rfl rfl (by decide) rfl ?_
    refine GG_goto hk 21 dX8_takes_287 (by decide) ?_
    refine GG_sub (L' := [(0, .ref (kh k + 163)), (1, .int l1), (2, .int l2), (3, .int l3), (4, .int l4), (5, .int 0), (6, .int l6), (7, .int (l7 + 1))]) [2, 3, 4, 5, 6, 1, 7, 0] rfl ?_
    exact hk21 M l1 l2 l3 l4 0 l6 (l7 + 1) 
  · refine GG_iload hk (pc' := 270) 4 dX8_takes_268 rfl rfl ?_
    refine GG_iconst hk (pc' := 271) 2 dX8_takes_270 rfl rfl ?_
    refine GG_icmp_ne hk 281 (pc' := 274) dX8_takes_271 rfl (by decide) (fun c3 => ?_) (fun c3 => ?_)
    · refine GG_iconst hk (pc' := 282) 0 dX8_takes_281 rfl rfl ?_
      refine GG_istore hk (pc' := 284) [(5, .int 0), (0, .ref (kh k + 163)), (1, .int l1), (2, .int l2), (3, .int l3), (4, .int l4), (6, .int l6), (7, .int l7)] dX8_takes_282 rfl (by decide) rfl ?_
      refine GG_iinc hk (pc' := 287) 7 (l7 + 1) [(7, .int (l7 + 1)), (5, .int 0), (0, .ref (kh k + 163)), (1, .int l1), (2, .int l2), (3, .int l3), (4, .int l4), (6, .int l6)] dX8_takes_284 rfl rfl rfl (by decide) rfl ?_
      refine GG_goto hk 21 dX8_takes_287 (by decide) ?_
      refine GG_sub (L' := [(0, .ref (kh k + 163)), (1, .int l1), (2, .int l2), (3, .int l3), (4, .int l4), (5, .int 0), (6, .int l6), (7, .int (l7 + 1))]) [2, 3, 4, 5, 6, 1, 7, 0] rfl ?_
      exact hk21 M l1 l2 l3 l4 0 l6 (l7 + 1) 
    · refine GG_aload_n hk (pc' := 275) 0 dX8_takes_274 rfl rfl rfl ?_
      refine GG_iconst hk (pc' := 276) 4 dX8_takes_275 rfl rfl ?_
      refine GG_iload_n hk (pc' := 277) 1 dX8_takes_276 rfl rfl rfl ?_
      refine GG_callVi hk (st := []) (pc' := 280) mf_X8_fails mv_X8_fails LC8 rfl (c_X8_fails _ _ _ M 4 l1 ) (by omega) tw_1075 rfl rfl rfl (Nat.le_of_ble_eq_true rfl) dX8_takes_277 rfl (fun z4 e_z4 => ?_)
      exact GG_zret hk hq dX8_takes_280
noncomputable def f_X8_takes_193 (rs : Mem → Int32 → Int32 → Option (Int32 × Mem)) (k21 : Mem → Int32 → Int32 → Int32 → Int32 → Int32 → Int32 → Int32 → Option (Int32 × Mem)) (M : Mem) (l1 : Int32) (l2 : Int32) (l3 : Int32) (l4 : Int32) (l6 : Int32) (l7 : Int32) (l8 : Int32) : Option (Int32 × Mem) :=
    Option.bind (f_X8_is M l2 l8) fun z1 =>
    f_X8_takes_256 rs k21 z1 l1 l2 l3 l4 l6 l7
set_option maxRecDepth 20000 in
theorem m_X8_takes_193 {k : KT} {q : Int32 × Mem} (rs : Mem → Int32 → Int32 → Option (Int32 × Mem)) (hr : Nat) (hb : 100 ≤ hr) (hrs : ∀ (M : Mem) (x0 : Int32) (x1 : Int32), CI (kl k) (kC k) (kh k) yX8_resolves_ cX8_resolves_ 5 .boolean hr [.ref (kh k + 163), .int x0, .int x1] M (rs M x0 x1)) (hk : CX k cX8_takes RX8 9 (some .boolean) (hr + 8)) (hq : RI k q) (k21 : Mem → Int32 → Int32 → Int32 → Int32 → Int32 → Int32 → Int32 → Option (Int32 × Mem)) (hk21 : ∀ (M : Mem) (l1 : Int32) (l2 : Int32) (l3 : Int32) (l4 : Int32) (l5 : Int32) (l6 : Int32) (l7 : Int32) , GG k q (wM k M) 21 [(0, .ref (kh k + 163)), (1, .int l1), (2, .int l2), (3, .int l3), (4, .int l4), (5, .int l5), (6, .int l6), (7, .int l7)] [] (k21 M l1 l2 l3 l4 l5 l6 l7)) (M : Mem) (l1 : Int32) (l2 : Int32) (l3 : Int32) (l4 : Int32) (l6 : Int32) (l7 : Int32) (l8 : Int32)  : GG k q (wM k M) 193 [(0, .ref (kh k + 163)), (1, .int l1), (2, .int l2), (3, .int l3), (4, .int l4), (6, .int l6), (7, .int l7), (8, .int l8)] [] (f_X8_takes_193 rs k21 M l1 l2 l3 l4 l6 l7 l8) := by
  unfold f_X8_takes_193
  refine GG_aload_n hk (pc' := 194) 0 dX8_takes_193 rfl rfl rfl ?_
  refine GG_iload_n hk (pc' := 195) 2 dX8_takes_194 rfl rfl rfl ?_
  refine GG_iload hk (pc' := 197) 7 dX8_takes_195 rfl rfl ?_
  refine GG_callVv hk (st := []) (pc' := 200) mf_X8_is mv_X8_is LC8 rfl (c_X8_is _ _ _ M l2 l8 ) (by omega) tw_1087 rfl rfl rfl (Nat.le_of_ble_eq_true rfl) dX8_takes_197 rfl (fun z1 e_z1 => ?_)
  refine GG_goto hk 256 dX8_takes_200 (by decide) ?_
  refine GG_sub (L' := [(0, .ref (kh k + 163)), (1, .int l1), (2, .int l2), (3, .int l3), (4, .int l4), (6, .int l6), (7, .int l7)]) [0, 1, 2, 3, 4, 5, 6] rfl ?_
  exact m_X8_takes_256 rs hr hb hrs hk hq k21 hk21 z1 l1 l2 l3 l4 l6 l7 
noncomputable def f_X8_takes_203 (rs : Mem → Int32 → Int32 → Option (Int32 × Mem)) (k21 : Mem → Int32 → Int32 → Int32 → Int32 → Int32 → Int32 → Int32 → Option (Int32 × Mem)) (M : Mem) (l1 : Int32) (l2 : Int32) (l3 : Int32) (l4 : Int32) (l6 : Int32) (l7 : Int32) (l8 : Int32) : Option (Int32 × Mem) :=
    if ¬ l4 = 2 then
      f_X8_takes_256 rs k21 M l1 l2 l3 l4 l6 l7
    else
      Option.bind (rd 12 (M 172) l2) fun v2 =>
      Option.bind (rd 12 (M 172) (l2 + 1)) fun v3 =>
      Option.bind (wra 12 M 172 l2 (v2 + v3)) fun M4 =>
      Option.bind (rd 12 (M4 174) l2) fun v5 =>
      Option.bind (wra 12 M4 174 l2 (v5 ||| (1 <<< (l8 &&& 31)))) fun M6 =>
      Option.bind (rd 12 (M6 175) l2) fun v7 =>
      Option.bind (rd 12 (M6 175) (l2 + 1)) fun v8 =>
      Option.bind (wra 12 M6 175 l2 (v7 ||| v8)) fun M9 =>
      f_X8_takes_256 rs k21 M9 l1 l2 l3 l4 l6 l7
set_option maxRecDepth 20000 in
theorem m_X8_takes_203 {k : KT} {q : Int32 × Mem} (rs : Mem → Int32 → Int32 → Option (Int32 × Mem)) (hr : Nat) (hb : 100 ≤ hr) (hrs : ∀ (M : Mem) (x0 : Int32) (x1 : Int32), CI (kl k) (kC k) (kh k) yX8_resolves_ cX8_resolves_ 5 .boolean hr [.ref (kh k + 163), .int x0, .int x1] M (rs M x0 x1)) (hk : CX k cX8_takes RX8 9 (some .boolean) (hr + 8)) (hq : RI k q) (k21 : Mem → Int32 → Int32 → Int32 → Int32 → Int32 → Int32 → Int32 → Option (Int32 × Mem)) (hk21 : ∀ (M : Mem) (l1 : Int32) (l2 : Int32) (l3 : Int32) (l4 : Int32) (l5 : Int32) (l6 : Int32) (l7 : Int32) , GG k q (wM k M) 21 [(0, .ref (kh k + 163)), (1, .int l1), (2, .int l2), (3, .int l3), (4, .int l4), (5, .int l5), (6, .int l6), (7, .int l7)] [] (k21 M l1 l2 l3 l4 l5 l6 l7)) (M : Mem) (l1 : Int32) (l2 : Int32) (l3 : Int32) (l4 : Int32) (l6 : Int32) (l7 : Int32) (l8 : Int32)  : GG k q (wM k M) 203 [(0, .ref (kh k + 163)), (1, .int l1), (2, .int l2), (3, .int l3), (4, .int l4), (6, .int l6), (7, .int l7), (8, .int l8)] [] (f_X8_takes_203 rs k21 M l1 l2 l3 l4 l6 l7 l8) := by
  unfold f_X8_takes_203
  refine GG_iload hk (pc' := 205) 4 dX8_takes_203 rfl rfl ?_
  refine GG_iconst hk (pc' := 206) 2 dX8_takes_205 rfl rfl ?_
  refine GG_icmp_ne hk 256 (pc' := 209) dX8_takes_206 rfl (by decide) (fun c1 => ?_) (fun c1 => ?_)
  · refine GG_sub (L' := [(0, .ref (kh k + 163)), (1, .int l1), (2, .int l2), (3, .int l3), (4, .int l4), (6, .int l6), (7, .int l7)]) [0, 1, 2, 3, 4, 5, 6] rfl ?_
    exact m_X8_takes_256 rs hr hb hrs hk hq k21 hk21 M l1 l2 l3 l4 l6 l7 
  · refine GG_aload_n hk (pc' := 210) 0 dX8_takes_209 rfl rfl rfl ?_
    refine GG_get hk LC8 14 (v := .ref (kh k + 172)) (pc' := 213) tw_856 rfl rfl (by decide) rfl dX8_takes_210 rfl ?_
    refine GG_iload_n hk (pc' := 214) 2 dX8_takes_213 rfl rfl rfl ?_
    refine GG_dup2 hk (pc' := 215) dX8_takes_214 rfl rfl rfl ?_
    refine GG_iald hk (pc' := 216) rfl rfl dX8_takes_215 rfl (fun v2 e_v2 => ?_)
    refine GG_aload_n hk (pc' := 217) 0 dX8_takes_216 rfl rfl rfl ?_
    refine GG_get hk LC8 14 (v := .ref (kh k + 172)) (pc' := 220) tw_856 rfl rfl (by decide) rfl dX8_takes_217 rfl ?_
    refine GG_iload_n hk (pc' := 221) 2 dX8_takes_220 rfl rfl rfl ?_
    refine GG_iconst hk (pc' := 222) 1 dX8_takes_221 rfl rfl ?_
    refine GG_iadd hk (pc' := 223) dX8_takes_222 rfl ?_
    refine GG_iald hk (pc' := 224) rfl rfl dX8_takes_223 rfl (fun v3 e_v3 => ?_)
    refine GG_iadd hk (pc' := 225) dX8_takes_224 rfl ?_
    refine GG_iast hk (pc' := 226) rfl rfl dX8_takes_225 rfl (fun M4 e_M4 => ?_)
    refine GG_aload_n hk (pc' := 227) 0 dX8_takes_226 rfl rfl rfl ?_
    refine GG_get hk LC8 16 (v := .ref (kh k + 174)) (pc' := 230) tw_858 rfl rfl (by decide) rfl dX8_takes_227 rfl ?_
    refine GG_iload_n hk (pc' := 231) 2 dX8_takes_230 rfl rfl rfl ?_
    refine GG_dup2 hk (pc' := 232) dX8_takes_231 rfl rfl rfl ?_
    refine GG_iald hk (pc' := 233) rfl rfl dX8_takes_232 rfl (fun v5 e_v5 => ?_)
    refine GG_iconst hk (pc' := 234) 1 dX8_takes_233 rfl rfl ?_
    refine GG_iload hk (pc' := 236) 7 dX8_takes_234 rfl rfl ?_
    refine GG_ishl hk (pc' := 237) dX8_takes_236 rfl ?_
    refine GG_ior hk (pc' := 238) dX8_takes_237 rfl ?_
    refine GG_iast hk (pc' := 239) rfl rfl dX8_takes_238 rfl (fun M6 e_M6 => ?_)
    refine GG_aload_n hk (pc' := 240) 0 dX8_takes_239 rfl rfl rfl ?_
    refine GG_get hk LC8 17 (v := .ref (kh k + 175)) (pc' := 243) tw_859 rfl rfl (by decide) rfl dX8_takes_240 rfl ?_
    refine GG_iload_n hk (pc' := 244) 2 dX8_takes_243 rfl rfl rfl ?_
    refine GG_dup2 hk (pc' := 245) dX8_takes_244 rfl rfl rfl ?_
    refine GG_iald hk (pc' := 246) rfl rfl dX8_takes_245 rfl (fun v7 e_v7 => ?_)
    refine GG_aload_n hk (pc' := 247) 0 dX8_takes_246 rfl rfl rfl ?_
    refine GG_get hk LC8 17 (v := .ref (kh k + 175)) (pc' := 250) tw_859 rfl rfl (by decide) rfl dX8_takes_247 rfl ?_
    refine GG_iload_n hk (pc' := 251) 2 dX8_takes_250 rfl rfl rfl ?_
    refine GG_iconst hk (pc' := 252) 1 dX8_takes_251 rfl rfl ?_
    refine GG_iadd hk (pc' := 253) dX8_takes_252 rfl ?_
    refine GG_iald hk (pc' := 254) rfl rfl dX8_takes_253 rfl (fun v8 e_v8 => ?_)
    refine GG_ior hk (pc' := 255) dX8_takes_254 rfl ?_
    refine GG_iast hk (pc' := 256) rfl rfl dX8_takes_255 rfl (fun M9 e_M9 => ?_)
    refine GG_sub (L' := [(0, .ref (kh k + 163)), (1, .int l1), (2, .int l2), (3, .int l3), (4, .int l4), (6, .int l6), (7, .int l7)]) [0, 1, 2, 3, 4, 5, 6] rfl ?_
    exact m_X8_takes_256 rs hr hb hrs hk hq k21 hk21 M9 l1 l2 l3 l4 l6 l7 
noncomputable def f_X8_takes_134 (rs : Mem → Int32 → Int32 → Option (Int32 × Mem)) (k21 : Mem → Int32 → Int32 → Int32 → Int32 → Int32 → Int32 → Int32 → Option (Int32 × Mem)) (M : Mem) (l1 : Int32) (l2 : Int32) (l3 : Int32) (l4 : Int32) (l6 : Int32) (l7 : Int32) (l8 : Int32) : Option (Int32 × Mem) :=
    Option.bind (f_X8_merges M l1 l2 l8) fun z1 =>
    if ¬ z1.1 = 0 then
      k21 z1.2 l1 l2 l3 l4 0 l6 (l7 + 1)
    else
      bret 0 z1.2
set_option maxRecDepth 20000 in
theorem m_X8_takes_134 {k : KT} {q : Int32 × Mem} (rs : Mem → Int32 → Int32 → Option (Int32 × Mem)) (hr : Nat) (hb : 100 ≤ hr) (hrs : ∀ (M : Mem) (x0 : Int32) (x1 : Int32), CI (kl k) (kC k) (kh k) yX8_resolves_ cX8_resolves_ 5 .boolean hr [.ref (kh k + 163), .int x0, .int x1] M (rs M x0 x1)) (hk : CX k cX8_takes RX8 9 (some .boolean) (hr + 8)) (hq : RI k q) (k21 : Mem → Int32 → Int32 → Int32 → Int32 → Int32 → Int32 → Int32 → Option (Int32 × Mem)) (hk21 : ∀ (M : Mem) (l1 : Int32) (l2 : Int32) (l3 : Int32) (l4 : Int32) (l5 : Int32) (l6 : Int32) (l7 : Int32) , GG k q (wM k M) 21 [(0, .ref (kh k + 163)), (1, .int l1), (2, .int l2), (3, .int l3), (4, .int l4), (5, .int l5), (6, .int l6), (7, .int l7)] [] (k21 M l1 l2 l3 l4 l5 l6 l7)) (M : Mem) (l1 : Int32) (l2 : Int32) (l3 : Int32) (l4 : Int32) (l6 : Int32) (l7 : Int32) (l8 : Int32)  : GG k q (wM k M) 134 [(0, .ref (kh k + 163)), (1, .int l1), (2, .int l2), (3, .int l3), (4, .int l4), (6, .int l6), (7, .int l7), (8, .int l8)] [] (f_X8_takes_134 rs k21 M l1 l2 l3 l4 l6 l7 l8) := by
  unfold f_X8_takes_134
  refine GG_aload_n hk (pc' := 135) 0 dX8_takes_134 rfl rfl rfl ?_
  refine GG_iload_n hk (pc' := 136) 1 dX8_takes_135 rfl rfl rfl ?_
  refine GG_iload_n hk (pc' := 137) 2 dX8_takes_136 rfl rfl rfl ?_
  refine GG_iload hk (pc' := 139) 7 dX8_takes_137 rfl rfl ?_
  refine GG_callVi hk (st := []) (pc' := 142) mf_X8_merges mv_X8_merges LC8 rfl (c_X8_merges _ _ _ M l1 l2 l8 ) (by omega) tw_1091 rfl rfl rfl (Nat.le_of_ble_eq_true rfl) dX8_takes_139 rfl (fun z1 e_z1 => ?_)
  refine GG_if_ne hk 281 (pc' := 145) dX8_takes_142 rfl (by decide) (fun c2 => ?_) (fun c2 => ?_)
  · refine GG_iconst hk (pc' := 282) 0 dX8_takes_281 rfl rfl ?_
    refine GG_istore hk (pc' := 284) [(5, .int 0), (0, .ref (kh k + 163)), (1, .int l1), (2, .int l2), (3, .int l3), (4, .int l4), (6, .int l6), (7, .int l7), (8, .int l8)] dX8_takes_282 rfl (by decide) rfl ?_
    refine GG_iinc hk (pc' := 287) 7 (l7 + 1) [(7, .int (l7 + 1)), (5, .int 0), (0, .ref (kh k + 163)), (1, .int l1), (2, .int l2), (3, .int l3), (4, .int l4), (6, .int l6), (8, .int l8)] dX8_takes_284 rfl rfl rfl (by decide) rfl ?_
    refine GG_goto hk 21 dX8_takes_287 (by decide) ?_
    refine GG_sub (L' := [(0, .ref (kh k + 163)), (1, .int l1), (2, .int l2), (3, .int l3), (4, .int l4), (5, .int 0), (6, .int l6), (7, .int (l7 + 1))]) [2, 3, 4, 5, 6, 1, 7, 0] rfl ?_
    exact hk21 z1.2 l1 l2 l3 l4 0 l6 (l7 + 1) 
  · refine GG_iconst hk (pc' := 146) 0 dX8_takes_145 rfl rfl ?_
    exact GG_zret hk hq dX8_takes_146
noncomputable def f_X8_takes_21 (rs : Mem → Int32 → Int32 → Option (Int32 × Mem)) : Nat → Mem → Int32 → Int32 → Int32 → Int32 → Int32 → Int32 → Int32 → Option (Int32 × Mem)
  | 0, _, _, _, _, _, _, _, _ => none
  | n + 1, M, l1, l2, l3, l4, l5, l6, l7 =>
    if 6 ≤ l7 then
      f_X8_takes_290 rs  M l1 l2 l4 l6
    else
      Option.bind (f_X8_ordered M l7) fun z2 =>
      if ¬ ((l3 >>> (z2.1 &&& 31)) &&& 1) = 0 then
        if ¬ l4 = 0 then
          Option.bind (f_X8_makes rs z2.2 z2.1 l1 l2) fun z5 =>
          if ¬ z5.1 = 0 then
            if ¬ l4 = 1 then
              if ¬ l4 = 4 then
                Option.bind (rd 12 (z5.2 171) (l2 + 1)) fun v9 =>
                if v9 = 0 then
                  if ¬ l5 = 0 then
                    f_X8_takes_193 rs (f_X8_takes_21 rs  n) z5.2 l1 l2 l3 l4 z2.1 l7 z2.1
                  else
                    if ¬ l4 = 3 then
                      f_X8_takes_203 rs (f_X8_takes_21 rs  n) z5.2 l1 l2 l3 l4 z2.1 l7 z2.1
                    else
                      Option.bind (rd 12 (z5.2 172) (l2 + 1)) fun v13 =>
                      Option.bind (rd 12 (z5.2 172) l2) fun v14 =>
                      if v13 ≤ v14 then
                        f_X8_takes_203 rs (f_X8_takes_21 rs  n) z5.2 l1 l2 l3 l4 z2.1 l7 z2.1
                      else
                        f_X8_takes_193 rs (f_X8_takes_21 rs  n) z5.2 l1 l2 l3 l4 z2.1 l7 z2.1
                else
                  Option.bind (f_X8_fails z5.2 3 l1) fun z16 =>
                  bret z16.1 z16.2
              else
                if l5 = 0 then
                  f_X8_takes_134 rs (f_X8_takes_21 rs  n) z5.2 l1 l2 l3 l4 z2.1 l7 z2.1
                else
                  Option.bind (wra 12 z5.2 171 l2 1) fun M18 =>
                  Option.bind (wra 12 M18 172 l2 0) fun M19 =>
                  Option.bind (wra 12 M19 173 l2 0) fun M20 =>
                  Option.bind (wra 12 M20 174 l2 0) fun M21 =>
                  Option.bind (wra 12 M21 175 l2 0) fun M22 =>
                  f_X8_takes_134 rs (f_X8_takes_21 rs  n) M22 l1 l2 l3 l4 z2.1 l7 z2.1
            else
              Option.bind (f_X8_is z5.2 l2 z2.1) fun z23 =>
              bret 1 z23
          else
            bret 0 z5.2
        else
          f_X8_takes_21 rs  n z2.2 l1 l2 l3 l4 l5 z2.1 (l7 + 1)
      else
        f_X8_takes_21 rs  n z2.2 l1 l2 l3 l4 l5 l6 (l7 + 1)
set_option maxRecDepth 20000 in
theorem m_X8_takes_21 {k : KT} {q : Int32 × Mem} (rs : Mem → Int32 → Int32 → Option (Int32 × Mem)) (hr : Nat) (hb : 100 ≤ hr) (hrs : ∀ (M : Mem) (x0 : Int32) (x1 : Int32), CI (kl k) (kC k) (kh k) yX8_resolves_ cX8_resolves_ 5 .boolean hr [.ref (kh k + 163), .int x0, .int x1] M (rs M x0 x1)) (hk : CX k cX8_takes RX8 9 (some .boolean) (hr + 8)) (hq : RI k q) : ∀ (n : Nat) (M : Mem) (l1 : Int32) (l2 : Int32) (l3 : Int32) (l4 : Int32) (l5 : Int32) (l6 : Int32) (l7 : Int32) , GG k q (wM k M) 21 [(0, .ref (kh k + 163)), (1, .int l1), (2, .int l2), (3, .int l3), (4, .int l4), (5, .int l5), (6, .int l6), (7, .int l7)] [] (f_X8_takes_21 rs  n M l1 l2 l3 l4 l5 l6 l7) := by
  intro n
  induction n with
  | zero => intros; exact GG_none
  | succ n ih =>
    intro M l1 l2 l3 l4 l5 l6 l7 
    rw [f_X8_takes_21]
    refine GG_iload hk (pc' := 23) 7 dX8_takes_21 rfl rfl ?_
    refine GG_bipush hk (pc' := 25) 6 dX8_takes_23 rfl rfl ?_
    refine GG_icmp_ge hk 290 (pc' := 28) dX8_takes_25 rfl (by decide) (fun c1 => ?_) (fun c1 => ?_)
    · refine GG_sub (L' := [(0, .ref (kh k + 163)), (1, .int l1), (2, .int l2), (4, .int l4), (6, .int l6)]) [0, 1, 2, 4, 6] rfl ?_
      exact m_X8_takes_290 rs hr hb hrs hk hq  M l1 l2 l4 l6 
    · refine GG_aload_n hk (pc' := 29) 0 dX8_takes_28 rfl rfl rfl ?_
      refine GG_iload hk (pc' := 31) 7 dX8_takes_29 rfl rfl ?_
      refine GG_callVi hk (st := []) (pc' := 34) mf_X8_ordered mv_X8_ordered LC8 rfl (c_X8_ordered _ _ _ M l7 ) (by omega) tw_1059 rfl rfl rfl (Nat.le_of_ble_eq_true rfl) dX8_takes_31 rfl (fun z2 e_z2 => ?_)
      refine GG_istore hk (pc' := 36) [(8, .int z2.1), (0, .ref (kh k + 163)), (1, .int l1), (2, .int l2), (3, .int l3), (4, .int l4), (5, .int l5), (6, .int l6), (7, .int l7)] dX8_takes_34 rfl (by decide) rfl ?_
      refine GG_iload_n hk (pc' := 37) 4 dX8_takes_36 rfl rfl rfl ?_
      refine GG_iload hk (pc' := 39) 0 dX8_takes_37 rfl rfl ?_
      refine GG_ishr hk (pc' := 40) dX8_takes_39 rfl ?_
      refine GG_iconst hk (pc' := 41) 1 dX8_takes_40 rfl rfl ?_
      refine GG_iand hk (pc' := 42) dX8_takes_41 rfl ?_
      refine GG_if_ne hk 48 (pc' := 45) dX8_takes_42 rfl (by decide) (fun c3 => ?_) (fun c3 => ?_)
      · refine GG_iload hk (pc' := 50) 0 dX8_takes_48 rfl rfl ?_
        refine GG_istore hk (pc' := 52) [(6, .int z2.1), (8, .int z2.1), (0, .ref (kh k + 163)), (1, .int l1), (2, .int l2), (3, .int l3), (4, .int l4), (5, .int l5), (7, .int l7)] dX8_takes_50 rfl (by decide) rfl ?_
        refine GG_iload hk (pc' := 54) 6 dX8_takes_52 rfl rfl ?_
        refine GG_if_ne hk 60 (pc' := 57) dX8_takes_54 rfl (by decide) (fun c4 => ?_) (fun c4 => ?_)
        · refine GG_aload_n hk (pc' := 61) 2 dX8_takes_60 rfl rfl rfl ?_
          refine GG_iload hk (pc' := 63) 1 dX8_takes_61 rfl rfl ?_
          refine GG_iload_n hk (pc' := 64) 3 dX8_takes_63 rfl rfl rfl ?_
          refine GG_iload_n hk (pc' := 65) 4 dX8_takes_64 rfl rfl rfl ?_
          refine GG_callVi hk (st := []) (pc' := 68) mf_X8_makes mv_X8_makes LC8 rfl (c_X8_makes _ _ _ rs hr hb hrs z2.2 z2.1 l1 l2 ) (by omega) tw_1083 rfl rfl rfl (Nat.le_of_ble_eq_true rfl) dX8_takes_65 rfl (fun z5 e_z5 => ?_)
          refine GG_if_ne hk 73 (pc' := 71) dX8_takes_68 rfl (by decide) (fun c6 => ?_) (fun c6 => ?_)
          · refine GG_iload hk (pc' := 75) 6 dX8_takes_73 rfl rfl ?_
            refine GG_iconst hk (pc' := 76) 1 dX8_takes_75 rfl rfl ?_
            refine GG_icmp_ne hk 88 (pc' := 79) dX8_takes_76 rfl (by decide) (fun c7 => ?_) (fun c7 => ?_)
            · refine GG_iload hk (pc' := 90) 6 dX8_takes_88 rfl rfl ?_
              refine GG_iconst hk (pc' := 91) 4 dX8_takes_90 rfl rfl ?_
              refine GG_icmp_ne hk 147 (pc' := 94) dX8_takes_91 rfl (by decide) (fun c8 => ?_) (fun c8 => ?_)
              · refine GG_aload_n hk (pc' := 148) 2 dX8_takes_147 rfl rfl rfl ?_
                refine GG_get hk LC8 13 (v := .ref (kh k + 171)) (pc' := 151) tw_855 rfl rfl (by decide) rfl dX8_takes_148 rfl ?_
                refine GG_iload_n hk (pc' := 152) 4 dX8_takes_151 rfl rfl rfl ?_
                refine GG_iconst hk (pc' := 153) 1 dX8_takes_152 rfl rfl ?_
                refine GG_iadd hk (pc' := 154) dX8_takes_153 rfl ?_
                refine GG_iald hk (pc' := 155) rfl rfl dX8_takes_154 rfl (fun v9 e_v9 => ?_)
                refine GG_if_eq hk 165 (pc' := 158) dX8_takes_155 rfl (by decide) (fun c10 => ?_) (fun c10 => ?_)
                · refine GG_iload hk (pc' := 167) 7 dX8_takes_165 rfl rfl ?_
                  refine GG_if_ne hk 193 (pc' := 170) dX8_takes_167 rfl (by decide) (fun c11 => ?_) (fun c11 => ?_)
                  · refine GG_sub (L' := [(0, .ref (kh k + 163)), (1, .int l1), (2, .int l2), (3, .int l3), (4, .int l4), (6, .int z2.1), (7, .int l7), (8, .int z2.1)]) [2, 3, 4, 5, 6, 0, 8, 1] rfl ?_
                    exact m_X8_takes_193 rs hr hb hrs hk hq (f_X8_takes_21 rs  n) ih z5.2 l1 l2 l3 l4 z2.1 l7 z2.1 
                  · refine GG_iload hk (pc' := 172) 6 dX8_takes_170 rfl rfl ?_
                    refine GG_iconst hk (pc' := 173) 3 dX8_takes_172 rfl rfl ?_
                    refine GG_icmp_ne hk 203 (pc' := 176) dX8_takes_173 rfl (by decide) (fun c12 => ?_) (fun c12 => ?_)
                    · refine GG_sub (L' := [(0, .ref (kh k + 163)), (1, .int l1), (2, .int l2), (3, .int l3), (4, .int l4), (6, .int z2.1), (7, .int l7), (8, .int z2.1)]) [2, 3, 4, 5, 6, 0, 8, 1] rfl ?_
                      exact m_X8_takes_203 rs hr hb hrs hk hq (f_X8_takes_21 rs  n) ih z5.2 l1 l2 l3 l4 z2.1 l7 z2.1 
                    · refine GG_aload_n hk (pc' := 177) 2 dX8_takes_176 rfl rfl rfl ?_
                      refine GG_get hk LC8 14 (v := .ref (kh k + 172)) (pc' := 180) tw_856 rfl rfl (by decide) rfl dX8_takes_177 rfl ?_
                      refine GG_iload_n hk (pc' := 181) 4 dX8_takes_180 rfl rfl rfl ?_
                      refine GG_iconst hk (pc' := 182) 1 dX8_takes_181 rfl rfl ?_
                      refine GG_iadd hk (pc' := 183) dX8_takes_182 rfl ?_
                      refine GG_iald hk (pc' := 184) rfl rfl dX8_takes_183 rfl (fun v13 e_v13 => ?_)
                      refine GG_aload_n hk (pc' := 185) 2 dX8_takes_184 rfl rfl rfl ?_
                      refine GG_get hk LC8 14 (v := .ref (kh k + 172)) (pc' := 188) tw_856 rfl rfl (by decide) rfl dX8_takes_185 rfl ?_
                      refine GG_iload_n hk (pc' := 189) 4 dX8_takes_188 rfl rfl rfl ?_
                      refine GG_iald hk (pc' := 190) rfl rfl dX8_takes_189 rfl (fun v14 e_v14 => ?_)
                      refine GG_icmp_le hk 203 (pc' := 193) dX8_takes_190 rfl (by decide) (fun c15 => ?_) (fun c15 => ?_)
                      · refine GG_sub (L' := [(0, .ref (kh k + 163)), (1, .int l1), (2, .int l2), (3, .int l3), (4, .int l4), (6, .int z2.1), (7, .int l7), (8, .int z2.1)]) [2, 3, 4, 5, 6, 0, 8, 1] rfl ?_
                        exact m_X8_takes_203 rs hr hb hrs hk hq (f_X8_takes_21 rs  n) ih z5.2 l1 l2 l3 l4 z2.1 l7 z2.1 
                      · refine GG_sub (L' := [(0, .ref (kh k + 163)), (1, .int l1), (2, .int l2), (3, .int l3), (4, .int l4), (6, .int z2.1), (7, .int l7), (8, .int z2.1)]) [2, 3, 4, 5, 6, 0, 8, 1] rfl ?_
                        exact m_X8_takes_193 rs hr hb hrs hk hq (f_X8_takes_21 rs  n) ih z5.2 l1 l2 l3 l4 z2.1 l7 z2.1 
                · refine GG_aload_n hk (pc' := 159) 2 dX8_takes_158 rfl rfl rfl ?_
                  refine GG_iconst hk (pc' := 160) 3 dX8_takes_159 rfl rfl ?_
                  refine GG_iload_n hk (pc' := 161) 3 dX8_takes_160 rfl rfl rfl ?_
                  refine GG_callVi hk (st := []) (pc' := 164) mf_X8_fails mv_X8_fails LC8 rfl (c_X8_fails _ _ _ z5.2 3 l1 ) (by omega) tw_1075 rfl rfl rfl (Nat.le_of_ble_eq_true rfl) dX8_takes_161 rfl (fun z16 e_z16 => ?_)
                  exact GG_zret hk hq dX8_takes_164
              · refine GG_iload hk (pc' := 96) 7 dX8_takes_94 rfl rfl ?_
                refine GG_if_eq hk 134 (pc' := 99) dX8_takes_96 rfl (by decide) (fun c17 => ?_) (fun c17 => ?_)
                · refine GG_sub (L' := [(0, .ref (kh k + 163)), (1, .int l1), (2, .int l2), (3, .int l3), (4, .int l4), (6, .int z2.1), (7, .int l7), (8, .int z2.1)]) [2, 3, 4, 5, 6, 0, 8, 1] rfl ?_
                  exact m_X8_takes_134 rs hr hb hrs hk hq (f_X8_takes_21 rs  n) ih z5.2 l1 l2 l3 l4 z2.1 l7 z2.1 
                · refine GG_aload_n hk (pc' := 100) 2 dX8_takes_99 rfl rfl rfl ?_
                  refine GG_get hk LC8 13 (v := .ref (kh k + 171)) (pc' := 103) tw_855 rfl rfl (by decide) rfl dX8_takes_100 rfl ?_
                  refine GG_iload_n hk (pc' := 104) 4 dX8_takes_103 rfl rfl rfl ?_
                  refine GG_iconst hk (pc' := 105) 1 dX8_takes_104 rfl rfl ?_
                  refine GG_iast hk (pc' := 106) rfl rfl dX8_takes_105 rfl (fun M18 e_M18 => ?_)
                  refine GG_aload_n hk (pc' := 107) 2 dX8_takes_106 rfl rfl rfl ?_
                  refine GG_get hk LC8 14 (v := .ref (kh k + 172)) (pc' := 110) tw_856 rfl rfl (by decide) rfl dX8_takes_107 rfl ?_
                  refine GG_iload_n hk (pc' := 111) 4 dX8_takes_110 rfl rfl rfl ?_
                  refine GG_iconst hk (pc' := 112) 0 dX8_takes_111 rfl rfl ?_
                  refine GG_iast hk (pc' := 113) rfl rfl dX8_takes_112 rfl (fun M19 e_M19 => ?_)
                  refine GG_aload_n hk (pc' := 114) 2 dX8_takes_113 rfl rfl rfl ?_
                  refine GG_get hk LC8 15 (v := .ref (kh k + 173)) (pc' := 117) tw_857 rfl rfl (by decide) rfl dX8_takes_114 rfl ?_
                  refine GG_iload_n hk (pc' := 118) 4 dX8_takes_117 rfl rfl rfl ?_
                  refine GG_iconst hk (pc' := 119) 0 dX8_takes_118 rfl rfl ?_
                  refine GG_iast hk (pc' := 120) rfl rfl dX8_takes_119 rfl (fun M20 e_M20 => ?_)
                  refine GG_aload_n hk (pc' := 121) 2 dX8_takes_120 rfl rfl rfl ?_
                  refine GG_get hk LC8 16 (v := .ref (kh k + 174)) (pc' := 124) tw_858 rfl rfl (by decide) rfl dX8_takes_121 rfl ?_
                  refine GG_iload_n hk (pc' := 125) 4 dX8_takes_124 rfl rfl rfl ?_
                  refine GG_iconst hk (pc' := 126) 0 dX8_takes_125 rfl rfl ?_
                  refine GG_iast hk (pc' := 127) rfl rfl dX8_takes_126 rfl (fun M21 e_M21 => ?_)
                  refine GG_aload_n hk (pc' := 128) 2 dX8_takes_127 rfl rfl rfl ?_
                  refine GG_get hk LC8 17 (v := .ref (kh k + 175)) (pc' := 131) tw_859 rfl rfl (by decide) rfl dX8_takes_128 rfl ?_
                  refine GG_iload_n hk (pc' := 132) 4 dX8_takes_131 rfl rfl rfl ?_
                  refine GG_iconst hk (pc' := 133) 0 dX8_takes_132 rfl rfl ?_
                  refine GG_iast hk (pc' := 134) rfl rfl dX8_takes_133 rfl (fun M22 e_M22 => ?_)
                  refine GG_sub (L' := [(0, .ref (kh k + 163)), (1, .int l1), (2, .int l2), (3, .int l3), (4, .int l4), (6, .int z2.1), (7, .int l7), (8, .int z2.1)]) [2, 3, 4, 5, 6, 0, 8, 1] rfl ?_
                  exact m_X8_takes_134 rs hr hb hrs hk hq (f_X8_takes_21 rs  n) ih M22 l1 l2 l3 l4 z2.1 l7 z2.1 
            · refine GG_aload_n hk (pc' := 80) 2 dX8_takes_79 rfl rfl rfl ?_
              refine GG_iload_n hk (pc' := 81) 4 dX8_takes_80 rfl rfl rfl ?_
              refine GG_iload hk (pc' := 83) 1 dX8_takes_81 rfl rfl ?_
              refine GG_callVv hk (st := []) (pc' := 86) mf_X8_is mv_X8_is LC8 rfl (c_X8_is _ _ _ z5.2 l2 z2.1 ) (by omega) tw_1087 rfl rfl rfl (Nat.le_of_ble_eq_true rfl) dX8_takes_83 rfl (fun z23 e_z23 => ?_)
              refine GG_iconst hk (pc' := 87) 1 dX8_takes_86 rfl rfl ?_
              exact GG_zret hk hq dX8_takes_87
          · refine GG_iconst hk (pc' := 72) 0 dX8_takes_71 rfl rfl ?_
            exact GG_zret hk hq dX8_takes_72
        · refine GG_goto hk 284 dX8_takes_57 (by decide) ?_
          refine GG_iinc hk (pc' := 287) 8 (l7 + 1) [(7, .int (l7 + 1)), (6, .int z2.1), (8, .int z2.1), (0, .ref (kh k + 163)), (1, .int l1), (2, .int l2), (3, .int l3), (4, .int l4), (5, .int l5)] dX8_takes_284 rfl rfl rfl (by decide) rfl ?_
          refine GG_goto hk 21 dX8_takes_287 (by decide) ?_
          refine GG_sub (L' := [(0, .ref (kh k + 163)), (1, .int l1), (2, .int l2), (3, .int l3), (4, .int l4), (5, .int l5), (6, .int z2.1), (7, .int (l7 + 1))]) [3, 4, 5, 6, 7, 8, 1, 0] rfl ?_
          exact ih z2.2 l1 l2 l3 l4 l5 z2.1 (l7 + 1) 
      · refine GG_goto hk 284 dX8_takes_45 (by decide) ?_
        refine GG_iinc hk (pc' := 287) 8 (l7 + 1) [(7, .int (l7 + 1)), (8, .int z2.1), (0, .ref (kh k + 163)), (1, .int l1), (2, .int l2), (3, .int l3), (4, .int l4), (5, .int l5), (6, .int l6)] dX8_takes_284 rfl rfl rfl (by decide) rfl ?_
        refine GG_goto hk 21 dX8_takes_287 (by decide) ?_
        refine GG_sub (L' := [(0, .ref (kh k + 163)), (1, .int l1), (2, .int l2), (3, .int l3), (4, .int l4), (5, .int l5), (6, .int l6), (7, .int (l7 + 1))]) [2, 3, 4, 5, 6, 7, 8, 0] rfl ?_
        exact ih z2.2 l1 l2 l3 l4 l5 l6 (l7 + 1) 
noncomputable def f_X8_takes (rs : Mem → Int32 → Int32 → Option (Int32 × Mem)) (M : Mem) (l1 : Int32) (l2 : Int32) (l3 : Int32) : Option (Int32 × Mem) :=
    Option.bind (rd 640 (M 164) (20 + l1)) fun v1 =>
    f_X8_takes_21 rs  1000 M l1 l2 l3 v1 1 (-9) 0
set_option maxRecDepth 20000 in
theorem m_X8_takes {k : KT} {q : Int32 × Mem} (rs : Mem → Int32 → Int32 → Option (Int32 × Mem)) (hr : Nat) (hb : 100 ≤ hr) (hrs : ∀ (M : Mem) (x0 : Int32) (x1 : Int32), CI (kl k) (kC k) (kh k) yX8_resolves_ cX8_resolves_ 5 .boolean hr [.ref (kh k + 163), .int x0, .int x1] M (rs M x0 x1)) (hk : CX k cX8_takes RX8 9 (some .boolean) (hr + 8)) (hq : RI k q) (M : Mem) (l1 : Int32) (l2 : Int32) (l3 : Int32)  : GG k q (wM k M) 0 [(0, .ref (kh k + 163)), (1, .int l1), (2, .int l2), (3, .int l3)] [] (f_X8_takes rs M l1 l2 l3) := by
  unfold f_X8_takes
  refine GG_aload_n hk (pc' := 1) 0 dX8_takes_0 rfl rfl rfl ?_
  refine GG_get hk LC8 0 (v := .ref (kh k + 164)) (pc' := 4) tw_842 rfl rfl (by decide) rfl dX8_takes_1 rfl ?_
  refine GG_bipush hk (pc' := 6) 20 dX8_takes_4 rfl rfl ?_
  refine GG_iload_n hk (pc' := 7) 1 dX8_takes_6 rfl rfl rfl ?_
  refine GG_iadd hk (pc' := 8) dX8_takes_7 rfl ?_
  refine GG_iald hk (pc' := 9) rfl rfl dX8_takes_8 rfl (fun v1 e_v1 => ?_)
  refine GG_istore hk (pc' := 11) [(4, .int v1), (0, .ref (kh k + 163)), (1, .int l1), (2, .int l2), (3, .int l3)] dX8_takes_9 rfl (by decide) rfl ?_
  refine GG_iconst hk (pc' := 12) 1 dX8_takes_11 rfl rfl ?_
  refine GG_istore hk (pc' := 14) [(5, .int 1), (4, .int v1), (0, .ref (kh k + 163)), (1, .int l1), (2, .int l2), (3, .int l3)] dX8_takes_12 rfl (by decide) rfl ?_
  refine GG_bipush hk (pc' := 16) (-9) dX8_takes_14 rfl rfl ?_
  refine GG_istore hk (pc' := 18) [(6, .int (-9)), (5, .int 1), (4, .int v1), (0, .ref (kh k + 163)), (1, .int l1), (2, .int l2), (3, .int l3)] dX8_takes_16 rfl (by decide) rfl ?_
  refine GG_iconst hk (pc' := 19) 0 dX8_takes_18 rfl rfl ?_
  refine GG_istore hk (pc' := 21) [(7, .int 0), (6, .int (-9)), (5, .int 1), (4, .int v1), (0, .ref (kh k + 163)), (1, .int l1), (2, .int l2), (3, .int l3)] dX8_takes_19 rfl (by decide) rfl ?_
  refine GG_sub (L' := [(0, .ref (kh k + 163)), (1, .int l1), (2, .int l2), (3, .int l3), (4, .int v1), (5, .int 1), (6, .int (-9)), (7, .int 0)]) [4, 5, 6, 7, 3, 2, 1, 0] rfl ?_
  exact m_X8_takes_21 rs hr hb hrs hk hq  1000 M l1 l2 l3 v1 1 (-9) 0 
theorem c_X8_takes (l : Launch) (C : DD) (a : Nat) (rs : Mem → Int32 → Int32 → Option (Int32 × Mem)) (hr : Nat) (hb : 100 ≤ hr) (hrs : ∀ (M : Mem) (x0 : Int32) (x1 : Int32), CI l C (a) yX8_resolves_ cX8_resolves_ 5 .boolean hr [.ref (a + 163), .int x0, .int x1] M (rs M x0 x1)) (M : Mem) (l1 : Int32) (l2 : Int32) (l3 : Int32)  : CI l C (a) yX8_takes cX8_takes 9 .boolean (hr + 8) [.ref (a + 163), .int l1, .int l2, .int l3] M (f_X8_takes rs M l1 l2 l3) := by
  refine CI_of RX8 (by decide +kernel) rfl (Nat.le_of_ble_eq_true rfl) (fun k q hk hq e1 e2 e3 => ?_)
  subst e1; subst e2; subst e3
  exact m_X8_takes rs hr hb hrs hk hq M l1 l2 l3 

/-! SettingsInLayersModel.resolves(II)Z -/
noncomputable def f_X8_resolves__b (rs : Mem → Int32 → Int32 → Option (Int32 × Mem)) (M : Mem) (l1 : Int32) (l2 : Int32) : Option (Int32 × Mem) :=
    Option.bind (wrf M 163 25 ((M 163 25) + 1)) fun M1 =>
    Option.bind (wrf M1 163 26 ((M1 163 26) ||| (1 <<< (l1 &&& 31)))) fun M2 =>
    if (M2 163 25) < 61 then
      Option.bind (rd 8 (M2 179) l1) fun v4 =>
      if v4 = 0 then
        Option.bind (f_X8_offers M2 l1) fun z6 =>
        if ¬ z6.1 = 0 then
          Option.bind (wrb 8 z6.2 179 l1 1) fun M8 =>
          Option.bind (f_X8_takes rs M8 l1 l2 z6.1) fun z9 =>
          Option.bind (wrb 8 z9.2 179 l1 0) fun M10 =>
          bret z9.1 M10
        else
          Option.bind (f_X8_fails z6.2 1 l1) fun z11 =>
          bret z11.1 z11.2
      else
        Option.bind (f_X8_fails M2 2 l1) fun z12 =>
        bret z12.1 z12.2
    else
      Option.bind (f_X8_fails M2 6 l1) fun z13 =>
      bret z13.1 z13.2
noncomputable def f_X8_resolves_ : Nat → Mem → Int32 → Int32 → Option (Int32 × Mem)
  | 0 => fun _ _ _ => none
  | n + 1 => fun M l1 l2 => f_X8_resolves__b (f_X8_resolves_ n) M l1 l2
set_option maxRecDepth 20000 in
theorem m_X8_resolves_ {k : KT} {q : Int32 × Mem} (rs : Mem → Int32 → Int32 → Option (Int32 × Mem)) (hr : Nat) (hb : 100 ≤ hr) (hrs : ∀ (M : Mem) (x0 : Int32) (x1 : Int32), CI (kl k) (kC k) (kh k) yX8_resolves_ cX8_resolves_ 5 .boolean hr [.ref (kh k + 163), .int x0, .int x1] M (rs M x0 x1)) (hk : CX k cX8_resolves_ RX8 5 (some .boolean) (hr + 10)) (hq : RI k q) (M : Mem) (l1 : Int32) (l2 : Int32)  : GG k q (wM k M) 0 [(0, .ref (kh k + 163)), (1, .int l1), (2, .int l2)] [] (f_X8_resolves__b rs M l1 l2) := by
  unfold f_X8_resolves__b
  refine GG_aload_n hk (pc' := 1) 0 dX8_resolves__0 rfl rfl rfl ?_
  refine GG_dup hk (pc' := 2) dX8_resolves__1 rfl rfl ?_
  refine GG_get hk LC8 25 (v := .int (M 163 25)) (pc' := 5) tw_867 rfl rfl (by decide) rfl dX8_resolves__2 rfl ?_
  refine GG_iconst hk (pc' := 6) 1 dX8_resolves__5 rfl rfl ?_
  refine GG_iadd hk (pc' := 7) dX8_resolves__6 rfl ?_
  refine GG_put hk LC8 25 (pc' := 10) tw_867 rfl rfl (by decide) rfl rfl (Nat.le_of_ble_eq_true rfl) (pv_8_25 _ _ _ _) dX8_resolves__7 rfl (fun M1 e_M1 => ?_)
  refine GG_aload_n hk (pc' := 11) 0 dX8_resolves__10 rfl rfl rfl ?_
  refine GG_dup hk (pc' := 12) dX8_resolves__11 rfl rfl ?_
  refine GG_get hk LC8 26 (v := .int (M1 163 26)) (pc' := 15) tw_868 rfl rfl (by decide) rfl dX8_resolves__12 rfl ?_
  refine GG_iconst hk (pc' := 16) 1 dX8_resolves__15 rfl rfl ?_
  refine GG_iload_n hk (pc' := 17) 1 dX8_resolves__16 rfl rfl rfl ?_
  refine GG_ishl hk (pc' := 18) dX8_resolves__17 rfl ?_
  refine GG_ior hk (pc' := 19) dX8_resolves__18 rfl ?_
  refine GG_put hk LC8 26 (pc' := 22) tw_868 rfl rfl (by decide) rfl rfl (Nat.le_of_ble_eq_true rfl) (pv_8_26 _ _ _ _) dX8_resolves__19 rfl (fun M2 e_M2 => ?_)
  refine GG_aload_n hk (pc' := 23) 0 dX8_resolves__22 rfl rfl rfl ?_
  refine GG_get hk LC8 25 (v := .int (M2 163 25)) (pc' := 26) tw_867 rfl rfl (by decide) rfl dX8_resolves__23 rfl ?_
  refine GG_bipush hk (pc' := 28) 61 dX8_resolves__26 rfl rfl ?_
  refine GG_icmp_lt hk 39 (pc' := 31) dX8_resolves__28 rfl (by decide) (fun c3 => ?_) (fun c3 => ?_)
  · refine GG_aload_n hk (pc' := 40) 0 dX8_resolves__39 rfl rfl rfl ?_
    refine GG_get hk LC8 21 (v := .ref (kh k + 179)) (pc' := 43) tw_863 rfl rfl (by decide) rfl dX8_resolves__40 rfl ?_
    refine GG_iload_n hk (pc' := 44) 1 dX8_resolves__43 rfl rfl rfl ?_
    refine GG_bald hk (pc' := 45) rfl rfl dX8_resolves__44 rfl (fun v4 e_v4 => ?_)
    refine GG_if_eq hk 55 (pc' := 48) dX8_resolves__45 rfl (by decide) (fun c5 => ?_) (fun c5 => ?_)
    · refine GG_aload_n hk (pc' := 56) 0 dX8_resolves__55 rfl rfl rfl ?_
      refine GG_iload_n hk (pc' := 57) 1 dX8_resolves__56 rfl rfl rfl ?_
      refine GG_callVi hk (st := []) (pc' := 60) mf_X8_offers mv_X8_offers LC8 rfl (c_X8_offers _ _ _ M2 l1 ) (by omega) tw_1055 rfl rfl rfl (Nat.le_of_ble_eq_true rfl) dX8_resolves__57 rfl (fun z6 e_z6 => ?_)
      refine GG_istore_n hk (pc' := 61) [(3, .int z6.1), (0, .ref (kh k + 163)), (1, .int l1), (2, .int l2)] dX8_resolves__60 rfl rfl (by decide) rfl ?_
      refine GG_iload_n hk (pc' := 62) 0 dX8_resolves__61 rfl rfl rfl ?_
      refine GG_if_ne hk 72 (pc' := 65) dX8_resolves__62 rfl (by decide) (fun c7 => ?_) (fun c7 => ?_)
      · refine GG_aload_n hk (pc' := 73) 1 dX8_resolves__72 rfl rfl rfl ?_
        refine GG_get hk LC8 21 (v := .ref (kh k + 179)) (pc' := 76) tw_863 rfl rfl (by decide) rfl dX8_resolves__73 rfl ?_
        refine GG_iload_n hk (pc' := 77) 2 dX8_resolves__76 rfl rfl rfl ?_
        refine GG_iconst hk (pc' := 78) 1 dX8_resolves__77 rfl rfl ?_
        refine GG_bast hk (pc' := 79) rfl rfl dX8_resolves__78 rfl (fun M8 e_M8 => ?_)
        refine GG_aload_n hk (pc' := 80) 1 dX8_resolves__79 rfl rfl rfl ?_
        refine GG_iload_n hk (pc' := 81) 2 dX8_resolves__80 rfl rfl rfl ?_
        refine GG_iload_n hk (pc' := 82) 3 dX8_resolves__81 rfl rfl rfl ?_
        refine GG_iload_n hk (pc' := 83) 0 dX8_resolves__82 rfl rfl rfl ?_
        refine GG_callVi hk (st := []) (pc' := 86) mf_X8_takes mv_X8_takes LC8 rfl (c_X8_takes _ _ _ rs hr hb hrs M8 l1 l2 z6.1 ) (by omega) tw_1079 rfl rfl rfl (Nat.le_of_ble_eq_true rfl) dX8_resolves__83 rfl (fun z9 e_z9 => ?_)
        refine GG_istore hk (pc' := 88) [(4, .int z9.1), (3, .int z6.1), (0, .ref (kh k + 163)), (1, .int l1), (2, .int l2)] dX8_resolves__86 rfl (by decide) rfl ?_
        refine GG_aload_n hk (pc' := 89) 2 dX8_resolves__88 rfl rfl rfl ?_
        refine GG_get hk LC8 21 (v := .ref (kh k + 179)) (pc' := 92) tw_863 rfl rfl (by decide) rfl dX8_resolves__89 rfl ?_
        refine GG_iload_n hk (pc' := 93) 3 dX8_resolves__92 rfl rfl rfl ?_
        refine GG_iconst hk (pc' := 94) 0 dX8_resolves__93 rfl rfl ?_
        refine GG_bast hk (pc' := 95) rfl rfl dX8_resolves__94 rfl (fun M10 e_M10 => ?_)
        refine GG_iload hk (pc' := 97) 0 dX8_resolves__95 rfl rfl ?_
        exact GG_zret hk hq dX8_resolves__97
      · refine GG_aload_n hk (pc' := 66) 1 dX8_resolves__65 rfl rfl rfl ?_
        refine GG_iconst hk (pc' := 67) 1 dX8_resolves__66 rfl rfl ?_
        refine GG_iload_n hk (pc' := 68) 2 dX8_resolves__67 rfl rfl rfl ?_
        refine GG_callVi hk (st := []) (pc' := 71) mf_X8_fails mv_X8_fails LC8 rfl (c_X8_fails _ _ _ z6.2 1 l1 ) (by omega) tw_1075 rfl rfl rfl (Nat.le_of_ble_eq_true rfl) dX8_resolves__68 rfl (fun z11 e_z11 => ?_)
        exact GG_zret hk hq dX8_resolves__71
    · refine GG_aload_n hk (pc' := 49) 0 dX8_resolves__48 rfl rfl rfl ?_
      refine GG_iconst hk (pc' := 50) 2 dX8_resolves__49 rfl rfl ?_
      refine GG_iload_n hk (pc' := 51) 1 dX8_resolves__50 rfl rfl rfl ?_
      refine GG_callVi hk (st := []) (pc' := 54) mf_X8_fails mv_X8_fails LC8 rfl (c_X8_fails _ _ _ M2 2 l1 ) (by omega) tw_1075 rfl rfl rfl (Nat.le_of_ble_eq_true rfl) dX8_resolves__51 rfl (fun z12 e_z12 => ?_)
      exact GG_zret hk hq dX8_resolves__54
  · refine GG_aload_n hk (pc' := 32) 0 dX8_resolves__31 rfl rfl rfl ?_
    refine GG_bipush hk (pc' := 34) 6 dX8_resolves__32 rfl rfl ?_
    refine GG_iload_n hk (pc' := 35) 1 dX8_resolves__34 rfl rfl rfl ?_
    refine GG_callVi hk (st := []) (pc' := 38) mf_X8_fails mv_X8_fails LC8 rfl (c_X8_fails _ _ _ M2 6 l1 ) (by omega) tw_1075 rfl rfl rfl (Nat.le_of_ble_eq_true rfl) dX8_resolves__35 rfl (fun z13 e_z13 => ?_)
    exact GG_zret hk hq dX8_resolves__38
theorem hx_X8_resolves_ {k : KT} {n : Nat} (hk : CX k cX8_resolves_ RX8 5 (some .boolean) (10 * (n + 1) + 100)) : CX k cX8_resolves_ RX8 5 (some .boolean) (10 * n + 100 + 10) := by
  have e : 10 * (n + 1) + 100 = 10 * n + 100 + 10 := by omega
  rw [e] at hk
  exact hk
theorem c_X8_resolves_ (l : Launch) (C : DD) (a : Nat) : ∀ (n : Nat) (M : Mem) (l1 : Int32) (l2 : Int32), CI l C (a) yX8_resolves_ cX8_resolves_ 5 .boolean (10 * n + 100) [.ref (a + 163), .int l1, .int l2] M (f_X8_resolves_ n M l1 l2) := by
  intro n
  induction n with
  | zero => intro M l1 l2 q e; exact absurd e (fun e => nomatch e)
  | succ n ih =>
    intro M l1 l2
    refine CI_of RX8 (by decide +kernel) rfl (Nat.le_of_ble_eq_true rfl) (fun k q hk hq e1 e2 e3 => ?_)
    subst e1; subst e2; subst e3
    exact m_X8_resolves_ (f_X8_resolves_ n) (10 * n + 100) (by omega) ih (hx_X8_resolves_ hk) hq M l1 l2

/-! SettingsInLayersModel.resolves(I)Z -/
noncomputable def f_X8_resolves_17  : Nat → Mem → Int32 → Int32 → Option (Int32 × Mem)
  | 0, _, _, _ => none
  | n + 1, M, l1, l2 =>
    if 8 ≤ l2 then
      Option.bind (f_X8_resolves_ 12 M l1 0) fun z2 =>
      bret z2.1 z2.2
    else
      Option.bind (wrb 8 M 179 l2 0) fun M3 =>
      f_X8_resolves_17  n M3 l1 (l2 + 1)
set_option maxRecDepth 20000 in
theorem m_X8_resolves_17 {k : KT} {q : Int32 × Mem} (hk : CX k cX8_resolves RX8 3 (some .boolean) 221) (hq : RI k q) : ∀ (n : Nat) (M : Mem) (l1 : Int32) (l2 : Int32) , GG k q (wM k M) 17 [(0, .ref (kh k + 163)), (1, .int l1), (2, .int l2)] [] (f_X8_resolves_17  n M l1 l2) := by
  intro n
  induction n with
  | zero => intros; exact GG_none
  | succ n ih =>
    intro M l1 l2 
    rw [f_X8_resolves_17]
    refine GG_iload_n hk (pc' := 18) 2 dX8_resolves_17 rfl rfl rfl ?_
    refine GG_bipush hk (pc' := 20) 8 dX8_resolves_18 rfl rfl ?_
    refine GG_icmp_ge hk 36 (pc' := 23) dX8_resolves_20 rfl (by decide) (fun c1 => ?_) (fun c1 => ?_)
    · refine GG_aload_n hk (pc' := 37) 0 dX8_resolves_36 rfl rfl rfl ?_
      refine GG_iload_n hk (pc' := 38) 1 dX8_resolves_37 rfl rfl rfl ?_
      refine GG_iconst hk (pc' := 39) 0 dX8_resolves_38 rfl rfl ?_
      refine GG_callVi hk (st := []) (pc' := 42) mf_X8_resolves_ mv_X8_resolves_ LC8 rfl (c_X8_resolves_ _ _ _ 12 M l1 0) (by omega) tw_1071 rfl rfl rfl (Nat.le_of_ble_eq_true rfl) dX8_resolves_39 rfl (fun z2 e_z2 => ?_)
      exact GG_zret hk hq dX8_resolves_42
    · refine GG_aload_n hk (pc' := 24) 0 dX8_resolves_23 rfl rfl rfl ?_
      refine GG_get hk LC8 21 (v := .ref (kh k + 179)) (pc' := 27) tw_863 rfl rfl (by decide) rfl dX8_resolves_24 rfl ?_
      refine GG_iload_n hk (pc' := 28) 2 dX8_resolves_27 rfl rfl rfl ?_
      refine GG_iconst hk (pc' := 29) 0 dX8_resolves_28 rfl rfl ?_
      refine GG_bast hk (pc' := 30) rfl rfl dX8_resolves_29 rfl (fun M3 e_M3 => ?_)
      refine GG_iinc hk (pc' := 33) 2 (l2 + 1) [(2, .int (l2 + 1)), (0, .ref (kh k + 163)), (1, .int l1)] dX8_resolves_30 rfl rfl rfl (by decide) rfl ?_
      refine GG_goto hk 17 dX8_resolves_33 (by decide) ?_
      refine GG_sub (L' := [(0, .ref (kh k + 163)), (1, .int l1), (2, .int (l2 + 1))]) [1, 2, 0] rfl ?_
      exact ih M3 l1 (l2 + 1) 
noncomputable def f_X8_resolves (M : Mem) (l1 : Int32) : Option (Int32 × Mem) :=
    Option.bind (wrf M 163 24 0) fun M1 =>
    Option.bind (wrf M1 163 25 0) fun M2 =>
    Option.bind (wrf M2 163 26 0) fun M3 =>
    f_X8_resolves_17  1000 M3 l1 0
set_option maxRecDepth 20000 in
theorem m_X8_resolves {k : KT} {q : Int32 × Mem} (hk : CX k cX8_resolves RX8 3 (some .boolean) 221) (hq : RI k q) (M : Mem) (l1 : Int32)  : GG k q (wM k M) 0 [(0, .ref (kh k + 163)), (1, .int l1)] [] (f_X8_resolves M l1) := by
  unfold f_X8_resolves
  refine GG_aload_n hk (pc' := 1) 0 dX8_resolves_0 rfl rfl rfl ?_
  refine GG_iconst hk (pc' := 2) 0 dX8_resolves_1 rfl rfl ?_
  refine GG_put hk LC8 24 (pc' := 5) tw_866 rfl rfl (by decide) rfl rfl (Nat.le_of_ble_eq_true rfl) (pv_8_24 _ _ _ _) dX8_resolves_2 rfl (fun M1 e_M1 => ?_)
  refine GG_aload_n hk (pc' := 6) 0 dX8_resolves_5 rfl rfl rfl ?_
  refine GG_iconst hk (pc' := 7) 0 dX8_resolves_6 rfl rfl ?_
  refine GG_put hk LC8 25 (pc' := 10) tw_867 rfl rfl (by decide) rfl rfl (Nat.le_of_ble_eq_true rfl) (pv_8_25 _ _ _ _) dX8_resolves_7 rfl (fun M2 e_M2 => ?_)
  refine GG_aload_n hk (pc' := 11) 0 dX8_resolves_10 rfl rfl rfl ?_
  refine GG_iconst hk (pc' := 12) 0 dX8_resolves_11 rfl rfl ?_
  refine GG_put hk LC8 26 (pc' := 15) tw_868 rfl rfl (by decide) rfl rfl (Nat.le_of_ble_eq_true rfl) (pv_8_26 _ _ _ _) dX8_resolves_12 rfl (fun M3 e_M3 => ?_)
  refine GG_iconst hk (pc' := 16) 0 dX8_resolves_15 rfl rfl ?_
  refine GG_istore_n hk (pc' := 17) [(2, .int 0), (0, .ref (kh k + 163)), (1, .int l1)] dX8_resolves_16 rfl rfl (by decide) rfl ?_
  refine GG_sub (L' := [(0, .ref (kh k + 163)), (1, .int l1), (2, .int 0)]) [1, 2, 0] rfl ?_
  exact m_X8_resolves_17 hk hq  1000 M3 l1 0 
theorem c_X8_resolves (l : Launch) (C : DD) (a : Nat) (M : Mem) (l1 : Int32)  : CI l C (a) yX8_resolves cX8_resolves 3 .boolean 221 [.ref (a + 163), .int l1] M (f_X8_resolves M l1) := by
  refine CI_of RX8 (by decide +kernel) rfl (Nat.le_of_ble_eq_true rfl) (fun k q hk hq e1 e2 e3 => ?_)
  subst e1; subst e2; subst e3
  exact m_X8_resolves hk hq M l1 

/-! SettingsInLayersModel.numberOf(I)I -/
noncomputable def f_X8_numberOf (M : Mem) (l1 : Int32) : Option (Int32 × Mem) :=
    Option.bind (f_X8_resolves M l1) fun z1 =>
    if z1.1 = 0 then
      some ((-9), z1.2)
    else
      Option.bind (rd 12 (z1.2 171) 0) fun v3 =>
      if ¬ v3 = 0 then
        some ((-9), z1.2)
      else
        Option.bind (rd 12 (z1.2 172) 0) fun v5 =>
        some (v5, z1.2)
set_option maxRecDepth 20000 in
theorem m_X8_numberOf {k : KT} {q : Int32 × Mem} (hk : CX k cX8_numberOf RX8 2 (some .int) 222) (hq : RI k q) (M : Mem) (l1 : Int32)  : GG k q (wM k M) 0 [(0, .ref (kh k + 163)), (1, .int l1)] [] (f_X8_numberOf M l1) := by
  unfold f_X8_numberOf
  refine GG_aload_n hk (pc' := 1) 0 dX8_numberOf_0 rfl rfl rfl ?_
  refine GG_iload_n hk (pc' := 2) 1 dX8_numberOf_1 rfl rfl rfl ?_
  refine GG_callVi hk (st := []) (pc' := 5) mf_X8_resolves mv_X8_resolves LC8 rfl (c_X8_resolves _ _ _ M l1 ) (by omega) tw_1067 rfl rfl rfl (Nat.le_of_ble_eq_true rfl) dX8_numberOf_2 rfl (fun z1 e_z1 => ?_)
  refine GG_if_eq hk 26 (pc' := 8) dX8_numberOf_5 rfl (by decide) (fun c2 => ?_) (fun c2 => ?_)
  · refine GG_bipush hk (pc' := 28) (-9) dX8_numberOf_26 rfl rfl ?_
    exact GG_iret hk hq dX8_numberOf_28
  · refine GG_aload_n hk (pc' := 9) 0 dX8_numberOf_8 rfl rfl rfl ?_
    refine GG_get hk LC8 13 (v := .ref (kh k + 171)) (pc' := 12) tw_855 rfl rfl (by decide) rfl dX8_numberOf_9 rfl ?_
    refine GG_iconst hk (pc' := 13) 0 dX8_numberOf_12 rfl rfl ?_
    refine GG_iald hk (pc' := 14) rfl rfl dX8_numberOf_13 rfl (fun v3 e_v3 => ?_)
    refine GG_if_ne hk 26 (pc' := 17) dX8_numberOf_14 rfl (by decide) (fun c4 => ?_) (fun c4 => ?_)
    · refine GG_bipush hk (pc' := 28) (-9) dX8_numberOf_26 rfl rfl ?_
      exact GG_iret hk hq dX8_numberOf_28
    · refine GG_aload_n hk (pc' := 18) 0 dX8_numberOf_17 rfl rfl rfl ?_
      refine GG_get hk LC8 14 (v := .ref (kh k + 172)) (pc' := 21) tw_856 rfl rfl (by decide) rfl dX8_numberOf_18 rfl ?_
      refine GG_iconst hk (pc' := 22) 0 dX8_numberOf_21 rfl rfl ?_
      refine GG_iald hk (pc' := 23) rfl rfl dX8_numberOf_22 rfl (fun v5 e_v5 => ?_)
      refine GG_goto hk 28 dX8_numberOf_23 (by decide) ?_
      exact GG_iret hk hq dX8_numberOf_28
theorem c_X8_numberOf (l : Launch) (C : DD) (a : Nat) (M : Mem) (l1 : Int32)  : CI l C (a) yX8_numberOf cX8_numberOf 2 .int 222 [.ref (a + 163), .int l1] M (f_X8_numberOf M l1) := by
  refine CI_of RX8 (by decide +kernel) rfl (Nat.le_of_ble_eq_true rfl) (fun k q hk hq e1 e2 e3 => ?_)
  subst e1; subst e2; subst e3
  exact m_X8_numberOf hk hq M l1 

/-! SettingsInLayersModel.tell(IIIII)I -/
noncomputable def f_X8_tell_55  (M : Mem) (l3 : Int32) (l4 : Int32) (l5 : Int32) (l6 : Int32) (l7 : Int32) : Option (Int32 × Mem) :=
    Option.bind (wra 640 M 164 (l6 + 0) l3) fun M1 =>
    Option.bind (wra 640 M1 164 (l6 + 1) l4) fun M2 =>
    Option.bind (wra 640 M2 164 (l6 + 2) l5) fun M3 =>
    some (l7, M3)
set_option maxRecDepth 20000 in
theorem m_X8_tell_55 {k : KT} {q : Int32 × Mem} (hk : CX k cX8_tell RX8 9 (some .int) 2) (hq : RI k q) (M : Mem) (l3 : Int32) (l4 : Int32) (l5 : Int32) (l6 : Int32) (l7 : Int32)  : GG k q (wM k M) 55 [(0, .ref (kh k + 163)), (3, .int l3), (4, .int l4), (5, .int l5), (6, .int l6), (7, .int l7)] [] (f_X8_tell_55  M l3 l4 l5 l6 l7) := by
  unfold f_X8_tell_55
  refine GG_aload_n hk (pc' := 56) 0 dX8_tell_55 rfl rfl rfl ?_
  refine GG_get hk LC8 0 (v := .ref (kh k + 164)) (pc' := 59) tw_842 rfl rfl (by decide) rfl dX8_tell_56 rfl ?_
  refine GG_iload hk (pc' := 61) 4 dX8_tell_59 rfl rfl ?_
  refine GG_iconst hk (pc' := 62) 0 dX8_tell_61 rfl rfl ?_
  refine GG_iadd hk (pc' := 63) dX8_tell_62 rfl ?_
  refine GG_iload_n hk (pc' := 64) 1 dX8_tell_63 rfl rfl rfl ?_
  refine GG_iast hk (pc' := 65) rfl rfl dX8_tell_64 rfl (fun M1 e_M1 => ?_)
  refine GG_aload_n hk (pc' := 66) 0 dX8_tell_65 rfl rfl rfl ?_
  refine GG_get hk LC8 0 (v := .ref (kh k + 164)) (pc' := 69) tw_842 rfl rfl (by decide) rfl dX8_tell_66 rfl ?_
  refine GG_iload hk (pc' := 71) 4 dX8_tell_69 rfl rfl ?_
  refine GG_iconst hk (pc' := 72) 1 dX8_tell_71 rfl rfl ?_
  refine GG_iadd hk (pc' := 73) dX8_tell_72 rfl ?_
  refine GG_iload hk (pc' := 75) 2 dX8_tell_73 rfl rfl ?_
  refine GG_iast hk (pc' := 76) rfl rfl dX8_tell_75 rfl (fun M2 e_M2 => ?_)
  refine GG_aload_n hk (pc' := 77) 0 dX8_tell_76 rfl rfl rfl ?_
  refine GG_get hk LC8 0 (v := .ref (kh k + 164)) (pc' := 80) tw_842 rfl rfl (by decide) rfl dX8_tell_77 rfl ?_
  refine GG_iload hk (pc' := 82) 4 dX8_tell_80 rfl rfl ?_
  refine GG_iconst hk (pc' := 83) 2 dX8_tell_82 rfl rfl ?_
  refine GG_iadd hk (pc' := 84) dX8_tell_83 rfl ?_
  refine GG_iload hk (pc' := 86) 3 dX8_tell_84 rfl rfl ?_
  refine GG_iast hk (pc' := 87) rfl rfl dX8_tell_86 rfl (fun M3 e_M3 => ?_)
  refine GG_iload hk (pc' := 89) 5 dX8_tell_87 rfl rfl ?_
  exact GG_iret hk hq dX8_tell_89
noncomputable def f_X8_tell_31  : Nat → Mem → Int32 → Int32 → Int32 → Int32 → Int32 → Int32 → Option (Int32 × Mem)
  | 0, _, _, _, _, _, _, _ => none
  | n + 1, M, l3, l4, l5, l6, l7, l8 =>
    if 12 ≤ l8 then
      f_X8_tell_55  M l3 l4 l5 l6 l7
    else
      Option.bind (wra 640 M 164 (l6 + l8) 0) fun M2 =>
      f_X8_tell_31  n M2 l3 l4 l5 l6 l7 (l8 + 1)
set_option maxRecDepth 20000 in
theorem m_X8_tell_31 {k : KT} {q : Int32 × Mem} (hk : CX k cX8_tell RX8 9 (some .int) 2) (hq : RI k q) : ∀ (n : Nat) (M : Mem) (l3 : Int32) (l4 : Int32) (l5 : Int32) (l6 : Int32) (l7 : Int32) (l8 : Int32) , GG k q (wM k M) 31 [(0, .ref (kh k + 163)), (3, .int l3), (4, .int l4), (5, .int l5), (6, .int l6), (7, .int l7), (8, .int l8)] [] (f_X8_tell_31  n M l3 l4 l5 l6 l7 l8) := by
  intro n
  induction n with
  | zero => intros; exact GG_none
  | succ n ih =>
    intro M l3 l4 l5 l6 l7 l8 
    rw [f_X8_tell_31]
    refine GG_iload hk (pc' := 33) 6 dX8_tell_31 rfl rfl ?_
    refine GG_bipush hk (pc' := 35) 12 dX8_tell_33 rfl rfl ?_
    refine GG_icmp_ge hk 55 (pc' := 38) dX8_tell_35 rfl (by decide) (fun c1 => ?_) (fun c1 => ?_)
    · refine GG_sub (L' := [(0, .ref (kh k + 163)), (3, .int l3), (4, .int l4), (5, .int l5), (6, .int l6), (7, .int l7)]) [0, 1, 2, 3, 4, 5] rfl ?_
      exact m_X8_tell_55 hk hq  M l3 l4 l5 l6 l7 
    · refine GG_aload_n hk (pc' := 39) 0 dX8_tell_38 rfl rfl rfl ?_
      refine GG_get hk LC8 0 (v := .ref (kh k + 164)) (pc' := 42) tw_842 rfl rfl (by decide) rfl dX8_tell_39 rfl ?_
      refine GG_iload hk (pc' := 44) 4 dX8_tell_42 rfl rfl ?_
      refine GG_iload hk (pc' := 46) 6 dX8_tell_44 rfl rfl ?_
      refine GG_iadd hk (pc' := 47) dX8_tell_46 rfl ?_
      refine GG_iconst hk (pc' := 48) 0 dX8_tell_47 rfl rfl ?_
      refine GG_iast hk (pc' := 49) rfl rfl dX8_tell_48 rfl (fun M2 e_M2 => ?_)
      refine GG_iinc hk (pc' := 52) 6 (l8 + 1) [(8, .int (l8 + 1)), (0, .ref (kh k + 163)), (3, .int l3), (4, .int l4), (5, .int l5), (6, .int l6), (7, .int l7)] dX8_tell_49 rfl rfl rfl (by decide) rfl ?_
      refine GG_goto hk 31 dX8_tell_52 (by decide) ?_
      refine GG_sub (L' := [(0, .ref (kh k + 163)), (3, .int l3), (4, .int l4), (5, .int l5), (6, .int l6), (7, .int l7), (8, .int (l8 + 1))]) [1, 2, 3, 4, 5, 6, 0] rfl ?_
      exact ih M2 l3 l4 l5 l6 l7 (l8 + 1) 
noncomputable def f_X8_tell (M : Mem) (l1 : Int32) (l2 : Int32) (l3 : Int32) (l4 : Int32) (l5 : Int32) : Option (Int32 × Mem) :=
    Option.bind (f_X8_entryAt M l1 l2) fun z1 =>
    Option.bind (rd 640 (z1.2 164) (z1.1 + 0)) fun v2 =>
    if v2 = (-9) then
      f_X8_tell_31  1000 z1.2 l3 l4 l5 z1.1 0 0
    else
      f_X8_tell_31  1000 z1.2 l3 l4 l5 z1.1 1 0
set_option maxRecDepth 20000 in
theorem m_X8_tell {k : KT} {q : Int32 × Mem} (hk : CX k cX8_tell RX8 9 (some .int) 2) (hq : RI k q) (M : Mem) (l1 : Int32) (l2 : Int32) (l3 : Int32) (l4 : Int32) (l5 : Int32)  : GG k q (wM k M) 0 [(0, .ref (kh k + 163)), (1, .int l1), (2, .int l2), (3, .int l3), (4, .int l4), (5, .int l5)] [] (f_X8_tell M l1 l2 l3 l4 l5) := by
  unfold f_X8_tell
  refine GG_iload_n hk (pc' := 1) 1 dX8_tell_0 rfl rfl rfl ?_
  refine GG_iload_n hk (pc' := 2) 2 dX8_tell_1 rfl rfl rfl ?_
  refine GG_callSi hk (st := []) (pc' := 5) mf_X8_entryAt tw_962 (c_X8_entryAt _ _ _ M l1 l2 ) (by omega) tw_961 rfl rfl (Nat.le_of_ble_eq_true rfl) dX8_tell_2 rfl (fun z1 e_z1 => ?_)
  refine GG_istore hk (pc' := 7) [(6, .int z1.1), (0, .ref (kh k + 163)), (1, .int l1), (2, .int l2), (3, .int l3), (4, .int l4), (5, .int l5)] dX8_tell_5 rfl (by decide) rfl ?_
  refine GG_aload_n hk (pc' := 8) 1 dX8_tell_7 rfl rfl rfl ?_
  refine GG_get hk LC8 0 (v := .ref (kh k + 164)) (pc' := 11) tw_842 rfl rfl (by decide) rfl dX8_tell_8 rfl ?_
  refine GG_iload hk (pc' := 13) 0 dX8_tell_11 rfl rfl ?_
  refine GG_iconst hk (pc' := 14) 0 dX8_tell_13 rfl rfl ?_
  refine GG_iadd hk (pc' := 15) dX8_tell_14 rfl ?_
  refine GG_iald hk (pc' := 16) rfl rfl dX8_tell_15 rfl (fun v2 e_v2 => ?_)
  refine GG_bipush hk (pc' := 18) (-9) dX8_tell_16 rfl rfl ?_
  refine GG_icmp_eq hk 25 (pc' := 21) dX8_tell_18 rfl (by decide) (fun c3 => ?_) (fun c3 => ?_)
  · refine GG_iconst hk (pc' := 26) 0 dX8_tell_25 rfl rfl ?_
    refine GG_istore hk (pc' := 28) [(7, .int 0), (6, .int z1.1), (0, .ref (kh k + 163)), (1, .int l1), (2, .int l2), (3, .int l3), (4, .int l4), (5, .int l5)] dX8_tell_26 rfl (by decide) rfl ?_
    refine GG_iconst hk (pc' := 29) 0 dX8_tell_28 rfl rfl ?_
    refine GG_istore hk (pc' := 31) [(8, .int 0), (7, .int 0), (6, .int z1.1), (0, .ref (kh k + 163)), (1, .int l1), (2, .int l2), (3, .int l3), (4, .int l4), (5, .int l5)] dX8_tell_29 rfl (by decide) rfl ?_
    refine GG_sub (L' := [(0, .ref (kh k + 163)), (3, .int l3), (4, .int l4), (5, .int l5), (6, .int z1.1), (7, .int 0), (8, .int 0)]) [3, 6, 7, 8, 2, 1, 0] rfl ?_
    exact m_X8_tell_31 hk hq  1000 z1.2 l3 l4 l5 z1.1 0 0 
  · refine GG_iconst hk (pc' := 22) 1 dX8_tell_21 rfl rfl ?_
    refine GG_goto hk 26 dX8_tell_22 (by decide) ?_
    refine GG_istore hk (pc' := 28) [(7, .int 1), (6, .int z1.1), (0, .ref (kh k + 163)), (1, .int l1), (2, .int l2), (3, .int l3), (4, .int l4), (5, .int l5)] dX8_tell_26 rfl (by decide) rfl ?_
    refine GG_iconst hk (pc' := 29) 0 dX8_tell_28 rfl rfl ?_
    refine GG_istore hk (pc' := 31) [(8, .int 0), (7, .int 1), (6, .int z1.1), (0, .ref (kh k + 163)), (1, .int l1), (2, .int l2), (3, .int l3), (4, .int l4), (5, .int l5)] dX8_tell_29 rfl (by decide) rfl ?_
    refine GG_sub (L' := [(0, .ref (kh k + 163)), (3, .int l3), (4, .int l4), (5, .int l5), (6, .int z1.1), (7, .int 1), (8, .int 0)]) [3, 6, 7, 8, 2, 1, 0] rfl ?_
    exact m_X8_tell_31 hk hq  1000 z1.2 l3 l4 l5 z1.1 1 0 
theorem c_X8_tell (l : Launch) (C : DD) (a : Nat) (M : Mem) (l1 : Int32) (l2 : Int32) (l3 : Int32) (l4 : Int32) (l5 : Int32)  : CI l C (a) yX8_tell cX8_tell 9 .int 2 [.ref (a + 163), .int l1, .int l2, .int l3, .int l4, .int l5] M (f_X8_tell M l1 l2 l3 l4 l5) := by
  refine CI_of RX8 (by decide +kernel) rfl (Nat.le_of_ble_eq_true rfl) (fun k q hk hq e1 e2 e3 => ?_)
  subst e1; subst e2; subst e3
  exact m_X8_tell hk hq M l1 l2 l3 l4 l5 

/-! SettingsInLayersModel.find(III)I -/
noncomputable def f_X8_find_10  : Nat → Mem → Int32 → Int32 → Int32 → Option (Int32 × Mem)
  | 0, _, _, _, _ => none
  | n + 1, M, l3, l4, l5 =>
    Option.bind (rd 640 (M 164) (l4 + 3)) fun v1 =>
    if v1 ≤ l5 then
      some ((-9), M)
    else
      Option.bind (rd 640 (M 164) ((l4 + 4) + (2 * l5))) fun v3 =>
      if ¬ v3 = l3 then
        f_X8_find_10  n M l3 l4 (l5 + 1)
      else
        some (l5, M)
set_option maxRecDepth 20000 in
theorem m_X8_find_10 {k : KT} {q : Int32 × Mem} (hk : CX k cX8_find RX8 6 (some .int) 2) (hq : RI k q) : ∀ (n : Nat) (M : Mem) (l3 : Int32) (l4 : Int32) (l5 : Int32) , GG k q (wM k M) 10 [(0, .ref (kh k + 163)), (3, .int l3), (4, .int l4), (5, .int l5)] [] (f_X8_find_10  n M l3 l4 l5) := by
  intro n
  induction n with
  | zero => intros; exact GG_none
  | succ n ih =>
    intro M l3 l4 l5 
    rw [f_X8_find_10]
    refine GG_iload hk (pc' := 12) 3 dX8_find_10 rfl rfl ?_
    refine GG_aload_n hk (pc' := 13) 0 dX8_find_12 rfl rfl rfl ?_
    refine GG_get hk LC8 0 (v := .ref (kh k + 164)) (pc' := 16) tw_842 rfl rfl (by decide) rfl dX8_find_13 rfl ?_
    refine GG_iload hk (pc' := 18) 2 dX8_find_16 rfl rfl ?_
    refine GG_iconst hk (pc' := 19) 3 dX8_find_18 rfl rfl ?_
    refine GG_iadd hk (pc' := 20) dX8_find_19 rfl ?_
    refine GG_iald hk (pc' := 21) rfl rfl dX8_find_20 rfl (fun v1 e_v1 => ?_)
    refine GG_icmp_ge hk 51 (pc' := 24) dX8_find_21 rfl (by decide) (fun c2 => ?_) (fun c2 => ?_)
    · refine GG_bipush hk (pc' := 53) (-9) dX8_find_51 rfl rfl ?_
      exact GG_iret hk hq dX8_find_53
    · refine GG_aload_n hk (pc' := 25) 0 dX8_find_24 rfl rfl rfl ?_
      refine GG_get hk LC8 0 (v := .ref (kh k + 164)) (pc' := 28) tw_842 rfl rfl (by decide) rfl dX8_find_25 rfl ?_
      refine GG_iload hk (pc' := 30) 2 dX8_find_28 rfl rfl ?_
      refine GG_iconst hk (pc' := 31) 4 dX8_find_30 rfl rfl ?_
      refine GG_iadd hk (pc' := 32) dX8_find_31 rfl ?_
      refine GG_iconst hk (pc' := 33) 2 dX8_find_32 rfl rfl ?_
      refine GG_iload hk (pc' := 35) 3 dX8_find_33 rfl rfl ?_
      refine GG_imul hk (pc' := 36) dX8_find_35 rfl ?_
      refine GG_iadd hk (pc' := 37) dX8_find_36 rfl ?_
      refine GG_iald hk (pc' := 38) rfl rfl dX8_find_37 rfl (fun v3 e_v3 => ?_)
      refine GG_iload_n hk (pc' := 39) 1 dX8_find_38 rfl rfl rfl ?_
      refine GG_icmp_ne hk 45 (pc' := 42) dX8_find_39 rfl (by decide) (fun c4 => ?_) (fun c4 => ?_)
      · refine GG_iinc hk (pc' := 48) 3 (l5 + 1) [(5, .int (l5 + 1)), (0, .ref (kh k + 163)), (3, .int l3), (4, .int l4)] dX8_find_45 rfl rfl rfl (by decide) rfl ?_
        refine GG_goto hk 10 dX8_find_48 (by decide) ?_
        refine GG_sub (L' := [(0, .ref (kh k + 163)), (3, .int l3), (4, .int l4), (5, .int (l5 + 1))]) [1, 2, 3, 0] rfl ?_
        exact ih M l3 l4 (l5 + 1) 
      · refine GG_iload hk (pc' := 44) 3 dX8_find_42 rfl rfl ?_
        exact GG_iret hk hq dX8_find_44
noncomputable def f_X8_find (M : Mem) (l1 : Int32) (l2 : Int32) (l3 : Int32) : Option (Int32 × Mem) :=
    Option.bind (f_X8_entryAt M l1 l2) fun z1 =>
    f_X8_find_10  1000 z1.2 l3 z1.1 0
set_option maxRecDepth 20000 in
theorem m_X8_find {k : KT} {q : Int32 × Mem} (hk : CX k cX8_find RX8 6 (some .int) 2) (hq : RI k q) (M : Mem) (l1 : Int32) (l2 : Int32) (l3 : Int32)  : GG k q (wM k M) 0 [(0, .ref (kh k + 163)), (1, .int l1), (2, .int l2), (3, .int l3)] [] (f_X8_find M l1 l2 l3) := by
  unfold f_X8_find
  refine GG_iload_n hk (pc' := 1) 1 dX8_find_0 rfl rfl rfl ?_
  refine GG_iload_n hk (pc' := 2) 2 dX8_find_1 rfl rfl rfl ?_
  refine GG_callSi hk (st := []) (pc' := 5) mf_X8_entryAt tw_962 (c_X8_entryAt _ _ _ M l1 l2 ) (by omega) tw_961 rfl rfl (Nat.le_of_ble_eq_true rfl) dX8_find_2 rfl (fun z1 e_z1 => ?_)
  refine GG_istore hk (pc' := 7) [(4, .int z1.1), (0, .ref (kh k + 163)), (1, .int l1), (2, .int l2), (3, .int l3)] dX8_find_5 rfl (by decide) rfl ?_
  refine GG_iconst hk (pc' := 8) 0 dX8_find_7 rfl rfl ?_
  refine GG_istore hk (pc' := 10) [(5, .int 0), (4, .int z1.1), (0, .ref (kh k + 163)), (1, .int l1), (2, .int l2), (3, .int l3)] dX8_find_8 rfl (by decide) rfl ?_
  refine GG_sub (L' := [(0, .ref (kh k + 163)), (3, .int l3), (4, .int z1.1), (5, .int 0)]) [2, 5, 1, 0] rfl ?_
  exact m_X8_find_10 hk hq  1000 z1.2 l3 z1.1 0 
theorem c_X8_find (l : Launch) (C : DD) (a : Nat) (M : Mem) (l1 : Int32) (l2 : Int32) (l3 : Int32)  : CI l C (a) yX8_find cX8_find 6 .int 2 [.ref (a + 163), .int l1, .int l2, .int l3] M (f_X8_find M l1 l2 l3) := by
  refine CI_of RX8 (by decide +kernel) rfl (Nat.le_of_ble_eq_true rfl) (fun k q hk hq e1 e2 e3 => ?_)
  subst e1; subst e2; subst e3
  exact m_X8_find hk hq M l1 l2 l3 

/-! SettingsInLayersModel.puts(IIII)V -/
noncomputable def f_X8_puts (M : Mem) (l1 : Int32) (l2 : Int32) (l3 : Int32) (l4 : Int32) : Option Mem :=
    Option.bind (f_X8_entryAt M l1 l2) fun z1 =>
    Option.bind (rd 640 (z1.2 164) (z1.1 + 3)) fun v2 =>
    Option.bind (wra 640 z1.2 164 ((z1.1 + 4) + (2 * v2)) l3) fun M3 =>
    Option.bind (rd 640 (M3 164) (z1.1 + 3)) fun v4 =>
    Option.bind (wra 640 M3 164 (((z1.1 + 4) + (2 * v4)) + 1) l4) fun M5 =>
    Option.bind (rd 640 (M5 164) (z1.1 + 3)) fun v6 =>
    Option.bind (wra 640 M5 164 (z1.1 + 3) (v6 + 1)) fun M7 =>
    some M7
set_option maxRecDepth 20000 in
theorem m_X8_puts {k : KT} {q : Mem} (hk : CX k cX8_puts RX8 6 none 2) (hq : RV k q) (M : Mem) (l1 : Int32) (l2 : Int32) (l3 : Int32) (l4 : Int32)  : GG k q (wM k M) 0 [(0, .ref (kh k + 163)), (1, .int l1), (2, .int l2), (3, .int l3), (4, .int l4)] [] (f_X8_puts M l1 l2 l3 l4) := by
  unfold f_X8_puts
  refine GG_iload_n hk (pc' := 1) 1 dX8_puts_0 rfl rfl rfl ?_
  refine GG_iload_n hk (pc' := 2) 2 dX8_puts_1 rfl rfl rfl ?_
  refine GG_callSi hk (st := []) (pc' := 5) mf_X8_entryAt tw_962 (c_X8_entryAt _ _ _ M l1 l2 ) (by omega) tw_961 rfl rfl (Nat.le_of_ble_eq_true rfl) dX8_puts_2 rfl (fun z1 e_z1 => ?_)
  refine GG_istore hk (pc' := 7) [(5, .int z1.1), (0, .ref (kh k + 163)), (1, .int l1), (2, .int l2), (3, .int l3), (4, .int l4)] dX8_puts_5 rfl (by decide) rfl ?_
  refine GG_aload_n hk (pc' := 8) 1 dX8_puts_7 rfl rfl rfl ?_
  refine GG_get hk LC8 0 (v := .ref (kh k + 164)) (pc' := 11) tw_842 rfl rfl (by decide) rfl dX8_puts_8 rfl ?_
  refine GG_iload hk (pc' := 13) 0 dX8_puts_11 rfl rfl ?_
  refine GG_iconst hk (pc' := 14) 4 dX8_puts_13 rfl rfl ?_
  refine GG_iadd hk (pc' := 15) dX8_puts_14 rfl ?_
  refine GG_iconst hk (pc' := 16) 2 dX8_puts_15 rfl rfl ?_
  refine GG_aload_n hk (pc' := 17) 1 dX8_puts_16 rfl rfl rfl ?_
  refine GG_get hk LC8 0 (v := .ref (kh k + 164)) (pc' := 20) tw_842 rfl rfl (by decide) rfl dX8_puts_17 rfl ?_
  refine GG_iload hk (pc' := 22) 0 dX8_puts_20 rfl rfl ?_
  refine GG_iconst hk (pc' := 23) 3 dX8_puts_22 rfl rfl ?_
  refine GG_iadd hk (pc' := 24) dX8_puts_23 rfl ?_
  refine GG_iald hk (pc' := 25) rfl rfl dX8_puts_24 rfl (fun v2 e_v2 => ?_)
  refine GG_imul hk (pc' := 26) dX8_puts_25 rfl ?_
  refine GG_iadd hk (pc' := 27) dX8_puts_26 rfl ?_
  refine GG_iload_n hk (pc' := 28) 4 dX8_puts_27 rfl rfl rfl ?_
  refine GG_iast hk (pc' := 29) rfl rfl dX8_puts_28 rfl (fun M3 e_M3 => ?_)
  refine GG_aload_n hk (pc' := 30) 1 dX8_puts_29 rfl rfl rfl ?_
  refine GG_get hk LC8 0 (v := .ref (kh k + 164)) (pc' := 33) tw_842 rfl rfl (by decide) rfl dX8_puts_30 rfl ?_
  refine GG_iload hk (pc' := 35) 0 dX8_puts_33 rfl rfl ?_
  refine GG_iconst hk (pc' := 36) 4 dX8_puts_35 rfl rfl ?_
  refine GG_iadd hk (pc' := 37) dX8_puts_36 rfl ?_
  refine GG_iconst hk (pc' := 38) 2 dX8_puts_37 rfl rfl ?_
  refine GG_aload_n hk (pc' := 39) 1 dX8_puts_38 rfl rfl rfl ?_
  refine GG_get hk LC8 0 (v := .ref (kh k + 164)) (pc' := 42) tw_842 rfl rfl (by decide) rfl dX8_puts_39 rfl ?_
  refine GG_iload hk (pc' := 44) 0 dX8_puts_42 rfl rfl ?_
  refine GG_iconst hk (pc' := 45) 3 dX8_puts_44 rfl rfl ?_
  refine GG_iadd hk (pc' := 46) dX8_puts_45 rfl ?_
  refine GG_iald hk (pc' := 47) rfl rfl dX8_puts_46 rfl (fun v4 e_v4 => ?_)
  refine GG_imul hk (pc' := 48) dX8_puts_47 rfl ?_
  refine GG_iadd hk (pc' := 49) dX8_puts_48 rfl ?_
  refine GG_iconst hk (pc' := 50) 1 dX8_puts_49 rfl rfl ?_
  refine GG_iadd hk (pc' := 51) dX8_puts_50 rfl ?_
  refine GG_iload hk (pc' := 53) 5 dX8_puts_51 rfl rfl ?_
  refine GG_iast hk (pc' := 54) rfl rfl dX8_puts_53 rfl (fun M5 e_M5 => ?_)
  refine GG_aload_n hk (pc' := 55) 1 dX8_puts_54 rfl rfl rfl ?_
  refine GG_get hk LC8 0 (v := .ref (kh k + 164)) (pc' := 58) tw_842 rfl rfl (by decide) rfl dX8_puts_55 rfl ?_
  refine GG_iload hk (pc' := 60) 0 dX8_puts_58 rfl rfl ?_
  refine GG_iconst hk (pc' := 61) 3 dX8_puts_60 rfl rfl ?_
  refine GG_iadd hk (pc' := 62) dX8_puts_61 rfl ?_
  refine GG_dup2 hk (pc' := 63) dX8_puts_62 rfl rfl rfl ?_
  refine GG_iald hk (pc' := 64) rfl rfl dX8_puts_63 rfl (fun v6 e_v6 => ?_)
  refine GG_iconst hk (pc' := 65) 1 dX8_puts_64 rfl rfl ?_
  refine GG_iadd hk (pc' := 66) dX8_puts_65 rfl ?_
  refine GG_iast hk (pc' := 67) rfl rfl dX8_puts_66 rfl (fun M7 e_M7 => ?_)
  exact GG_vret hk hq dX8_puts_67
theorem c_X8_puts (l : Launch) (C : DD) (a : Nat) (M : Mem) (l1 : Int32) (l2 : Int32) (l3 : Int32) (l4 : Int32)  : CV l C (a) yX8_puts cX8_puts 6 2 [.ref (a + 163), .int l1, .int l2, .int l3, .int l4] M (f_X8_puts M l1 l2 l3 l4) := by
  refine CV_of RX8 (by decide +kernel) rfl (Nat.le_of_ble_eq_true rfl) (fun k q hk hq e1 e2 e3 => ?_)
  subst e1; subst e2; subst e3
  exact m_X8_puts hk hq M l1 l2 l3 l4 

/-! SettingsInLayersModel.turns(I)I -/
noncomputable def f_X8_turns (M : Mem) (l1 : Int32) : Option (Int32 × Mem) :=
    Option.bind (f_X8_isLayer M l1) fun z1 =>
    if ¬ z1.1 = 0 then
      Option.bind (rd 640 (z1.2 164) ((3 * l1) + 0)) fun v3 =>
      Option.bind (wra 640 z1.2 164 ((3 * l1) + 0) (1 - v3)) fun M4 =>
      Option.bind (rd 640 (M4 164) ((3 * l1) + 0)) fun v5 =>
      some (v5, M4)
    else
      Option.bind (f_X8_no z1.2 (-1)) fun z6 =>
      some (z6.1, z6.2)
set_option maxRecDepth 20000 in
theorem m_X8_turns {k : KT} {q : Int32 × Mem} (hk : CX k cX8_turns RX8 2 (some .int) 3) (hq : RI k q) (M : Mem) (l1 : Int32)  : GG k q (wM k M) 0 [(0, .ref (kh k + 163)), (1, .int l1)] [] (f_X8_turns M l1) := by
  unfold f_X8_turns
  refine GG_iload_n hk (pc' := 1) 1 dX8_turns_0 rfl rfl rfl ?_
  refine GG_callSi hk (st := []) (pc' := 4) mf_X8_isLayer tw_933 (c_X8_isLayer _ _ _ M l1 ) (by omega) tw_932 rfl rfl (Nat.le_of_ble_eq_true rfl) dX8_turns_1 rfl (fun z1 e_z1 => ?_)
  refine GG_if_ne hk 13 (pc' := 7) dX8_turns_4 rfl (by decide) (fun c2 => ?_) (fun c2 => ?_)
  · refine GG_aload_n hk (pc' := 14) 0 dX8_turns_13 rfl rfl rfl ?_
    refine GG_get hk LC8 0 (v := .ref (kh k + 164)) (pc' := 17) tw_842 rfl rfl (by decide) rfl dX8_turns_14 rfl ?_
    refine GG_iconst hk (pc' := 18) 3 dX8_turns_17 rfl rfl ?_
    refine GG_iload_n hk (pc' := 19) 1 dX8_turns_18 rfl rfl rfl ?_
    refine GG_imul hk (pc' := 20) dX8_turns_19 rfl ?_
    refine GG_iconst hk (pc' := 21) 0 dX8_turns_20 rfl rfl ?_
    refine GG_iadd hk (pc' := 22) dX8_turns_21 rfl ?_
    refine GG_iconst hk (pc' := 23) 1 dX8_turns_22 rfl rfl ?_
    refine GG_aload_n hk (pc' := 24) 0 dX8_turns_23 rfl rfl rfl ?_
    refine GG_get hk LC8 0 (v := .ref (kh k + 164)) (pc' := 27) tw_842 rfl rfl (by decide) rfl dX8_turns_24 rfl ?_
    refine GG_iconst hk (pc' := 28) 3 dX8_turns_27 rfl rfl ?_
    refine GG_iload_n hk (pc' := 29) 1 dX8_turns_28 rfl rfl rfl ?_
    refine GG_imul hk (pc' := 30) dX8_turns_29 rfl ?_
    refine GG_iconst hk (pc' := 31) 0 dX8_turns_30 rfl rfl ?_
    refine GG_iadd hk (pc' := 32) dX8_turns_31 rfl ?_
    refine GG_iald hk (pc' := 33) rfl rfl dX8_turns_32 rfl (fun v3 e_v3 => ?_)
    refine GG_isub hk (pc' := 34) dX8_turns_33 rfl ?_
    refine GG_iast hk (pc' := 35) rfl rfl dX8_turns_34 rfl (fun M4 e_M4 => ?_)
    refine GG_aload_n hk (pc' := 36) 0 dX8_turns_35 rfl rfl rfl ?_
    refine GG_get hk LC8 0 (v := .ref (kh k + 164)) (pc' := 39) tw_842 rfl rfl (by decide) rfl dX8_turns_36 rfl ?_
    refine GG_iconst hk (pc' := 40) 3 dX8_turns_39 rfl rfl ?_
    refine GG_iload_n hk (pc' := 41) 1 dX8_turns_40 rfl rfl rfl ?_
    refine GG_imul hk (pc' := 42) dX8_turns_41 rfl ?_
    refine GG_iconst hk (pc' := 43) 0 dX8_turns_42 rfl rfl ?_
    refine GG_iadd hk (pc' := 44) dX8_turns_43 rfl ?_
    refine GG_iald hk (pc' := 45) rfl rfl dX8_turns_44 rfl (fun v5 e_v5 => ?_)
    exact GG_iret hk hq dX8_turns_45
  · refine GG_aload_n hk (pc' := 8) 0 dX8_turns_7 rfl rfl rfl ?_
    refine GG_iconst hk (pc' := 9) (-1) dX8_turns_8 rfl rfl ?_
    refine GG_callVi hk (st := []) (pc' := 12) mf_X8_no mv_X8_no LC8 rfl (c_X8_no _ _ _ z1.2 (-1) ) (by omega) tw_938 rfl rfl rfl (Nat.le_of_ble_eq_true rfl) dX8_turns_9 rfl (fun z6 e_z6 => ?_)
    exact GG_iret hk hq dX8_turns_12
theorem c_X8_turns (l : Launch) (C : DD) (a : Nat) (M : Mem) (l1 : Int32)  : CI l C (a) yX8_turns cX8_turns 2 .int 3 [.ref (a + 163), .int l1] M (f_X8_turns M l1) := by
  refine CI_of RX8 (by decide +kernel) rfl (Nat.le_of_ble_eq_true rfl) (fun k q hk hq e1 e2 e3 => ?_)
  subst e1; subst e2; subst e3
  exact m_X8_turns hk hq M l1 

/-! SettingsInLayersModel.kind(III)I -/
noncomputable def f_X8_kind (M : Mem) (l1 : Int32) (l2 : Int32) (l3 : Int32) : Option (Int32 × Mem) :=
    Option.bind (f_X8_isLayer M l1) fun z1 =>
    if ¬ z1.1 = 0 then
      Option.bind (f_X8_isIn z1.2 l2 0 5) fun z3 =>
      if ¬ z3.1 = 0 then
        if 0 ≤ l3 then
          if l3 ≤ 9 then
            Option.bind (rd 640 (z3.2 164) ((3 * l1) + 1)) fun v7 =>
            Option.bind (rd 640 (z3.2 164) ((3 * l1) + 2)) fun v8 =>
            Option.bind (wra 640 z3.2 164 ((3 * l1) + 1) l2) fun M9 =>
            Option.bind (wra 640 M9 164 ((3 * l1) + 2) l3) fun M10 =>
            some (((10 * v7) + v8), M10)
          else
            Option.bind (f_X8_no z3.2 (-6)) fun z11 =>
            some (z11.1, z11.2)
        else
          Option.bind (f_X8_no z3.2 (-4)) fun z12 =>
          some (z12.1, z12.2)
      else
        Option.bind (f_X8_no z3.2 (-2)) fun z13 =>
        some (z13.1, z13.2)
    else
      Option.bind (f_X8_no z1.2 (-1)) fun z14 =>
      some (z14.1, z14.2)
set_option maxRecDepth 20000 in
theorem m_X8_kind {k : KT} {q : Int32 × Mem} (hk : CX k cX8_kind RX8 5 (some .int) 3) (hq : RI k q) (M : Mem) (l1 : Int32) (l2 : Int32) (l3 : Int32)  : GG k q (wM k M) 0 [(0, .ref (kh k + 163)), (1, .int l1), (2, .int l2), (3, .int l3)] [] (f_X8_kind M l1 l2 l3) := by
  unfold f_X8_kind
  refine GG_iload_n hk (pc' := 1) 1 dX8_kind_0 rfl rfl rfl ?_
  refine GG_callSi hk (st := []) (pc' := 4) mf_X8_isLayer tw_933 (c_X8_isLayer _ _ _ M l1 ) (by omega) tw_932 rfl rfl (Nat.le_of_ble_eq_true rfl) dX8_kind_1 rfl (fun z1 e_z1 => ?_)
  refine GG_if_ne hk 13 (pc' := 7) dX8_kind_4 rfl (by decide) (fun c2 => ?_) (fun c2 => ?_)
  · refine GG_iload_n hk (pc' := 14) 2 dX8_kind_13 rfl rfl rfl ?_
    refine GG_iconst hk (pc' := 15) 0 dX8_kind_14 rfl rfl ?_
    refine GG_iconst hk (pc' := 16) 5 dX8_kind_15 rfl rfl ?_
    refine GG_callSi hk (st := []) (pc' := 19) mf_X8_isIn tw_936 (c_X8_isIn _ _ _ z1.2 l2 0 5 ) (by omega) tw_935 rfl rfl (Nat.le_of_ble_eq_true rfl) dX8_kind_16 rfl (fun z3 e_z3 => ?_)
    refine GG_if_ne hk 29 (pc' := 22) dX8_kind_19 rfl (by decide) (fun c4 => ?_) (fun c4 => ?_)
    · refine GG_iload_n hk (pc' := 30) 3 dX8_kind_29 rfl rfl rfl ?_
      refine GG_if_ge hk 40 (pc' := 33) dX8_kind_30 rfl (by decide) (fun c5 => ?_) (fun c5 => ?_)
      · refine GG_iload_n hk (pc' := 41) 3 dX8_kind_40 rfl rfl rfl ?_
        refine GG_bipush hk (pc' := 43) 9 dX8_kind_41 rfl rfl ?_
        refine GG_icmp_le hk 53 (pc' := 46) dX8_kind_43 rfl (by decide) (fun c6 => ?_) (fun c6 => ?_)
        · refine GG_bipush hk (pc' := 55) 10 dX8_kind_53 rfl rfl ?_
          refine GG_aload_n hk (pc' := 56) 0 dX8_kind_55 rfl rfl rfl ?_
          refine GG_get hk LC8 0 (v := .ref (kh k + 164)) (pc' := 59) tw_842 rfl rfl (by decide) rfl dX8_kind_56 rfl ?_
          refine GG_iconst hk (pc' := 60) 3 dX8_kind_59 rfl rfl ?_
          refine GG_iload_n hk (pc' := 61) 1 dX8_kind_60 rfl rfl rfl ?_
          refine GG_imul hk (pc' := 62) dX8_kind_61 rfl ?_
          refine GG_iconst hk (pc' := 63) 1 dX8_kind_62 rfl rfl ?_
          refine GG_iadd hk (pc' := 64) dX8_kind_63 rfl ?_
          refine GG_iald hk (pc' := 65) rfl rfl dX8_kind_64 rfl (fun v7 e_v7 => ?_)
          refine GG_imul hk (pc' := 66) dX8_kind_65 rfl ?_
          refine GG_aload_n hk (pc' := 67) 0 dX8_kind_66 rfl rfl rfl ?_
          refine GG_get hk LC8 0 (v := .ref (kh k + 164)) (pc' := 70) tw_842 rfl rfl (by decide) rfl dX8_kind_67 rfl ?_
          refine GG_iconst hk (pc' := 71) 3 dX8_kind_70 rfl rfl ?_
          refine GG_iload_n hk (pc' := 72) 1 dX8_kind_71 rfl rfl rfl ?_
          refine GG_imul hk (pc' := 73) dX8_kind_72 rfl ?_
          refine GG_iconst hk (pc' := 74) 2 dX8_kind_73 rfl rfl ?_
          refine GG_iadd hk (pc' := 75) dX8_kind_74 rfl ?_
          refine GG_iald hk (pc' := 76) rfl rfl dX8_kind_75 rfl (fun v8 e_v8 => ?_)
          refine GG_iadd hk (pc' := 77) dX8_kind_76 rfl ?_
          refine GG_istore hk (pc' := 79) [(4, .int ((10 * v7) + v8)), (0, .ref (kh k + 163)), (1, .int l1), (2, .int l2), (3, .int l3)] dX8_kind_77 rfl (by decide) rfl ?_
          refine GG_aload_n hk (pc' := 80) 1 dX8_kind_79 rfl rfl rfl ?_
          refine GG_get hk LC8 0 (v := .ref (kh k + 164)) (pc' := 83) tw_842 rfl rfl (by decide) rfl dX8_kind_80 rfl ?_
          refine GG_iconst hk (pc' := 84) 3 dX8_kind_83 rfl rfl ?_
          refine GG_iload_n hk (pc' := 85) 2 dX8_kind_84 rfl rfl rfl ?_
          refine GG_imul hk (pc' := 86) dX8_kind_85 rfl ?_
          refine GG_iconst hk (pc' := 87) 1 dX8_kind_86 rfl rfl ?_
          refine GG_iadd hk (pc' := 88) dX8_kind_87 rfl ?_
          refine GG_iload_n hk (pc' := 89) 3 dX8_kind_88 rfl rfl rfl ?_
          refine GG_iast hk (pc' := 90) rfl rfl dX8_kind_89 rfl (fun M9 e_M9 => ?_)
          refine GG_aload_n hk (pc' := 91) 1 dX8_kind_90 rfl rfl rfl ?_
          refine GG_get hk LC8 0 (v := .ref (kh k + 164)) (pc' := 94) tw_842 rfl rfl (by decide) rfl dX8_kind_91 rfl ?_
          refine GG_iconst hk (pc' := 95) 3 dX8_kind_94 rfl rfl ?_
          refine GG_iload_n hk (pc' := 96) 2 dX8_kind_95 rfl rfl rfl ?_
          refine GG_imul hk (pc' := 97) dX8_kind_96 rfl ?_
          refine GG_iconst hk (pc' := 98) 2 dX8_kind_97 rfl rfl ?_
          refine GG_iadd hk (pc' := 99) dX8_kind_98 rfl ?_
          refine GG_iload_n hk (pc' := 100) 4 dX8_kind_99 rfl rfl rfl ?_
          refine GG_iast hk (pc' := 101) rfl rfl dX8_kind_100 rfl (fun M10 e_M10 => ?_)
          refine GG_iload hk (pc' := 103) 0 dX8_kind_101 rfl rfl ?_
          exact GG_iret hk hq dX8_kind_103
        · refine GG_aload_n hk (pc' := 47) 0 dX8_kind_46 rfl rfl rfl ?_
          refine GG_bipush hk (pc' := 49) (-6) dX8_kind_47 rfl rfl ?_
          refine GG_callVi hk (st := []) (pc' := 52) mf_X8_no mv_X8_no LC8 rfl (c_X8_no _ _ _ z3.2 (-6) ) (by omega) tw_938 rfl rfl rfl (Nat.le_of_ble_eq_true rfl) dX8_kind_49 rfl (fun z11 e_z11 => ?_)
          exact GG_iret hk hq dX8_kind_52
      · refine GG_aload_n hk (pc' := 34) 0 dX8_kind_33 rfl rfl rfl ?_
        refine GG_bipush hk (pc' := 36) (-4) dX8_kind_34 rfl rfl ?_
        refine GG_callVi hk (st := []) (pc' := 39) mf_X8_no mv_X8_no LC8 rfl (c_X8_no _ _ _ z3.2 (-4) ) (by omega) tw_938 rfl rfl rfl (Nat.le_of_ble_eq_true rfl) dX8_kind_36 rfl (fun z12 e_z12 => ?_)
        exact GG_iret hk hq dX8_kind_39
    · refine GG_aload_n hk (pc' := 23) 0 dX8_kind_22 rfl rfl rfl ?_
      refine GG_bipush hk (pc' := 25) (-2) dX8_kind_23 rfl rfl ?_
      refine GG_callVi hk (st := []) (pc' := 28) mf_X8_no mv_X8_no LC8 rfl (c_X8_no _ _ _ z3.2 (-2) ) (by omega) tw_938 rfl rfl rfl (Nat.le_of_ble_eq_true rfl) dX8_kind_25 rfl (fun z13 e_z13 => ?_)
      exact GG_iret hk hq dX8_kind_28
  · refine GG_aload_n hk (pc' := 8) 0 dX8_kind_7 rfl rfl rfl ?_
    refine GG_iconst hk (pc' := 9) (-1) dX8_kind_8 rfl rfl ?_
    refine GG_callVi hk (st := []) (pc' := 12) mf_X8_no mv_X8_no LC8 rfl (c_X8_no _ _ _ z1.2 (-1) ) (by omega) tw_938 rfl rfl rfl (Nat.le_of_ble_eq_true rfl) dX8_kind_9 rfl (fun z14 e_z14 => ?_)
    exact GG_iret hk hq dX8_kind_12
theorem c_X8_kind (l : Launch) (C : DD) (a : Nat) (M : Mem) (l1 : Int32) (l2 : Int32) (l3 : Int32)  : CI l C (a) yX8_kind cX8_kind 5 .int 3 [.ref (a + 163), .int l1, .int l2, .int l3] M (f_X8_kind M l1 l2 l3) := by
  refine CI_of RX8 (by decide +kernel) rfl (Nat.le_of_ble_eq_true rfl) (fun k q hk hq e1 e2 e3 => ?_)
  subst e1; subst e2; subst e3
  exact m_X8_kind hk hq M l1 l2 l3 

/-! SettingsInLayersModel.manner(II)I -/
noncomputable def f_X8_manner (M : Mem) (l1 : Int32) (l2 : Int32) : Option (Int32 × Mem) :=
    Option.bind (f_X8_isKey M l1) fun z1 =>
    if ¬ z1.1 = 0 then
      Option.bind (f_X8_isIn z1.2 l2 0 4) fun z3 =>
      if ¬ z3.1 = 0 then
        Option.bind (rd 640 (z3.2 164) (20 + l1)) fun v5 =>
        Option.bind (wra 640 z3.2 164 (20 + l1) l2) fun M6 =>
        some (v5, M6)
      else
        Option.bind (f_X8_no z3.2 (-2)) fun z7 =>
        some (z7.1, z7.2)
    else
      Option.bind (f_X8_no z1.2 (-1)) fun z8 =>
      some (z8.1, z8.2)
set_option maxRecDepth 20000 in
theorem m_X8_manner {k : KT} {q : Int32 × Mem} (hk : CX k cX8_manner RX8 4 (some .int) 3) (hq : RI k q) (M : Mem) (l1 : Int32) (l2 : Int32)  : GG k q (wM k M) 0 [(0, .ref (kh k + 163)), (1, .int l1), (2, .int l2)] [] (f_X8_manner M l1 l2) := by
  unfold f_X8_manner
  refine GG_iload_n hk (pc' := 1) 1 dX8_manner_0 rfl rfl rfl ?_
  refine GG_callSi hk (st := []) (pc' := 4) mf_X8_isKey tw_951 (c_X8_isKey _ _ _ M l1 ) (by omega) tw_950 rfl rfl (Nat.le_of_ble_eq_true rfl) dX8_manner_1 rfl (fun z1 e_z1 => ?_)
  refine GG_if_ne hk 13 (pc' := 7) dX8_manner_4 rfl (by decide) (fun c2 => ?_) (fun c2 => ?_)
  · refine GG_iload_n hk (pc' := 14) 2 dX8_manner_13 rfl rfl rfl ?_
    refine GG_iconst hk (pc' := 15) 0 dX8_manner_14 rfl rfl ?_
    refine GG_iconst hk (pc' := 16) 4 dX8_manner_15 rfl rfl ?_
    refine GG_callSi hk (st := []) (pc' := 19) mf_X8_isIn tw_936 (c_X8_isIn _ _ _ z1.2 l2 0 4 ) (by omega) tw_935 rfl rfl (Nat.le_of_ble_eq_true rfl) dX8_manner_16 rfl (fun z3 e_z3 => ?_)
    refine GG_if_ne hk 29 (pc' := 22) dX8_manner_19 rfl (by decide) (fun c4 => ?_) (fun c4 => ?_)
    · refine GG_aload_n hk (pc' := 30) 0 dX8_manner_29 rfl rfl rfl ?_
      refine GG_get hk LC8 0 (v := .ref (kh k + 164)) (pc' := 33) tw_842 rfl rfl (by decide) rfl dX8_manner_30 rfl ?_
      refine GG_bipush hk (pc' := 35) 20 dX8_manner_33 rfl rfl ?_
      refine GG_iload_n hk (pc' := 36) 1 dX8_manner_35 rfl rfl rfl ?_
      refine GG_iadd hk (pc' := 37) dX8_manner_36 rfl ?_
      refine GG_iald hk (pc' := 38) rfl rfl dX8_manner_37 rfl (fun v5 e_v5 => ?_)
      refine GG_istore_n hk (pc' := 39) [(3, .int v5), (0, .ref (kh k + 163)), (1, .int l1), (2, .int l2)] dX8_manner_38 rfl rfl (by decide) rfl ?_
      refine GG_aload_n hk (pc' := 40) 1 dX8_manner_39 rfl rfl rfl ?_
      refine GG_get hk LC8 0 (v := .ref (kh k + 164)) (pc' := 43) tw_842 rfl rfl (by decide) rfl dX8_manner_40 rfl ?_
      refine GG_bipush hk (pc' := 45) 20 dX8_manner_43 rfl rfl ?_
      refine GG_iload_n hk (pc' := 46) 2 dX8_manner_45 rfl rfl rfl ?_
      refine GG_iadd hk (pc' := 47) dX8_manner_46 rfl ?_
      refine GG_iload_n hk (pc' := 48) 3 dX8_manner_47 rfl rfl rfl ?_
      refine GG_iast hk (pc' := 49) rfl rfl dX8_manner_48 rfl (fun M6 e_M6 => ?_)
      refine GG_iload_n hk (pc' := 50) 0 dX8_manner_49 rfl rfl rfl ?_
      exact GG_iret hk hq dX8_manner_50
    · refine GG_aload_n hk (pc' := 23) 0 dX8_manner_22 rfl rfl rfl ?_
      refine GG_bipush hk (pc' := 25) (-2) dX8_manner_23 rfl rfl ?_
      refine GG_callVi hk (st := []) (pc' := 28) mf_X8_no mv_X8_no LC8 rfl (c_X8_no _ _ _ z3.2 (-2) ) (by omega) tw_938 rfl rfl rfl (Nat.le_of_ble_eq_true rfl) dX8_manner_25 rfl (fun z7 e_z7 => ?_)
      exact GG_iret hk hq dX8_manner_28
  · refine GG_aload_n hk (pc' := 8) 0 dX8_manner_7 rfl rfl rfl ?_
    refine GG_iconst hk (pc' := 9) (-1) dX8_manner_8 rfl rfl ?_
    refine GG_callVi hk (st := []) (pc' := 12) mf_X8_no mv_X8_no LC8 rfl (c_X8_no _ _ _ z1.2 (-1) ) (by omega) tw_938 rfl rfl rfl (Nat.le_of_ble_eq_true rfl) dX8_manner_9 rfl (fun z8 e_z8 => ?_)
    exact GG_iret hk hq dX8_manner_12
theorem c_X8_manner (l : Launch) (C : DD) (a : Nat) (M : Mem) (l1 : Int32) (l2 : Int32)  : CI l C (a) yX8_manner cX8_manner 4 .int 3 [.ref (a + 163), .int l1, .int l2] M (f_X8_manner M l1 l2) := by
  refine CI_of RX8 (by decide +kernel) rfl (Nat.le_of_ble_eq_true rfl) (fun k q hk hq e1 e2 e3 => ?_)
  subst e1; subst e2; subst e3
  exact m_X8_manner hk hq M l1 l2 

/-! SettingsInLayersModel.sets(III)I -/
noncomputable def f_X8_sets (M : Mem) (l1 : Int32) (l2 : Int32) (l3 : Int32) : Option (Int32 × Mem) :=
    Option.bind (f_X8_isLayer M l1) fun z1 =>
    if z1.1 = 0 then
      Option.bind (f_X8_no z1.2 (-1)) fun z3 =>
      some (z3.1, z3.2)
    else
      Option.bind (f_X8_isKey z1.2 l2) fun z4 =>
      if ¬ z4.1 = 0 then
        if 0 ≤ l3 then
          if l3 ≤ 99 then
            Option.bind (f_X8_tell z4.2 l1 l2 0 l3 0) fun z8 =>
            some (z8.1, z8.2)
          else
            Option.bind (f_X8_no z4.2 (-6)) fun z9 =>
            some (z9.1, z9.2)
        else
          Option.bind (f_X8_no z4.2 (-4)) fun z10 =>
          some (z10.1, z10.2)
      else
        Option.bind (f_X8_no z4.2 (-1)) fun z11 =>
        some (z11.1, z11.2)
set_option maxRecDepth 20000 in
theorem m_X8_sets {k : KT} {q : Int32 × Mem} (hk : CX k cX8_sets RX8 4 (some .int) 3) (hq : RI k q) (M : Mem) (l1 : Int32) (l2 : Int32) (l3 : Int32)  : GG k q (wM k M) 0 [(0, .ref (kh k + 163)), (1, .int l1), (2, .int l2), (3, .int l3)] [] (f_X8_sets M l1 l2 l3) := by
  unfold f_X8_sets
  refine GG_iload_n hk (pc' := 1) 1 dX8_sets_0 rfl rfl rfl ?_
  refine GG_callSi hk (st := []) (pc' := 4) mf_X8_isLayer tw_933 (c_X8_isLayer _ _ _ M l1 ) (by omega) tw_932 rfl rfl (Nat.le_of_ble_eq_true rfl) dX8_sets_1 rfl (fun z1 e_z1 => ?_)
  refine GG_if_eq hk 14 (pc' := 7) dX8_sets_4 rfl (by decide) (fun c2 => ?_) (fun c2 => ?_)
  · refine GG_aload_n hk (pc' := 15) 0 dX8_sets_14 rfl rfl rfl ?_
    refine GG_iconst hk (pc' := 16) (-1) dX8_sets_15 rfl rfl ?_
    refine GG_callVi hk (st := []) (pc' := 19) mf_X8_no mv_X8_no LC8 rfl (c_X8_no _ _ _ z1.2 (-1) ) (by omega) tw_938 rfl rfl rfl (Nat.le_of_ble_eq_true rfl) dX8_sets_16 rfl (fun z3 e_z3 => ?_)
    exact GG_iret hk hq dX8_sets_19
  · refine GG_iload_n hk (pc' := 8) 2 dX8_sets_7 rfl rfl rfl ?_
    refine GG_callSi hk (st := []) (pc' := 11) mf_X8_isKey tw_951 (c_X8_isKey _ _ _ z1.2 l2 ) (by omega) tw_950 rfl rfl (Nat.le_of_ble_eq_true rfl) dX8_sets_8 rfl (fun z4 e_z4 => ?_)
    refine GG_if_ne hk 20 (pc' := 14) dX8_sets_11 rfl (by decide) (fun c5 => ?_) (fun c5 => ?_)
    · refine GG_iload_n hk (pc' := 21) 3 dX8_sets_20 rfl rfl rfl ?_
      refine GG_if_ge hk 31 (pc' := 24) dX8_sets_21 rfl (by decide) (fun c6 => ?_) (fun c6 => ?_)
      · refine GG_iload_n hk (pc' := 32) 3 dX8_sets_31 rfl rfl rfl ?_
        refine GG_bipush hk (pc' := 34) 99 dX8_sets_32 rfl rfl ?_
        refine GG_icmp_le hk 46 (pc' := 37) dX8_sets_34 rfl (by decide) (fun c7 => ?_) (fun c7 => ?_)
        · refine GG_aload_n hk (pc' := 47) 0 dX8_sets_46 rfl rfl rfl ?_
          refine GG_iload_n hk (pc' := 48) 1 dX8_sets_47 rfl rfl rfl ?_
          refine GG_iload_n hk (pc' := 49) 2 dX8_sets_48 rfl rfl rfl ?_
          refine GG_iconst hk (pc' := 50) 0 dX8_sets_49 rfl rfl ?_
          refine GG_iload_n hk (pc' := 51) 3 dX8_sets_50 rfl rfl rfl ?_
          refine GG_iconst hk (pc' := 52) 0 dX8_sets_51 rfl rfl ?_
          refine GG_callVi hk (st := []) (pc' := 55) mf_X8_tell mv_X8_tell LC8 rfl (c_X8_tell _ _ _ z4.2 l1 l2 0 l3 0 ) (by omega) tw_957 rfl rfl rfl (Nat.le_of_ble_eq_true rfl) dX8_sets_52 rfl (fun z8 e_z8 => ?_)
          exact GG_iret hk hq dX8_sets_55
        · refine GG_aload_n hk (pc' := 38) 0 dX8_sets_37 rfl rfl rfl ?_
          refine GG_bipush hk (pc' := 40) (-6) dX8_sets_38 rfl rfl ?_
          refine GG_callVi hk (st := []) (pc' := 43) mf_X8_no mv_X8_no LC8 rfl (c_X8_no _ _ _ z4.2 (-6) ) (by omega) tw_938 rfl rfl rfl (Nat.le_of_ble_eq_true rfl) dX8_sets_40 rfl (fun z9 e_z9 => ?_)
          refine GG_goto hk 55 dX8_sets_43 (by decide) ?_
          exact GG_iret hk hq dX8_sets_55
      · refine GG_aload_n hk (pc' := 25) 0 dX8_sets_24 rfl rfl rfl ?_
        refine GG_bipush hk (pc' := 27) (-4) dX8_sets_25 rfl rfl ?_
        refine GG_callVi hk (st := []) (pc' := 30) mf_X8_no mv_X8_no LC8 rfl (c_X8_no _ _ _ z4.2 (-4) ) (by omega) tw_938 rfl rfl rfl (Nat.le_of_ble_eq_true rfl) dX8_sets_27 rfl (fun z10 e_z10 => ?_)
        exact GG_iret hk hq dX8_sets_30
    · refine GG_aload_n hk (pc' := 15) 0 dX8_sets_14 rfl rfl rfl ?_
      refine GG_iconst hk (pc' := 16) (-1) dX8_sets_15 rfl rfl ?_
      refine GG_callVi hk (st := []) (pc' := 19) mf_X8_no mv_X8_no LC8 rfl (c_X8_no _ _ _ z4.2 (-1) ) (by omega) tw_938 rfl rfl rfl (Nat.le_of_ble_eq_true rfl) dX8_sets_16 rfl (fun z11 e_z11 => ?_)
      exact GG_iret hk hq dX8_sets_19
theorem c_X8_sets (l : Launch) (C : DD) (a : Nat) (M : Mem) (l1 : Int32) (l2 : Int32) (l3 : Int32)  : CI l C (a) yX8_sets cX8_sets 4 .int 3 [.ref (a + 163), .int l1, .int l2, .int l3] M (f_X8_sets M l1 l2 l3) := by
  refine CI_of RX8 (by decide +kernel) rfl (Nat.le_of_ble_eq_true rfl) (fun k q hk hq e1 e2 e3 => ?_)
  subst e1; subst e2; subst e3
  exact m_X8_sets hk hq M l1 l2 l3 

/-! SettingsInLayersModel.adds(IIII)I -/
noncomputable def f_X8_adds_145  (M : Mem) (l1 : Int32) (l2 : Int32) (l3 : Int32) (l4 : Int32) (l5 : Int32) : Option (Int32 × Mem) :=
    Option.bind (f_X8_puts M l1 l2 l3 l4) fun z1 =>
    Option.bind (rd 640 (z1 164) (l5 + 3)) fun v2 =>
    some (v2, z1)
set_option maxRecDepth 20000 in
theorem m_X8_adds_145 {k : KT} {q : Int32 × Mem} (hk : CX k cX8_adds RX8 6 (some .int) 3) (hq : RI k q) (M : Mem) (l1 : Int32) (l2 : Int32) (l3 : Int32) (l4 : Int32) (l5 : Int32)  : GG k q (wM k M) 145 [(0, .ref (kh k + 163)), (1, .int l1), (2, .int l2), (3, .int l3), (4, .int l4), (5, .int l5)] [] (f_X8_adds_145  M l1 l2 l3 l4 l5) := by
  unfold f_X8_adds_145
  refine GG_aload_n hk (pc' := 146) 0 dX8_adds_145 rfl rfl rfl ?_
  refine GG_iload_n hk (pc' := 147) 1 dX8_adds_146 rfl rfl rfl ?_
  refine GG_iload_n hk (pc' := 148) 2 dX8_adds_147 rfl rfl rfl ?_
  refine GG_iload_n hk (pc' := 149) 3 dX8_adds_148 rfl rfl rfl ?_
  refine GG_iload hk (pc' := 151) 4 dX8_adds_149 rfl rfl ?_
  refine GG_callVv hk (st := []) (pc' := 154) mf_X8_puts mv_X8_puts LC8 rfl (c_X8_puts _ _ _ M l1 l2 l3 l4 ) (by omega) tw_976 rfl rfl rfl (Nat.le_of_ble_eq_true rfl) dX8_adds_151 rfl (fun z1 e_z1 => ?_)
  refine GG_aload_n hk (pc' := 155) 0 dX8_adds_154 rfl rfl rfl ?_
  refine GG_get hk LC8 0 (v := .ref (kh k + 164)) (pc' := 158) tw_842 rfl rfl (by decide) rfl dX8_adds_155 rfl ?_
  refine GG_iload hk (pc' := 160) 5 dX8_adds_158 rfl rfl ?_
  refine GG_iconst hk (pc' := 161) 3 dX8_adds_160 rfl rfl ?_
  refine GG_iadd hk (pc' := 162) dX8_adds_161 rfl ?_
  refine GG_iald hk (pc' := 163) rfl rfl dX8_adds_162 rfl (fun v2 e_v2 => ?_)
  exact GG_iret hk hq dX8_adds_163
noncomputable def f_X8_adds_126  (M : Mem) (l1 : Int32) (l2 : Int32) (l3 : Int32) (l4 : Int32) (l5 : Int32) : Option (Int32 × Mem) :=
    Option.bind (f_X8_has M l1 l2) fun z1 =>
    if ¬ z1.1 = 0 then
      f_X8_adds_145  z1.2 l1 l2 l3 l4 l5
    else
      Option.bind (f_X8_tell z1.2 l1 l2 1 0 0) fun z3 =>
      f_X8_adds_145  z3.2 l1 l2 l3 l4 l5
set_option maxRecDepth 20000 in
theorem m_X8_adds_126 {k : KT} {q : Int32 × Mem} (hk : CX k cX8_adds RX8 6 (some .int) 3) (hq : RI k q) (M : Mem) (l1 : Int32) (l2 : Int32) (l3 : Int32) (l4 : Int32) (l5 : Int32)  : GG k q (wM k M) 126 [(0, .ref (kh k + 163)), (1, .int l1), (2, .int l2), (3, .int l3), (4, .int l4), (5, .int l5)] [] (f_X8_adds_126  M l1 l2 l3 l4 l5) := by
  unfold f_X8_adds_126
  refine GG_aload_n hk (pc' := 127) 0 dX8_adds_126 rfl rfl rfl ?_
  refine GG_iload_n hk (pc' := 128) 1 dX8_adds_127 rfl rfl rfl ?_
  refine GG_iload_n hk (pc' := 129) 2 dX8_adds_128 rfl rfl rfl ?_
  refine GG_callVi hk (st := []) (pc' := 132) mf_X8_has mv_X8_has LC8 rfl (c_X8_has _ _ _ M l1 l2 ) (by omega) tw_968 rfl rfl rfl (Nat.le_of_ble_eq_true rfl) dX8_adds_129 rfl (fun z1 e_z1 => ?_)
  refine GG_if_ne hk 145 (pc' := 135) dX8_adds_132 rfl (by decide) (fun c2 => ?_) (fun c2 => ?_)
  · exact m_X8_adds_145 hk hq  z1.2 l1 l2 l3 l4 l5 
  · refine GG_aload_n hk (pc' := 136) 0 dX8_adds_135 rfl rfl rfl ?_
    refine GG_iload_n hk (pc' := 137) 1 dX8_adds_136 rfl rfl rfl ?_
    refine GG_iload_n hk (pc' := 138) 2 dX8_adds_137 rfl rfl rfl ?_
    refine GG_iconst hk (pc' := 139) 1 dX8_adds_138 rfl rfl ?_
    refine GG_iconst hk (pc' := 140) 0 dX8_adds_139 rfl rfl ?_
    refine GG_iconst hk (pc' := 141) 0 dX8_adds_140 rfl rfl ?_
    refine GG_callVi hk (st := []) (pc' := 144) mf_X8_tell mv_X8_tell LC8 rfl (c_X8_tell _ _ _ z1.2 l1 l2 1 0 0 ) (by omega) tw_957 rfl rfl rfl (Nat.le_of_ble_eq_true rfl) dX8_adds_141 rfl (fun z3 e_z3 => ?_)
    refine GG_pop hk (pc' := 145) dX8_adds_144 rfl rfl ?_
    exact m_X8_adds_145 hk hq  z3.2 l1 l2 l3 l4 l5 
noncomputable def f_X8_adds_68  (M : Mem) (l1 : Int32) (l2 : Int32) (l3 : Int32) (l4 : Int32) (l5 : Int32) : Option (Int32 × Mem) :=
    if l3 < 0 then
      Option.bind (f_X8_no M (-4)) fun z2 =>
      some (z2.1, z2.2)
    else
      if 0 ≤ l4 then
        if 9 < l3 then
          Option.bind (f_X8_no M (-6)) fun z5 =>
          some (z5.1, z5.2)
        else
          if 99 < l4 then
            Option.bind (f_X8_no M (-6)) fun z7 =>
            some (z7.1, z7.2)
          else
            Option.bind (f_X8_has M l1 l2) fun z8 =>
            if z8.1 = 0 then
              f_X8_adds_126  z8.2 l1 l2 l3 l4 l5
            else
              Option.bind (rd 640 (z8.2 164) (l5 + 3)) fun v10 =>
              if ¬ v10 = 4 then
                f_X8_adds_126  z8.2 l1 l2 l3 l4 l5
              else
                Option.bind (f_X8_no z8.2 (-6)) fun z12 =>
                some (z12.1, z12.2)
      else
        Option.bind (f_X8_no M (-4)) fun z13 =>
        some (z13.1, z13.2)
set_option maxRecDepth 20000 in
theorem m_X8_adds_68 {k : KT} {q : Int32 × Mem} (hk : CX k cX8_adds RX8 6 (some .int) 3) (hq : RI k q) (M : Mem) (l1 : Int32) (l2 : Int32) (l3 : Int32) (l4 : Int32) (l5 : Int32)  : GG k q (wM k M) 68 [(0, .ref (kh k + 163)), (1, .int l1), (2, .int l2), (3, .int l3), (4, .int l4), (5, .int l5)] [] (f_X8_adds_68  M l1 l2 l3 l4 l5) := by
  unfold f_X8_adds_68
  refine GG_iload_n hk (pc' := 69) 3 dX8_adds_68 rfl rfl rfl ?_
  refine GG_if_lt hk 77 (pc' := 72) dX8_adds_69 rfl (by decide) (fun c1 => ?_) (fun c1 => ?_)
  · refine GG_aload_n hk (pc' := 78) 0 dX8_adds_77 rfl rfl rfl ?_
    refine GG_bipush hk (pc' := 80) (-4) dX8_adds_78 rfl rfl ?_
    refine GG_callVi hk (st := []) (pc' := 83) mf_X8_no mv_X8_no LC8 rfl (c_X8_no _ _ _ M (-4) ) (by omega) tw_938 rfl rfl rfl (Nat.le_of_ble_eq_true rfl) dX8_adds_80 rfl (fun z2 e_z2 => ?_)
    exact GG_iret hk hq dX8_adds_83
  · refine GG_iload hk (pc' := 74) 4 dX8_adds_72 rfl rfl ?_
    refine GG_if_ge hk 84 (pc' := 77) dX8_adds_74 rfl (by decide) (fun c3 => ?_) (fun c3 => ?_)
    · refine GG_iload_n hk (pc' := 85) 3 dX8_adds_84 rfl rfl rfl ?_
      refine GG_bipush hk (pc' := 87) 9 dX8_adds_85 rfl rfl ?_
      refine GG_icmp_gt hk 119 (pc' := 90) dX8_adds_87 rfl (by decide) (fun c4 => ?_) (fun c4 => ?_)
      · refine GG_aload_n hk (pc' := 120) 0 dX8_adds_119 rfl rfl rfl ?_
        refine GG_bipush hk (pc' := 122) (-6) dX8_adds_120 rfl rfl ?_
        refine GG_callVi hk (st := []) (pc' := 125) mf_X8_no mv_X8_no LC8 rfl (c_X8_no _ _ _ M (-6) ) (by omega) tw_938 rfl rfl rfl (Nat.le_of_ble_eq_true rfl) dX8_adds_122 rfl (fun z5 e_z5 => ?_)
        exact GG_iret hk hq dX8_adds_125
      · refine GG_iload hk (pc' := 92) 4 dX8_adds_90 rfl rfl ?_
        refine GG_bipush hk (pc' := 94) 99 dX8_adds_92 rfl rfl ?_
        refine GG_icmp_gt hk 119 (pc' := 97) dX8_adds_94 rfl (by decide) (fun c6 => ?_) (fun c6 => ?_)
        · refine GG_aload_n hk (pc' := 120) 0 dX8_adds_119 rfl rfl rfl ?_
          refine GG_bipush hk (pc' := 122) (-6) dX8_adds_120 rfl rfl ?_
          refine GG_callVi hk (st := []) (pc' := 125) mf_X8_no mv_X8_no LC8 rfl (c_X8_no _ _ _ M (-6) ) (by omega) tw_938 rfl rfl rfl (Nat.le_of_ble_eq_true rfl) dX8_adds_122 rfl (fun z7 e_z7 => ?_)
          exact GG_iret hk hq dX8_adds_125
        · refine GG_aload_n hk (pc' := 98) 0 dX8_adds_97 rfl rfl rfl ?_
          refine GG_iload_n hk (pc' := 99) 1 dX8_adds_98 rfl rfl rfl ?_
          refine GG_iload_n hk (pc' := 100) 2 dX8_adds_99 rfl rfl rfl ?_
          refine GG_callVi hk (st := []) (pc' := 103) mf_X8_has mv_X8_has LC8 rfl (c_X8_has _ _ _ M l1 l2 ) (by omega) tw_968 rfl rfl rfl (Nat.le_of_ble_eq_true rfl) dX8_adds_100 rfl (fun z8 e_z8 => ?_)
          refine GG_if_eq hk 126 (pc' := 106) dX8_adds_103 rfl (by decide) (fun c9 => ?_) (fun c9 => ?_)
          · exact m_X8_adds_126 hk hq  z8.2 l1 l2 l3 l4 l5 
          · refine GG_aload_n hk (pc' := 107) 0 dX8_adds_106 rfl rfl rfl ?_
            refine GG_get hk LC8 0 (v := .ref (kh k + 164)) (pc' := 110) tw_842 rfl rfl (by decide) rfl dX8_adds_107 rfl ?_
            refine GG_iload hk (pc' := 112) 5 dX8_adds_110 rfl rfl ?_
            refine GG_iconst hk (pc' := 113) 3 dX8_adds_112 rfl rfl ?_
            refine GG_iadd hk (pc' := 114) dX8_adds_113 rfl ?_
            refine GG_iald hk (pc' := 115) rfl rfl dX8_adds_114 rfl (fun v10 e_v10 => ?_)
            refine GG_iconst hk (pc' := 116) 4 dX8_adds_115 rfl rfl ?_
            refine GG_icmp_ne hk 126 (pc' := 119) dX8_adds_116 rfl (by decide) (fun c11 => ?_) (fun c11 => ?_)
            · exact m_X8_adds_126 hk hq  z8.2 l1 l2 l3 l4 l5 
            · refine GG_aload_n hk (pc' := 120) 0 dX8_adds_119 rfl rfl rfl ?_
              refine GG_bipush hk (pc' := 122) (-6) dX8_adds_120 rfl rfl ?_
              refine GG_callVi hk (st := []) (pc' := 125) mf_X8_no mv_X8_no LC8 rfl (c_X8_no _ _ _ z8.2 (-6) ) (by omega) tw_938 rfl rfl rfl (Nat.le_of_ble_eq_true rfl) dX8_adds_122 rfl (fun z12 e_z12 => ?_)
              exact GG_iret hk hq dX8_adds_125
    · refine GG_aload_n hk (pc' := 78) 0 dX8_adds_77 rfl rfl rfl ?_
      refine GG_bipush hk (pc' := 80) (-4) dX8_adds_78 rfl rfl ?_
      refine GG_callVi hk (st := []) (pc' := 83) mf_X8_no mv_X8_no LC8 rfl (c_X8_no _ _ _ M (-4) ) (by omega) tw_938 rfl rfl rfl (Nat.le_of_ble_eq_true rfl) dX8_adds_80 rfl (fun z13 e_z13 => ?_)
      exact GG_iret hk hq dX8_adds_83
noncomputable def f_X8_adds (M : Mem) (l1 : Int32) (l2 : Int32) (l3 : Int32) (l4 : Int32) : Option (Int32 × Mem) :=
    Option.bind (f_X8_isLayer M l1) fun z1 =>
    if z1.1 = 0 then
      Option.bind (f_X8_no z1.2 (-1)) fun z3 =>
      some (z3.1, z3.2)
    else
      Option.bind (f_X8_isKey z1.2 l2) fun z4 =>
      if ¬ z4.1 = 0 then
        Option.bind (f_X8_entryAt z4.2 l1 l2) fun z6 =>
        Option.bind (f_X8_has z6.2 l1 l2) fun z7 =>
        if z7.1 = 0 then
          f_X8_adds_68  z7.2 l1 l2 l3 l4 z6.1
        else
          Option.bind (rd 640 (z7.2 164) (z6.1 + 0)) fun v9 =>
          if ¬ v9 = 1 then
            Option.bind (f_X8_no z7.2 (-3)) fun z11 =>
            some (z11.1, z11.2)
          else
            Option.bind (f_X8_find z7.2 l1 l2 l3) fun z12 =>
            if z12.1 = (-9) then
              f_X8_adds_68  z12.2 l1 l2 l3 l4 z6.1
            else
              Option.bind (f_X8_no z12.2 (-3)) fun z14 =>
              some (z14.1, z14.2)
      else
        Option.bind (f_X8_no z4.2 (-1)) fun z15 =>
        some (z15.1, z15.2)
set_option maxRecDepth 20000 in
theorem m_X8_adds {k : KT} {q : Int32 × Mem} (hk : CX k cX8_adds RX8 6 (some .int) 3) (hq : RI k q) (M : Mem) (l1 : Int32) (l2 : Int32) (l3 : Int32) (l4 : Int32)  : GG k q (wM k M) 0 [(0, .ref (kh k + 163)), (1, .int l1), (2, .int l2), (3, .int l3), (4, .int l4)] [] (f_X8_adds M l1 l2 l3 l4) := by
  unfold f_X8_adds
  refine GG_iload_n hk (pc' := 1) 1 dX8_adds_0 rfl rfl rfl ?_
  refine GG_callSi hk (st := []) (pc' := 4) mf_X8_isLayer tw_933 (c_X8_isLayer _ _ _ M l1 ) (by omega) tw_932 rfl rfl (Nat.le_of_ble_eq_true rfl) dX8_adds_1 rfl (fun z1 e_z1 => ?_)
  refine GG_if_eq hk 14 (pc' := 7) dX8_adds_4 rfl (by decide) (fun c2 => ?_) (fun c2 => ?_)
  · refine GG_aload_n hk (pc' := 15) 0 dX8_adds_14 rfl rfl rfl ?_
    refine GG_iconst hk (pc' := 16) (-1) dX8_adds_15 rfl rfl ?_
    refine GG_callVi hk (st := []) (pc' := 19) mf_X8_no mv_X8_no LC8 rfl (c_X8_no _ _ _ z1.2 (-1) ) (by omega) tw_938 rfl rfl rfl (Nat.le_of_ble_eq_true rfl) dX8_adds_16 rfl (fun z3 e_z3 => ?_)
    exact GG_iret hk hq dX8_adds_19
  · refine GG_iload_n hk (pc' := 8) 2 dX8_adds_7 rfl rfl rfl ?_
    refine GG_callSi hk (st := []) (pc' := 11) mf_X8_isKey tw_951 (c_X8_isKey _ _ _ z1.2 l2 ) (by omega) tw_950 rfl rfl (Nat.le_of_ble_eq_true rfl) dX8_adds_8 rfl (fun z4 e_z4 => ?_)
    refine GG_if_ne hk 20 (pc' := 14) dX8_adds_11 rfl (by decide) (fun c5 => ?_) (fun c5 => ?_)
    · refine GG_iload_n hk (pc' := 21) 1 dX8_adds_20 rfl rfl rfl ?_
      refine GG_iload_n hk (pc' := 22) 2 dX8_adds_21 rfl rfl rfl ?_
      refine GG_callSi hk (st := []) (pc' := 25) mf_X8_entryAt tw_962 (c_X8_entryAt _ _ _ z4.2 l1 l2 ) (by omega) tw_961 rfl rfl (Nat.le_of_ble_eq_true rfl) dX8_adds_22 rfl (fun z6 e_z6 => ?_)
      refine GG_istore hk (pc' := 27) [(5, .int z6.1), (0, .ref (kh k + 163)), (1, .int l1), (2, .int l2), (3, .int l3), (4, .int l4)] dX8_adds_25 rfl (by decide) rfl ?_
      refine GG_aload_n hk (pc' := 28) 1 dX8_adds_27 rfl rfl rfl ?_
      refine GG_iload_n hk (pc' := 29) 2 dX8_adds_28 rfl rfl rfl ?_
      refine GG_iload_n hk (pc' := 30) 3 dX8_adds_29 rfl rfl rfl ?_
      refine GG_callVi hk (st := []) (pc' := 33) mf_X8_has mv_X8_has LC8 rfl (c_X8_has _ _ _ z6.2 l1 l2 ) (by omega) tw_968 rfl rfl rfl (Nat.le_of_ble_eq_true rfl) dX8_adds_30 rfl (fun z7 e_z7 => ?_)
      refine GG_if_eq hk 68 (pc' := 36) dX8_adds_33 rfl (by decide) (fun c8 => ?_) (fun c8 => ?_)
      · refine GG_sub (L' := [(0, .ref (kh k + 163)), (1, .int l1), (2, .int l2), (3, .int l3), (4, .int l4), (5, .int z6.1)]) [1, 2, 3, 4, 5, 0] rfl ?_
        exact m_X8_adds_68 hk hq  z7.2 l1 l2 l3 l4 z6.1 
      · refine GG_aload_n hk (pc' := 37) 1 dX8_adds_36 rfl rfl rfl ?_
        refine GG_get hk LC8 0 (v := .ref (kh k + 164)) (pc' := 40) tw_842 rfl rfl (by decide) rfl dX8_adds_37 rfl ?_
        refine GG_iload hk (pc' := 42) 0 dX8_adds_40 rfl rfl ?_
        refine GG_iconst hk (pc' := 43) 0 dX8_adds_42 rfl rfl ?_
        refine GG_iadd hk (pc' := 44) dX8_adds_43 rfl ?_
        refine GG_iald hk (pc' := 45) rfl rfl dX8_adds_44 rfl (fun v9 e_v9 => ?_)
        refine GG_iconst hk (pc' := 46) 1 dX8_adds_45 rfl rfl ?_
        refine GG_icmp_ne hk 61 (pc' := 49) dX8_adds_46 rfl (by decide) (fun c10 => ?_) (fun c10 => ?_)
        · refine GG_aload_n hk (pc' := 62) 1 dX8_adds_61 rfl rfl rfl ?_
          refine GG_bipush hk (pc' := 64) (-3) dX8_adds_62 rfl rfl ?_
          refine GG_callVi hk (st := []) (pc' := 67) mf_X8_no mv_X8_no LC8 rfl (c_X8_no _ _ _ z7.2 (-3) ) (by omega) tw_938 rfl rfl rfl (Nat.le_of_ble_eq_true rfl) dX8_adds_64 rfl (fun z11 e_z11 => ?_)
          exact GG_iret hk hq dX8_adds_67
        · refine GG_aload_n hk (pc' := 50) 1 dX8_adds_49 rfl rfl rfl ?_
          refine GG_iload_n hk (pc' := 51) 2 dX8_adds_50 rfl rfl rfl ?_
          refine GG_iload_n hk (pc' := 52) 3 dX8_adds_51 rfl rfl rfl ?_
          refine GG_iload_n hk (pc' := 53) 4 dX8_adds_52 rfl rfl rfl ?_
          refine GG_callVi hk (st := []) (pc' := 56) mf_X8_find mv_X8_find LC8 rfl (c_X8_find _ _ _ z7.2 l1 l2 l3 ) (by omega) tw_972 rfl rfl rfl (Nat.le_of_ble_eq_true rfl) dX8_adds_53 rfl (fun z12 e_z12 => ?_)
          refine GG_bipush hk (pc' := 58) (-9) dX8_adds_56 rfl rfl ?_
          refine GG_icmp_eq hk 68 (pc' := 61) dX8_adds_58 rfl (by decide) (fun c13 => ?_) (fun c13 => ?_)
          · refine GG_sub (L' := [(0, .ref (kh k + 163)), (1, .int l1), (2, .int l2), (3, .int l3), (4, .int l4), (5, .int z6.1)]) [1, 2, 3, 4, 5, 0] rfl ?_
            exact m_X8_adds_68 hk hq  z12.2 l1 l2 l3 l4 z6.1 
          · refine GG_aload_n hk (pc' := 62) 1 dX8_adds_61 rfl rfl rfl ?_
            refine GG_bipush hk (pc' := 64) (-3) dX8_adds_62 rfl rfl ?_
            refine GG_callVi hk (st := []) (pc' := 67) mf_X8_no mv_X8_no LC8 rfl (c_X8_no _ _ _ z12.2 (-3) ) (by omega) tw_938 rfl rfl rfl (Nat.le_of_ble_eq_true rfl) dX8_adds_64 rfl (fun z14 e_z14 => ?_)
            exact GG_iret hk hq dX8_adds_67
    · refine GG_aload_n hk (pc' := 15) 0 dX8_adds_14 rfl rfl rfl ?_
      refine GG_iconst hk (pc' := 16) (-1) dX8_adds_15 rfl rfl ?_
      refine GG_callVi hk (st := []) (pc' := 19) mf_X8_no mv_X8_no LC8 rfl (c_X8_no _ _ _ z4.2 (-1) ) (by omega) tw_938 rfl rfl rfl (Nat.le_of_ble_eq_true rfl) dX8_adds_16 rfl (fun z15 e_z15 => ?_)
      exact GG_iret hk hq dX8_adds_19
theorem c_X8_adds (l : Launch) (C : DD) (a : Nat) (M : Mem) (l1 : Int32) (l2 : Int32) (l3 : Int32) (l4 : Int32)  : CI l C (a) yX8_adds cX8_adds 6 .int 3 [.ref (a + 163), .int l1, .int l2, .int l3, .int l4] M (f_X8_adds M l1 l2 l3 l4) := by
  refine CI_of RX8 (by decide +kernel) rfl (Nat.le_of_ble_eq_true rfl) (fun k q hk hq e1 e2 e3 => ?_)
  subst e1; subst e2; subst e3
  exact m_X8_adds hk hq M l1 l2 l3 l4 

/-! SettingsInLayersModel.refers(IIII)I -/
noncomputable def f_X8_refers_67  (M : Mem) (l3 : Int32) (l4 : Int32) (t0 : Int32) (t1 : Int32) (t2 : Int32) : Option (Int32 × Mem) :=
    Option.bind (f_X8_tell M t2 t1 t0 (if 0 < l4 then l4 else 0) l3) fun z1 =>
    some (z1.1, z1.2)
set_option maxRecDepth 20000 in
theorem m_X8_refers_67 {k : KT} {q : Int32 × Mem} (hk : CX k cX8_refers RX8 5 (some .int) 3) (hq : RI k q) (M : Mem) (l3 : Int32) (l4 : Int32) (t0 : Int32) (t1 : Int32) (t2 : Int32)  : GG k q (wM k M) 67 [(3, .int l3), (4, .int l4)] [.int t0, .int t1, .int t2, .ref (kh k + 163)] (f_X8_refers_67  M l3 l4 t0 t1 t2) := by
  unfold f_X8_refers_67
  refine GG_iconst hk (pc' := 68) 0 dX8_refers_67 rfl rfl ?_
  refine GG_iload hk (pc' := 70) 1 dX8_refers_68 rfl rfl ?_
  refine GG_mmax hk (st := [.int t0, .int t1, .int t2, .ref (kh k + 163)]) (pc' := 73) tw_984 tw_804 tw_11 tw_805 (by omega) (Nat.le_of_ble_eq_true rfl) dX8_refers_70 rfl ?_
  refine GG_iload_n hk (pc' := 74) 0 dX8_refers_73 rfl rfl rfl ?_
  refine GG_callVi hk (st := []) (pc' := 77) mf_X8_tell mv_X8_tell LC8 rfl (c_X8_tell _ _ _ M t2 t1 t0 (if 0 < l4 then l4 else 0) l3 ) (by omega) tw_957 rfl rfl rfl (Nat.le_of_ble_eq_true rfl) dX8_refers_74 rfl (fun z1 e_z1 => ?_)
  exact GG_iret hk hq dX8_refers_77
noncomputable def f_X8_refers (M : Mem) (l1 : Int32) (l2 : Int32) (l3 : Int32) (l4 : Int32) : Option (Int32 × Mem) :=
    Option.bind (f_X8_isLayer M l1) fun z1 =>
    if z1.1 = 0 then
      Option.bind (f_X8_no z1.2 (-1)) fun z3 =>
      some (z3.1, z3.2)
    else
      Option.bind (f_X8_isKey z1.2 l2) fun z4 =>
      if z4.1 = 0 then
        Option.bind (f_X8_no z4.2 (-1)) fun z6 =>
        some (z6.1, z6.2)
      else
        Option.bind (f_X8_isKey z4.2 l3) fun z7 =>
        if ¬ z7.1 = 0 then
          if (-1) ≤ l4 then
            if l4 ≤ 99 then
              if 0 ≤ l4 then
                f_X8_refers_67  z7.2 l3 l4 3 l2 l1
              else
                f_X8_refers_67  z7.2 l3 l4 2 l2 l1
            else
              Option.bind (f_X8_no z7.2 (-6)) fun z12 =>
              some (z12.1, z12.2)
          else
            Option.bind (f_X8_no z7.2 (-4)) fun z13 =>
            some (z13.1, z13.2)
        else
          Option.bind (f_X8_no z7.2 (-1)) fun z14 =>
          some (z14.1, z14.2)
set_option maxRecDepth 20000 in
theorem m_X8_refers {k : KT} {q : Int32 × Mem} (hk : CX k cX8_refers RX8 5 (some .int) 3) (hq : RI k q) (M : Mem) (l1 : Int32) (l2 : Int32) (l3 : Int32) (l4 : Int32)  : GG k q (wM k M) 0 [(0, .ref (kh k + 163)), (1, .int l1), (2, .int l2), (3, .int l3), (4, .int l4)] [] (f_X8_refers M l1 l2 l3 l4) := by
  unfold f_X8_refers
  refine GG_iload_n hk (pc' := 1) 1 dX8_refers_0 rfl rfl rfl ?_
  refine GG_callSi hk (st := []) (pc' := 4) mf_X8_isLayer tw_933 (c_X8_isLayer _ _ _ M l1 ) (by omega) tw_932 rfl rfl (Nat.le_of_ble_eq_true rfl) dX8_refers_1 rfl (fun z1 e_z1 => ?_)
  refine GG_if_eq hk 21 (pc' := 7) dX8_refers_4 rfl (by decide) (fun c2 => ?_) (fun c2 => ?_)
  · refine GG_aload_n hk (pc' := 22) 0 dX8_refers_21 rfl rfl rfl ?_
    refine GG_iconst hk (pc' := 23) (-1) dX8_refers_22 rfl rfl ?_
    refine GG_callVi hk (st := []) (pc' := 26) mf_X8_no mv_X8_no LC8 rfl (c_X8_no _ _ _ z1.2 (-1) ) (by omega) tw_938 rfl rfl rfl (Nat.le_of_ble_eq_true rfl) dX8_refers_23 rfl (fun z3 e_z3 => ?_)
    exact GG_iret hk hq dX8_refers_26
  · refine GG_iload_n hk (pc' := 8) 2 dX8_refers_7 rfl rfl rfl ?_
    refine GG_callSi hk (st := []) (pc' := 11) mf_X8_isKey tw_951 (c_X8_isKey _ _ _ z1.2 l2 ) (by omega) tw_950 rfl rfl (Nat.le_of_ble_eq_true rfl) dX8_refers_8 rfl (fun z4 e_z4 => ?_)
    refine GG_if_eq hk 21 (pc' := 14) dX8_refers_11 rfl (by decide) (fun c5 => ?_) (fun c5 => ?_)
    · refine GG_aload_n hk (pc' := 22) 0 dX8_refers_21 rfl rfl rfl ?_
      refine GG_iconst hk (pc' := 23) (-1) dX8_refers_22 rfl rfl ?_
      refine GG_callVi hk (st := []) (pc' := 26) mf_X8_no mv_X8_no LC8 rfl (c_X8_no _ _ _ z4.2 (-1) ) (by omega) tw_938 rfl rfl rfl (Nat.le_of_ble_eq_true rfl) dX8_refers_23 rfl (fun z6 e_z6 => ?_)
      exact GG_iret hk hq dX8_refers_26
    · refine GG_iload_n hk (pc' := 15) 3 dX8_refers_14 rfl rfl rfl ?_
      refine GG_callSi hk (st := []) (pc' := 18) mf_X8_isKey tw_951 (c_X8_isKey _ _ _ z4.2 l3 ) (by omega) tw_950 rfl rfl (Nat.le_of_ble_eq_true rfl) dX8_refers_15 rfl (fun z7 e_z7 => ?_)
      refine GG_if_ne hk 27 (pc' := 21) dX8_refers_18 rfl (by decide) (fun c8 => ?_) (fun c8 => ?_)
      · refine GG_iload hk (pc' := 29) 4 dX8_refers_27 rfl rfl ?_
        refine GG_iconst hk (pc' := 30) (-1) dX8_refers_29 rfl rfl ?_
        refine GG_icmp_ge hk 40 (pc' := 33) dX8_refers_30 rfl (by decide) (fun c9 => ?_) (fun c9 => ?_)
        · refine GG_iload hk (pc' := 42) 4 dX8_refers_40 rfl rfl ?_
          refine GG_bipush hk (pc' := 44) 99 dX8_refers_42 rfl rfl ?_
          refine GG_icmp_le hk 54 (pc' := 47) dX8_refers_44 rfl (by decide) (fun c10 => ?_) (fun c10 => ?_)
          · refine GG_aload_n hk (pc' := 55) 0 dX8_refers_54 rfl rfl rfl ?_
            refine GG_iload_n hk (pc' := 56) 1 dX8_refers_55 rfl rfl rfl ?_
            refine GG_iload_n hk (pc' := 57) 2 dX8_refers_56 rfl rfl rfl ?_
            refine GG_iload hk (pc' := 59) 4 dX8_refers_57 rfl rfl ?_
            refine GG_if_ge hk 66 (pc' := 62) dX8_refers_59 rfl (by decide) (fun c11 => ?_) (fun c11 => ?_)
            · refine GG_iconst hk (pc' := 67) 3 dX8_refers_66 rfl rfl ?_
              refine GG_sub (L' := [(3, .int l3), (4, .int l4)]) [3, 4] rfl ?_
              exact m_X8_refers_67 hk hq  z7.2 l3 l4 3 l2 l1 
            · refine GG_iconst hk (pc' := 63) 2 dX8_refers_62 rfl rfl ?_
              refine GG_goto hk 67 dX8_refers_63 (by decide) ?_
              refine GG_sub (L' := [(3, .int l3), (4, .int l4)]) [3, 4] rfl ?_
              exact m_X8_refers_67 hk hq  z7.2 l3 l4 2 l2 l1 
          · refine GG_aload_n hk (pc' := 48) 0 dX8_refers_47 rfl rfl rfl ?_
            refine GG_bipush hk (pc' := 50) (-6) dX8_refers_48 rfl rfl ?_
            refine GG_callVi hk (st := []) (pc' := 53) mf_X8_no mv_X8_no LC8 rfl (c_X8_no _ _ _ z7.2 (-6) ) (by omega) tw_938 rfl rfl rfl (Nat.le_of_ble_eq_true rfl) dX8_refers_50 rfl (fun z12 e_z12 => ?_)
            exact GG_iret hk hq dX8_refers_53
        · refine GG_aload_n hk (pc' := 34) 0 dX8_refers_33 rfl rfl rfl ?_
          refine GG_bipush hk (pc' := 36) (-4) dX8_refers_34 rfl rfl ?_
          refine GG_callVi hk (st := []) (pc' := 39) mf_X8_no mv_X8_no LC8 rfl (c_X8_no _ _ _ z7.2 (-4) ) (by omega) tw_938 rfl rfl rfl (Nat.le_of_ble_eq_true rfl) dX8_refers_36 rfl (fun z13 e_z13 => ?_)
          exact GG_iret hk hq dX8_refers_39
      · refine GG_aload_n hk (pc' := 22) 0 dX8_refers_21 rfl rfl rfl ?_
        refine GG_iconst hk (pc' := 23) (-1) dX8_refers_22 rfl rfl ?_
        refine GG_callVi hk (st := []) (pc' := 26) mf_X8_no mv_X8_no LC8 rfl (c_X8_no _ _ _ z7.2 (-1) ) (by omega) tw_938 rfl rfl rfl (Nat.le_of_ble_eq_true rfl) dX8_refers_23 rfl (fun z14 e_z14 => ?_)
        exact GG_iret hk hq dX8_refers_26
theorem c_X8_refers (l : Launch) (C : DD) (a : Nat) (M : Mem) (l1 : Int32) (l2 : Int32) (l3 : Int32) (l4 : Int32)  : CI l C (a) yX8_refers cX8_refers 5 .int 3 [.ref (a + 163), .int l1, .int l2, .int l3, .int l4] M (f_X8_refers M l1 l2 l3 l4) := by
  refine CI_of RX8 (by decide +kernel) rfl (Nat.le_of_ble_eq_true rfl) (fun k q hk hq e1 e2 e3 => ?_)
  subst e1; subst e2; subst e3
  exact m_X8_refers hk hq M l1 l2 l3 l4 

/-! SettingsInLayersModel.gap(II)I -/
noncomputable def f_X8_gap (M : Mem) (l1 : Int32) (l2 : Int32) : Option (Int32 × Mem) :=
    Option.bind (f_X8_isLayer M l1) fun z1 =>
    if z1.1 = 0 then
      Option.bind (f_X8_no z1.2 (-1)) fun z3 =>
      some (z3.1, z3.2)
    else
      Option.bind (f_X8_isKey z1.2 l2) fun z4 =>
      if ¬ z4.1 = 0 then
        Option.bind (f_X8_tell z4.2 l1 l2 4 0 0) fun z6 =>
        some (z6.1, z6.2)
      else
        Option.bind (f_X8_no z4.2 (-1)) fun z7 =>
        some (z7.1, z7.2)
set_option maxRecDepth 20000 in
theorem m_X8_gap {k : KT} {q : Int32 × Mem} (hk : CX k cX8_gap RX8 3 (some .int) 3) (hq : RI k q) (M : Mem) (l1 : Int32) (l2 : Int32)  : GG k q (wM k M) 0 [(0, .ref (kh k + 163)), (1, .int l1), (2, .int l2)] [] (f_X8_gap M l1 l2) := by
  unfold f_X8_gap
  refine GG_iload_n hk (pc' := 1) 1 dX8_gap_0 rfl rfl rfl ?_
  refine GG_callSi hk (st := []) (pc' := 4) mf_X8_isLayer tw_933 (c_X8_isLayer _ _ _ M l1 ) (by omega) tw_932 rfl rfl (Nat.le_of_ble_eq_true rfl) dX8_gap_1 rfl (fun z1 e_z1 => ?_)
  refine GG_if_eq hk 14 (pc' := 7) dX8_gap_4 rfl (by decide) (fun c2 => ?_) (fun c2 => ?_)
  · refine GG_aload_n hk (pc' := 15) 0 dX8_gap_14 rfl rfl rfl ?_
    refine GG_iconst hk (pc' := 16) (-1) dX8_gap_15 rfl rfl ?_
    refine GG_callVi hk (st := []) (pc' := 19) mf_X8_no mv_X8_no LC8 rfl (c_X8_no _ _ _ z1.2 (-1) ) (by omega) tw_938 rfl rfl rfl (Nat.le_of_ble_eq_true rfl) dX8_gap_16 rfl (fun z3 e_z3 => ?_)
    refine GG_goto hk 31 dX8_gap_19 (by decide) ?_
    exact GG_iret hk hq dX8_gap_31
  · refine GG_iload_n hk (pc' := 8) 2 dX8_gap_7 rfl rfl rfl ?_
    refine GG_callSi hk (st := []) (pc' := 11) mf_X8_isKey tw_951 (c_X8_isKey _ _ _ z1.2 l2 ) (by omega) tw_950 rfl rfl (Nat.le_of_ble_eq_true rfl) dX8_gap_8 rfl (fun z4 e_z4 => ?_)
    refine GG_if_ne hk 22 (pc' := 14) dX8_gap_11 rfl (by decide) (fun c5 => ?_) (fun c5 => ?_)
    · refine GG_aload_n hk (pc' := 23) 0 dX8_gap_22 rfl rfl rfl ?_
      refine GG_iload_n hk (pc' := 24) 1 dX8_gap_23 rfl rfl rfl ?_
      refine GG_iload_n hk (pc' := 25) 2 dX8_gap_24 rfl rfl rfl ?_
      refine GG_iconst hk (pc' := 26) 4 dX8_gap_25 rfl rfl ?_
      refine GG_iconst hk (pc' := 27) 0 dX8_gap_26 rfl rfl ?_
      refine GG_iconst hk (pc' := 28) 0 dX8_gap_27 rfl rfl ?_
      refine GG_callVi hk (st := []) (pc' := 31) mf_X8_tell mv_X8_tell LC8 rfl (c_X8_tell _ _ _ z4.2 l1 l2 4 0 0 ) (by omega) tw_957 rfl rfl rfl (Nat.le_of_ble_eq_true rfl) dX8_gap_28 rfl (fun z6 e_z6 => ?_)
      exact GG_iret hk hq dX8_gap_31
    · refine GG_aload_n hk (pc' := 15) 0 dX8_gap_14 rfl rfl rfl ?_
      refine GG_iconst hk (pc' := 16) (-1) dX8_gap_15 rfl rfl ?_
      refine GG_callVi hk (st := []) (pc' := 19) mf_X8_no mv_X8_no LC8 rfl (c_X8_no _ _ _ z4.2 (-1) ) (by omega) tw_938 rfl rfl rfl (Nat.le_of_ble_eq_true rfl) dX8_gap_16 rfl (fun z7 e_z7 => ?_)
      refine GG_goto hk 31 dX8_gap_19 (by decide) ?_
      exact GG_iret hk hq dX8_gap_31
theorem c_X8_gap (l : Launch) (C : DD) (a : Nat) (M : Mem) (l1 : Int32) (l2 : Int32)  : CI l C (a) yX8_gap cX8_gap 3 .int 3 [.ref (a + 163), .int l1, .int l2] M (f_X8_gap M l1 l2) := by
  refine CI_of RX8 (by decide +kernel) rfl (Nat.le_of_ble_eq_true rfl) (fun k q hk hq e1 e2 e3 => ?_)
  subst e1; subst e2; subst e3
  exact m_X8_gap hk hq M l1 l2 

/-! SettingsInLayersModel.entries(I)I -/
noncomputable def f_X8_entries_4  : Nat → Mem → Int32 → Int32 → Int32 → Option (Int32 × Mem)
  | 0, _, _, _, _ => none
  | n + 1, M, l1, l2, l3 =>
    if 8 ≤ l3 then
      some (l2, M)
    else
      Option.bind (f_X8_has M l1 l3) fun z2 =>
      if z2.1 = 0 then
        f_X8_entries_4  n z2.2 l1 (l2 ||| 0) (l3 + 1)
      else
        Option.bind (some (l2 ||| (1 <<< (l3 &&& 31)))) fun v4 =>
        f_X8_entries_4  n z2.2 l1 v4 (l3 + 1)
set_option maxRecDepth 20000 in
theorem m_X8_entries_4 {k : KT} {q : Int32 × Mem} (hk : CX k cX8_entries RX8 4 (some .int) 3) (hq : RI k q) : ∀ (n : Nat) (M : Mem) (l1 : Int32) (l2 : Int32) (l3 : Int32) , GG k q (wM k M) 4 [(0, .ref (kh k + 163)), (1, .int l1), (2, .int l2), (3, .int l3)] [] (f_X8_entries_4  n M l1 l2 l3) := by
  intro n
  induction n with
  | zero => intros; exact GG_none
  | succ n ih =>
    intro M l1 l2 l3 
    rw [f_X8_entries_4]
    refine GG_iload_n hk (pc' := 5) 3 dX8_entries_4 rfl rfl rfl ?_
    refine GG_bipush hk (pc' := 7) 8 dX8_entries_5 rfl rfl ?_
    refine GG_icmp_ge hk 35 (pc' := 10) dX8_entries_7 rfl (by decide) (fun c1 => ?_) (fun c1 => ?_)
    · refine GG_iload_n hk (pc' := 36) 2 dX8_entries_35 rfl rfl rfl ?_
      exact GG_iret hk hq dX8_entries_36
    · refine GG_iload_n hk (pc' := 11) 2 dX8_entries_10 rfl rfl rfl ?_
      refine GG_aload_n hk (pc' := 12) 0 dX8_entries_11 rfl rfl rfl ?_
      refine GG_iload_n hk (pc' := 13) 1 dX8_entries_12 rfl rfl rfl ?_
      refine GG_iload_n hk (pc' := 14) 3 dX8_entries_13 rfl rfl rfl ?_
      refine GG_callVi hk (st := [.int l2]) (pc' := 17) mf_X8_has mv_X8_has LC8 rfl (c_X8_has _ _ _ M l1 l3 ) (by omega) tw_968 rfl rfl rfl (Nat.le_of_ble_eq_true rfl) dX8_entries_14 rfl (fun z2 e_z2 => ?_)
      refine GG_if_eq hk 26 (pc' := 20) dX8_entries_17 rfl (by decide) (fun c3 => ?_) (fun c3 => ?_)
      · refine GG_iconst hk (pc' := 27) 0 dX8_entries_26 rfl rfl ?_
        refine GG_ior hk (pc' := 28) dX8_entries_27 rfl ?_
        refine GG_istore_n hk (pc' := 29) [(2, .int (l2 ||| 0)), (0, .ref (kh k + 163)), (1, .int l1), (3, .int l3)] dX8_entries_28 rfl rfl (by decide) rfl ?_
        refine GG_iinc hk (pc' := 32) 3 (l3 + 1) [(3, .int (l3 + 1)), (2, .int (l2 ||| 0)), (0, .ref (kh k + 163)), (1, .int l1)] dX8_entries_29 rfl rfl rfl (by decide) rfl ?_
        refine GG_goto hk 4 dX8_entries_32 (by decide) ?_
        refine GG_sub (L' := [(0, .ref (kh k + 163)), (1, .int l1), (2, .int (l2 ||| 0)), (3, .int (l3 + 1))]) [2, 3, 1, 0] rfl ?_
        exact ih z2.2 l1 (l2 ||| 0) (l3 + 1) 
      · refine GG_iconst hk (pc' := 21) 1 dX8_entries_20 rfl rfl ?_
        refine GG_iload_n hk (pc' := 22) 3 dX8_entries_21 rfl rfl rfl ?_
        refine GG_ishl hk (pc' := 23) dX8_entries_22 rfl ?_
        refine GG_goto hk 27 dX8_entries_23 (by decide) ?_
        refine GG_ior hk (pc' := 28) dX8_entries_27 rfl ?_
        refine GG_nm (fun v4 e_v4 => ?_)
        refine GG_istore_n hk (pc' := 29) [(2, .int v4), (0, .ref (kh k + 163)), (1, .int l1), (3, .int l3)] dX8_entries_28 rfl rfl (by decide) rfl ?_
        refine GG_iinc hk (pc' := 32) 3 (l3 + 1) [(3, .int (l3 + 1)), (2, .int v4), (0, .ref (kh k + 163)), (1, .int l1)] dX8_entries_29 rfl rfl rfl (by decide) rfl ?_
        refine GG_goto hk 4 dX8_entries_32 (by decide) ?_
        refine GG_sub (L' := [(0, .ref (kh k + 163)), (1, .int l1), (2, .int v4), (3, .int (l3 + 1))]) [2, 3, 1, 0] rfl ?_
        exact ih z2.2 l1 v4 (l3 + 1) 
noncomputable def f_X8_entries (M : Mem) (l1 : Int32) : Option (Int32 × Mem) :=
    f_X8_entries_4  1000 M l1 0 0
set_option maxRecDepth 20000 in
theorem m_X8_entries {k : KT} {q : Int32 × Mem} (hk : CX k cX8_entries RX8 4 (some .int) 3) (hq : RI k q) (M : Mem) (l1 : Int32)  : GG k q (wM k M) 0 [(0, .ref (kh k + 163)), (1, .int l1)] [] (f_X8_entries M l1) := by
  unfold f_X8_entries
  refine GG_iconst hk (pc' := 1) 0 dX8_entries_0 rfl rfl ?_
  refine GG_istore_n hk (pc' := 2) [(2, .int 0), (0, .ref (kh k + 163)), (1, .int l1)] dX8_entries_1 rfl rfl (by decide) rfl ?_
  refine GG_iconst hk (pc' := 3) 0 dX8_entries_2 rfl rfl ?_
  refine GG_istore_n hk (pc' := 4) [(3, .int 0), (2, .int 0), (0, .ref (kh k + 163)), (1, .int l1)] dX8_entries_3 rfl rfl (by decide) rfl ?_
  refine GG_sub (L' := [(0, .ref (kh k + 163)), (1, .int l1), (2, .int 0), (3, .int 0)]) [2, 3, 1, 0] rfl ?_
  exact m_X8_entries_4 hk hq  1000 M l1 0 0 
theorem c_X8_entries (l : Launch) (C : DD) (a : Nat) (M : Mem) (l1 : Int32)  : CI l C (a) yX8_entries cX8_entries 4 .int 3 [.ref (a + 163), .int l1] M (f_X8_entries M l1) := by
  refine CI_of RX8 (by decide +kernel) rfl (Nat.le_of_ble_eq_true rfl) (fun k q hk hq e1 e2 e3 => ?_)
  subst e1; subst e2; subst e3
  exact m_X8_entries hk hq M l1 

/-! SettingsInLayersModel.ones(I)I -/
noncomputable def f_X8_ones_4  : Nat → Mem → Int32 → Int32 → Int32 → Option (Int32 × Mem)
  | 0, _, _, _, _ => none
  | n + 1, M, l0, l1, l2 =>
    if 16 ≤ l2 then
      some (l1, M)
    else
      Option.bind (some (l1 + ((l0 >>> (l2 &&& 31)) &&& 1))) fun v2 =>
      f_X8_ones_4  n M l0 v2 (l2 + 1)
set_option maxRecDepth 20000 in
theorem m_X8_ones_4 {k : KT} {q : Int32 × Mem} (hk : CX k cX8_ones RX8 3 (some .int) 1) (hq : RI k q) : ∀ (n : Nat) (M : Mem) (l0 : Int32) (l1 : Int32) (l2 : Int32) , GG k q (wM k M) 4 [(0, .int l0), (1, .int l1), (2, .int l2)] [] (f_X8_ones_4  n M l0 l1 l2) := by
  intro n
  induction n with
  | zero => intros; exact GG_none
  | succ n ih =>
    intro M l0 l1 l2 
    rw [f_X8_ones_4]
    refine GG_iload_n hk (pc' := 5) 2 dX8_ones_4 rfl rfl rfl ?_
    refine GG_bipush hk (pc' := 7) 16 dX8_ones_5 rfl rfl ?_
    refine GG_icmp_ge hk 24 (pc' := 10) dX8_ones_7 rfl (by decide) (fun c1 => ?_) (fun c1 => ?_)
    · refine GG_iload_n hk (pc' := 25) 1 dX8_ones_24 rfl rfl rfl ?_
      exact GG_iret hk hq dX8_ones_25
    · refine GG_iload_n hk (pc' := 11) 1 dX8_ones_10 rfl rfl rfl ?_
      refine GG_iload_n hk (pc' := 12) 0 dX8_ones_11 rfl rfl rfl ?_
      refine GG_iload_n hk (pc' := 13) 2 dX8_ones_12 rfl rfl rfl ?_
      refine GG_ishr hk (pc' := 14) dX8_ones_13 rfl ?_
      refine GG_iconst hk (pc' := 15) 1 dX8_ones_14 rfl rfl ?_
      refine GG_iand hk (pc' := 16) dX8_ones_15 rfl ?_
      refine GG_iadd hk (pc' := 17) dX8_ones_16 rfl ?_
      refine GG_nm (fun v2 e_v2 => ?_)
      refine GG_istore_n hk (pc' := 18) [(1, .int v2), (0, .int l0), (2, .int l2)] dX8_ones_17 rfl rfl (by decide) rfl ?_
      refine GG_iinc hk (pc' := 21) 2 (l2 + 1) [(2, .int (l2 + 1)), (1, .int v2), (0, .int l0)] dX8_ones_18 rfl rfl rfl (by decide) rfl ?_
      refine GG_goto hk 4 dX8_ones_21 (by decide) ?_
      refine GG_sub (L' := [(0, .int l0), (1, .int v2), (2, .int (l2 + 1))]) [2, 1, 0] rfl ?_
      exact ih M l0 v2 (l2 + 1) 
noncomputable def f_X8_ones (M : Mem) (l0 : Int32) : Option (Int32 × Mem) :=
    f_X8_ones_4  1000 M l0 0 0
set_option maxRecDepth 20000 in
theorem m_X8_ones {k : KT} {q : Int32 × Mem} (hk : CX k cX8_ones RX8 3 (some .int) 1) (hq : RI k q) (M : Mem) (l0 : Int32)  : GG k q (wM k M) 0 [(0, .int l0)] [] (f_X8_ones M l0) := by
  unfold f_X8_ones
  refine GG_iconst hk (pc' := 1) 0 dX8_ones_0 rfl rfl ?_
  refine GG_istore_n hk (pc' := 2) [(1, .int 0), (0, .int l0)] dX8_ones_1 rfl rfl (by decide) rfl ?_
  refine GG_iconst hk (pc' := 3) 0 dX8_ones_2 rfl rfl ?_
  refine GG_istore_n hk (pc' := 4) [(2, .int 0), (1, .int 0), (0, .int l0)] dX8_ones_3 rfl rfl (by decide) rfl ?_
  refine GG_sub (L' := [(0, .int l0), (1, .int 0), (2, .int 0)]) [2, 1, 0] rfl ?_
  exact m_X8_ones_4 hk hq  1000 M l0 0 0 
theorem c_X8_ones (l : Launch) (C : DD) (a : Nat) (M : Mem) (l0 : Int32)  : CI l C (a) yX8_ones cX8_ones 3 .int 1 [.int l0] M (f_X8_ones M l0) := by
  refine CI_of RX8 (by decide +kernel) rfl (Nat.le_of_ble_eq_true rfl) (fun k q hk hq e1 e2 e3 => ?_)
  subst e1; subst e2; subst e3
  exact m_X8_ones hk hq M l0 

/-! SettingsInLayersModel.drops(II)I -/
noncomputable def f_X8_drops (M : Mem) (l1 : Int32) (l2 : Int32) : Option (Int32 × Mem) :=
    Option.bind (f_X8_isLayer M l1) fun z1 =>
    if z1.1 = 0 then
      Option.bind (f_X8_no z1.2 (-1)) fun z3 =>
      some (z3.1, z3.2)
    else
      Option.bind (f_X8_isKey z1.2 l2) fun z4 =>
      if z4.1 = 0 then
        Option.bind (f_X8_no z4.2 (-1)) fun z6 =>
        some (z6.1, z6.2)
      else
        Option.bind (f_X8_has z4.2 l1 l2) fun z7 =>
        if ¬ z7.1 = 0 then
          Option.bind (f_X8_entryAt z7.2 l1 l2) fun z9 =>
          Option.bind (wra 640 z9.2 164 (z9.1 + 0) (-9)) fun M10 =>
          Option.bind (f_X8_entries M10 l1) fun z11 =>
          Option.bind (f_X8_ones z11.2 z11.1) fun z12 =>
          some (z12.1, z12.2)
        else
          Option.bind (f_X8_no z7.2 (-1)) fun z13 =>
          some (z13.1, z13.2)
set_option maxRecDepth 20000 in
theorem m_X8_drops {k : KT} {q : Int32 × Mem} (hk : CX k cX8_drops RX8 3 (some .int) 4) (hq : RI k q) (M : Mem) (l1 : Int32) (l2 : Int32)  : GG k q (wM k M) 0 [(0, .ref (kh k + 163)), (1, .int l1), (2, .int l2)] [] (f_X8_drops M l1 l2) := by
  unfold f_X8_drops
  refine GG_iload_n hk (pc' := 1) 1 dX8_drops_0 rfl rfl rfl ?_
  refine GG_callSi hk (st := []) (pc' := 4) mf_X8_isLayer tw_933 (c_X8_isLayer _ _ _ M l1 ) (by omega) tw_932 rfl rfl (Nat.le_of_ble_eq_true rfl) dX8_drops_1 rfl (fun z1 e_z1 => ?_)
  refine GG_if_eq hk 23 (pc' := 7) dX8_drops_4 rfl (by decide) (fun c2 => ?_) (fun c2 => ?_)
  · refine GG_aload_n hk (pc' := 24) 0 dX8_drops_23 rfl rfl rfl ?_
    refine GG_iconst hk (pc' := 25) (-1) dX8_drops_24 rfl rfl ?_
    refine GG_callVi hk (st := []) (pc' := 28) mf_X8_no mv_X8_no LC8 rfl (c_X8_no _ _ _ z1.2 (-1) ) (by omega) tw_938 rfl rfl rfl (Nat.le_of_ble_eq_true rfl) dX8_drops_25 rfl (fun z3 e_z3 => ?_)
    exact GG_iret hk hq dX8_drops_28
  · refine GG_iload_n hk (pc' := 8) 2 dX8_drops_7 rfl rfl rfl ?_
    refine GG_callSi hk (st := []) (pc' := 11) mf_X8_isKey tw_951 (c_X8_isKey _ _ _ z1.2 l2 ) (by omega) tw_950 rfl rfl (Nat.le_of_ble_eq_true rfl) dX8_drops_8 rfl (fun z4 e_z4 => ?_)
    refine GG_if_eq hk 23 (pc' := 14) dX8_drops_11 rfl (by decide) (fun c5 => ?_) (fun c5 => ?_)
    · refine GG_aload_n hk (pc' := 24) 0 dX8_drops_23 rfl rfl rfl ?_
      refine GG_iconst hk (pc' := 25) (-1) dX8_drops_24 rfl rfl ?_
      refine GG_callVi hk (st := []) (pc' := 28) mf_X8_no mv_X8_no LC8 rfl (c_X8_no _ _ _ z4.2 (-1) ) (by omega) tw_938 rfl rfl rfl (Nat.le_of_ble_eq_true rfl) dX8_drops_25 rfl (fun z6 e_z6 => ?_)
      exact GG_iret hk hq dX8_drops_28
    · refine GG_aload_n hk (pc' := 15) 0 dX8_drops_14 rfl rfl rfl ?_
      refine GG_iload_n hk (pc' := 16) 1 dX8_drops_15 rfl rfl rfl ?_
      refine GG_iload_n hk (pc' := 17) 2 dX8_drops_16 rfl rfl rfl ?_
      refine GG_callVi hk (st := []) (pc' := 20) mf_X8_has mv_X8_has LC8 rfl (c_X8_has _ _ _ z4.2 l1 l2 ) (by omega) tw_968 rfl rfl rfl (Nat.le_of_ble_eq_true rfl) dX8_drops_17 rfl (fun z7 e_z7 => ?_)
      refine GG_if_ne hk 29 (pc' := 23) dX8_drops_20 rfl (by decide) (fun c8 => ?_) (fun c8 => ?_)
      · refine GG_aload_n hk (pc' := 30) 0 dX8_drops_29 rfl rfl rfl ?_
        refine GG_get hk LC8 0 (v := .ref (kh k + 164)) (pc' := 33) tw_842 rfl rfl (by decide) rfl dX8_drops_30 rfl ?_
        refine GG_iload_n hk (pc' := 34) 1 dX8_drops_33 rfl rfl rfl ?_
        refine GG_iload_n hk (pc' := 35) 2 dX8_drops_34 rfl rfl rfl ?_
        refine GG_callSi hk (st := [.ref (kh k + 164)]) (pc' := 38) mf_X8_entryAt tw_962 (c_X8_entryAt _ _ _ z7.2 l1 l2 ) (by omega) tw_961 rfl rfl (Nat.le_of_ble_eq_true rfl) dX8_drops_35 rfl (fun z9 e_z9 => ?_)
        refine GG_iconst hk (pc' := 39) 0 dX8_drops_38 rfl rfl ?_
        refine GG_iadd hk (pc' := 40) dX8_drops_39 rfl ?_
        refine GG_bipush hk (pc' := 42) (-9) dX8_drops_40 rfl rfl ?_
        refine GG_iast hk (pc' := 43) rfl rfl dX8_drops_42 rfl (fun M10 e_M10 => ?_)
        refine GG_aload_n hk (pc' := 44) 0 dX8_drops_43 rfl rfl rfl ?_
        refine GG_iload_n hk (pc' := 45) 1 dX8_drops_44 rfl rfl rfl ?_
        refine GG_callVi hk (st := []) (pc' := 48) mf_X8_entries mv_X8_entries LC8 rfl (c_X8_entries _ _ _ M10 l1 ) (by omega) tw_993 rfl rfl rfl (Nat.le_of_ble_eq_true rfl) dX8_drops_45 rfl (fun z11 e_z11 => ?_)
        refine GG_callSi hk (st := []) (pc' := 51) mf_X8_ones tw_998 (c_X8_ones _ _ _ z11.2 z11.1 ) (by omega) tw_997 rfl rfl (Nat.le_of_ble_eq_true rfl) dX8_drops_48 rfl (fun z12 e_z12 => ?_)
        exact GG_iret hk hq dX8_drops_51
      · refine GG_aload_n hk (pc' := 24) 0 dX8_drops_23 rfl rfl rfl ?_
        refine GG_iconst hk (pc' := 25) (-1) dX8_drops_24 rfl rfl ?_
        refine GG_callVi hk (st := []) (pc' := 28) mf_X8_no mv_X8_no LC8 rfl (c_X8_no _ _ _ z7.2 (-1) ) (by omega) tw_938 rfl rfl rfl (Nat.le_of_ble_eq_true rfl) dX8_drops_25 rfl (fun z13 e_z13 => ?_)
        exact GG_iret hk hq dX8_drops_28
theorem c_X8_drops (l : Launch) (C : DD) (a : Nat) (M : Mem) (l1 : Int32) (l2 : Int32)  : CI l C (a) yX8_drops cX8_drops 3 .int 4 [.ref (a + 163), .int l1, .int l2] M (f_X8_drops M l1 l2) := by
  refine CI_of RX8 (by decide +kernel) rfl (Nat.le_of_ble_eq_true rfl) (fun k q hk hq e1 e2 e3 => ?_)
  subst e1; subst e2; subst e3
  exact m_X8_drops hk hq M l1 l2 

/-! SettingsInLayersModel.letter(I)I -/
noncomputable def f_X8_letter (M : Mem) (l1 : Int32) : Option (Int32 × Mem) :=
    if 0 ≤ l1 then
      if 255 < l1 then
        Option.bind (f_X8_no M (-6)) fun z3 =>
        some (z3.1, z3.2)
      else
        if ¬ (M 163 7) = 96 then
          Option.bind (wra 96 M 169 (M 163 7) l1) fun M5 =>
          Option.bind (wrf M5 163 7 ((M5 163 7) + 1)) fun M6 =>
          some ((M6 163 7), M6)
        else
          Option.bind (f_X8_no M (-6)) fun z7 =>
          some (z7.1, z7.2)
    else
      Option.bind (f_X8_no M (-4)) fun z8 =>
      some (z8.1, z8.2)
set_option maxRecDepth 20000 in
theorem m_X8_letter {k : KT} {q : Int32 × Mem} (hk : CX k cX8_letter RX8 2 (some .int) 2) (hq : RI k q) (M : Mem) (l1 : Int32)  : GG k q (wM k M) 0 [(0, .ref (kh k + 163)), (1, .int l1)] [] (f_X8_letter M l1) := by
  unfold f_X8_letter
  refine GG_iload_n hk (pc' := 1) 1 dX8_letter_0 rfl rfl rfl ?_
  refine GG_if_ge hk 11 (pc' := 4) dX8_letter_1 rfl (by decide) (fun c1 => ?_) (fun c1 => ?_)
  · refine GG_iload_n hk (pc' := 12) 1 dX8_letter_11 rfl rfl rfl ?_
    refine GG_sipush hk (pc' := 15) 255 dX8_letter_12 rfl rfl ?_
    refine GG_icmp_gt hk 27 (pc' := 18) dX8_letter_15 rfl (by decide) (fun c2 => ?_) (fun c2 => ?_)
    · refine GG_aload_n hk (pc' := 28) 0 dX8_letter_27 rfl rfl rfl ?_
      refine GG_bipush hk (pc' := 30) (-6) dX8_letter_28 rfl rfl ?_
      refine GG_callVi hk (st := []) (pc' := 33) mf_X8_no mv_X8_no LC8 rfl (c_X8_no _ _ _ M (-6) ) (by omega) tw_938 rfl rfl rfl (Nat.le_of_ble_eq_true rfl) dX8_letter_30 rfl (fun z3 e_z3 => ?_)
      exact GG_iret hk hq dX8_letter_33
    · refine GG_aload_n hk (pc' := 19) 0 dX8_letter_18 rfl rfl rfl ?_
      refine GG_get hk LC8 7 (v := .int (M 163 7)) (pc' := 22) tw_849 rfl rfl (by decide) rfl dX8_letter_19 rfl ?_
      refine GG_bipush hk (pc' := 24) 96 dX8_letter_22 rfl rfl ?_
      refine GG_icmp_ne hk 34 (pc' := 27) dX8_letter_24 rfl (by decide) (fun c4 => ?_) (fun c4 => ?_)
      · refine GG_aload_n hk (pc' := 35) 0 dX8_letter_34 rfl rfl rfl ?_
        refine GG_get hk LC8 5 (v := .ref (kh k + 169)) (pc' := 38) tw_847 rfl rfl (by decide) rfl dX8_letter_35 rfl ?_
        refine GG_aload_n hk (pc' := 39) 0 dX8_letter_38 rfl rfl rfl ?_
        refine GG_get hk LC8 7 (v := .int (M 163 7)) (pc' := 42) tw_849 rfl rfl (by decide) rfl dX8_letter_39 rfl ?_
        refine GG_iload_n hk (pc' := 43) 1 dX8_letter_42 rfl rfl rfl ?_
        refine GG_iast hk (pc' := 44) rfl rfl dX8_letter_43 rfl (fun M5 e_M5 => ?_)
        refine GG_aload_n hk (pc' := 45) 0 dX8_letter_44 rfl rfl rfl ?_
        refine GG_dup hk (pc' := 46) dX8_letter_45 rfl rfl ?_
        refine GG_get hk LC8 7 (v := .int (M5 163 7)) (pc' := 49) tw_849 rfl rfl (by decide) rfl dX8_letter_46 rfl ?_
        refine GG_iconst hk (pc' := 50) 1 dX8_letter_49 rfl rfl ?_
        refine GG_iadd hk (pc' := 51) dX8_letter_50 rfl ?_
        refine GG_put hk LC8 7 (pc' := 54) tw_849 rfl rfl (by decide) rfl rfl (Nat.le_of_ble_eq_true rfl) (pv_8_7 _ _ _ _) dX8_letter_51 rfl (fun M6 e_M6 => ?_)
        refine GG_aload_n hk (pc' := 55) 0 dX8_letter_54 rfl rfl rfl ?_
        refine GG_get hk LC8 7 (v := .int (M6 163 7)) (pc' := 58) tw_849 rfl rfl (by decide) rfl dX8_letter_55 rfl ?_
        exact GG_iret hk hq dX8_letter_58
      · refine GG_aload_n hk (pc' := 28) 0 dX8_letter_27 rfl rfl rfl ?_
        refine GG_bipush hk (pc' := 30) (-6) dX8_letter_28 rfl rfl ?_
        refine GG_callVi hk (st := []) (pc' := 33) mf_X8_no mv_X8_no LC8 rfl (c_X8_no _ _ _ M (-6) ) (by omega) tw_938 rfl rfl rfl (Nat.le_of_ble_eq_true rfl) dX8_letter_30 rfl (fun z7 e_z7 => ?_)
        exact GG_iret hk hq dX8_letter_33
  · refine GG_aload_n hk (pc' := 5) 0 dX8_letter_4 rfl rfl rfl ?_
    refine GG_bipush hk (pc' := 7) (-4) dX8_letter_5 rfl rfl ?_
    refine GG_callVi hk (st := []) (pc' := 10) mf_X8_no mv_X8_no LC8 rfl (c_X8_no _ _ _ M (-4) ) (by omega) tw_938 rfl rfl rfl (Nat.le_of_ble_eq_true rfl) dX8_letter_7 rfl (fun z8 e_z8 => ?_)
    exact GG_iret hk hq dX8_letter_10
theorem c_X8_letter (l : Launch) (C : DD) (a : Nat) (M : Mem) (l1 : Int32)  : CI l C (a) yX8_letter cX8_letter 2 .int 2 [.ref (a + 163), .int l1] M (f_X8_letter M l1) := by
  refine CI_of RX8 (by decide +kernel) rfl (Nat.le_of_ble_eq_true rfl) (fun k q hk hq e1 e2 e3 => ?_)
  subst e1; subst e2; subst e3
  exact m_X8_letter hk hq M l1 

/-! SettingsInLayersModel.isAt(II)Z -/
noncomputable def f_X8_isAt (M : Mem) (l1 : Int32) (l2 : Int32) : Option (Int32 × Mem) :=
    if (M 163 7) ≤ (M 163 9) then
      bret 0 M
    else
      Option.bind (rd 96 (M 169) (M 163 9)) fun v2 =>
      if v2 < l1 then
        bret 0 M
      else
        Option.bind (rd 96 (M 169) (M 163 9)) fun v4 =>
        if l2 < v4 then
          bret 0 M
        else
          bret 1 M
set_option maxRecDepth 20000 in
theorem m_X8_isAt {k : KT} {q : Int32 × Mem} (hk : CX k cX8_isAt RX8 3 (some .boolean) 1) (hq : RI k q) (M : Mem) (l1 : Int32) (l2 : Int32)  : GG k q (wM k M) 0 [(0, .ref (kh k + 163)), (1, .int l1), (2, .int l2)] [] (f_X8_isAt M l1 l2) := by
  unfold f_X8_isAt
  refine GG_aload_n hk (pc' := 1) 0 dX8_isAt_0 rfl rfl rfl ?_
  refine GG_get hk LC8 9 (v := .int (M 163 9)) (pc' := 4) tw_851 rfl rfl (by decide) rfl dX8_isAt_1 rfl ?_
  refine GG_aload_n hk (pc' := 5) 0 dX8_isAt_4 rfl rfl rfl ?_
  refine GG_get hk LC8 7 (v := .int (M 163 7)) (pc' := 8) tw_849 rfl rfl (by decide) rfl dX8_isAt_5 rfl ?_
  refine GG_icmp_ge hk 41 (pc' := 11) dX8_isAt_8 rfl (by decide) (fun c1 => ?_) (fun c1 => ?_)
  · refine GG_iconst hk (pc' := 42) 0 dX8_isAt_41 rfl rfl ?_
    exact GG_zret hk hq dX8_isAt_42
  · refine GG_aload_n hk (pc' := 12) 0 dX8_isAt_11 rfl rfl rfl ?_
    refine GG_get hk LC8 5 (v := .ref (kh k + 169)) (pc' := 15) tw_847 rfl rfl (by decide) rfl dX8_isAt_12 rfl ?_
    refine GG_aload_n hk (pc' := 16) 0 dX8_isAt_15 rfl rfl rfl ?_
    refine GG_get hk LC8 9 (v := .int (M 163 9)) (pc' := 19) tw_851 rfl rfl (by decide) rfl dX8_isAt_16 rfl ?_
    refine GG_iald hk (pc' := 20) rfl rfl dX8_isAt_19 rfl (fun v2 e_v2 => ?_)
    refine GG_iload_n hk (pc' := 21) 1 dX8_isAt_20 rfl rfl rfl ?_
    refine GG_icmp_lt hk 41 (pc' := 24) dX8_isAt_21 rfl (by decide) (fun c3 => ?_) (fun c3 => ?_)
    · refine GG_iconst hk (pc' := 42) 0 dX8_isAt_41 rfl rfl ?_
      exact GG_zret hk hq dX8_isAt_42
    · refine GG_aload_n hk (pc' := 25) 0 dX8_isAt_24 rfl rfl rfl ?_
      refine GG_get hk LC8 5 (v := .ref (kh k + 169)) (pc' := 28) tw_847 rfl rfl (by decide) rfl dX8_isAt_25 rfl ?_
      refine GG_aload_n hk (pc' := 29) 0 dX8_isAt_28 rfl rfl rfl ?_
      refine GG_get hk LC8 9 (v := .int (M 163 9)) (pc' := 32) tw_851 rfl rfl (by decide) rfl dX8_isAt_29 rfl ?_
      refine GG_iald hk (pc' := 33) rfl rfl dX8_isAt_32 rfl (fun v4 e_v4 => ?_)
      refine GG_iload_n hk (pc' := 34) 2 dX8_isAt_33 rfl rfl rfl ?_
      refine GG_icmp_gt hk 41 (pc' := 37) dX8_isAt_34 rfl (by decide) (fun c5 => ?_) (fun c5 => ?_)
      · refine GG_iconst hk (pc' := 42) 0 dX8_isAt_41 rfl rfl ?_
        exact GG_zret hk hq dX8_isAt_42
      · refine GG_iconst hk (pc' := 38) 1 dX8_isAt_37 rfl rfl ?_
        refine GG_goto hk 42 dX8_isAt_38 (by decide) ?_
        exact GG_zret hk hq dX8_isAt_42
theorem c_X8_isAt (l : Launch) (C : DD) (a : Nat) (M : Mem) (l1 : Int32) (l2 : Int32)  : CI l C (a) yX8_isAt cX8_isAt 3 .boolean 1 [.ref (a + 163), .int l1, .int l2] M (f_X8_isAt M l1 l2) := by
  refine CI_of RX8 (by decide +kernel) rfl (Nat.le_of_ble_eq_true rfl) (fun k q hk hq e1 e2 e3 => ?_)
  subst e1; subst e2; subst e3
  exact m_X8_isAt hk hq M l1 l2 

/-! SettingsInLayersModel.takes(II)I -/
noncomputable def f_X8_takes_ (M : Mem) (l1 : Int32) (l2 : Int32) : Option (Int32 × Mem) :=
    if (M 163 10) = 0 then
      Option.bind (f_X8_isAt M l1 l2) fun z2 =>
      if ¬ z2.1 = 0 then
        Option.bind (wrf z2.2 163 9 ((z2.2 163 9) + 1)) fun M4 =>
        Option.bind (rd 96 (M4 169) ((M4 163 9) - 1)) fun v5 =>
        some ((v5 - l1), M4)
      else
        Option.bind (wrf z2.2 163 10 ((-1000) - (z2.2 163 9))) fun M6 =>
        some (0, M6)
    else
      some (0, M)
set_option maxRecDepth 20000 in
theorem m_X8_takes_ {k : KT} {q : Int32 × Mem} (hk : CX k cX8_takes_ RX8 3 (some .int) 2) (hq : RI k q) (M : Mem) (l1 : Int32) (l2 : Int32)  : GG k q (wM k M) 0 [(0, .ref (kh k + 163)), (1, .int l1), (2, .int l2)] [] (f_X8_takes_ M l1 l2) := by
  unfold f_X8_takes_
  refine GG_aload_n hk (pc' := 1) 0 dX8_takes__0 rfl rfl rfl ?_
  refine GG_get hk LC8 10 (v := .int (M 163 10)) (pc' := 4) tw_852 rfl rfl (by decide) rfl dX8_takes__1 rfl ?_
  refine GG_if_eq hk 9 (pc' := 7) dX8_takes__4 rfl (by decide) (fun c1 => ?_) (fun c1 => ?_)
  · refine GG_aload_n hk (pc' := 10) 0 dX8_takes__9 rfl rfl rfl ?_
    refine GG_iload_n hk (pc' := 11) 1 dX8_takes__10 rfl rfl rfl ?_
    refine GG_iload_n hk (pc' := 12) 2 dX8_takes__11 rfl rfl rfl ?_
    refine GG_callVi hk (st := []) (pc' := 15) mf_X8_isAt mv_X8_isAt LC8 rfl (c_X8_isAt _ _ _ M l1 l2 ) (by omega) tw_1020 rfl rfl rfl (Nat.le_of_ble_eq_true rfl) dX8_takes__12 rfl (fun z2 e_z2 => ?_)
    refine GG_if_ne hk 32 (pc' := 18) dX8_takes__15 rfl (by decide) (fun c3 => ?_) (fun c3 => ?_)
    · refine GG_aload_n hk (pc' := 33) 0 dX8_takes__32 rfl rfl rfl ?_
      refine GG_dup hk (pc' := 34) dX8_takes__33 rfl rfl ?_
      refine GG_get hk LC8 9 (v := .int (z2.2 163 9)) (pc' := 37) tw_851 rfl rfl (by decide) rfl dX8_takes__34 rfl ?_
      refine GG_iconst hk (pc' := 38) 1 dX8_takes__37 rfl rfl ?_
      refine GG_iadd hk (pc' := 39) dX8_takes__38 rfl ?_
      refine GG_put hk LC8 9 (pc' := 42) tw_851 rfl rfl (by decide) rfl rfl (Nat.le_of_ble_eq_true rfl) (pv_8_9 _ _ _ _) dX8_takes__39 rfl (fun M4 e_M4 => ?_)
      refine GG_aload_n hk (pc' := 43) 0 dX8_takes__42 rfl rfl rfl ?_
      refine GG_get hk LC8 5 (v := .ref (kh k + 169)) (pc' := 46) tw_847 rfl rfl (by decide) rfl dX8_takes__43 rfl ?_
      refine GG_aload_n hk (pc' := 47) 0 dX8_takes__46 rfl rfl rfl ?_
      refine GG_get hk LC8 9 (v := .int (M4 163 9)) (pc' := 50) tw_851 rfl rfl (by decide) rfl dX8_takes__47 rfl ?_
      refine GG_iconst hk (pc' := 51) 1 dX8_takes__50 rfl rfl ?_
      refine GG_isub hk (pc' := 52) dX8_takes__51 rfl ?_
      refine GG_iald hk (pc' := 53) rfl rfl dX8_takes__52 rfl (fun v5 e_v5 => ?_)
      refine GG_iload_n hk (pc' := 54) 1 dX8_takes__53 rfl rfl rfl ?_
      refine GG_isub hk (pc' := 55) dX8_takes__54 rfl ?_
      exact GG_iret hk hq dX8_takes__55
    · refine GG_aload_n hk (pc' := 19) 0 dX8_takes__18 rfl rfl rfl ?_
      refine GG_sipush hk (pc' := 22) (-1000) dX8_takes__19 rfl rfl ?_
      refine GG_aload_n hk (pc' := 23) 0 dX8_takes__22 rfl rfl rfl ?_
      refine GG_get hk LC8 9 (v := .int (z2.2 163 9)) (pc' := 26) tw_851 rfl rfl (by decide) rfl dX8_takes__23 rfl ?_
      refine GG_isub hk (pc' := 27) dX8_takes__26 rfl ?_
      refine GG_put hk LC8 10 (pc' := 30) tw_852 rfl rfl (by decide) rfl rfl (Nat.le_of_ble_eq_true rfl) (pv_8_10 _ _ _ _) dX8_takes__27 rfl (fun M6 e_M6 => ?_)
      refine GG_iconst hk (pc' := 31) 0 dX8_takes__30 rfl rfl ?_
      exact GG_iret hk hq dX8_takes__31
  · refine GG_iconst hk (pc' := 8) 0 dX8_takes__7 rfl rfl ?_
    exact GG_iret hk hq dX8_takes__8
theorem c_X8_takes_ (l : Launch) (C : DD) (a : Nat) (M : Mem) (l1 : Int32) (l2 : Int32)  : CI l C (a) yX8_takes_ cX8_takes_ 3 .int 2 [.ref (a + 163), .int l1, .int l2] M (f_X8_takes_ M l1 l2) := by
  refine CI_of RX8 (by decide +kernel) rfl (Nat.le_of_ble_eq_true rfl) (fun k q hk hq e1 e2 e3 => ?_)
  subst e1; subst e2; subst e3
  exact m_X8_takes_ hk hq M l1 l2 

/-! SettingsInLayersModel.digit()I -/
noncomputable def f_X8_digit (M : Mem)  : Option (Int32 × Mem) :=
    Option.bind (f_X8_takes_ M 48 57) fun z1 =>
    some (z1.1, z1.2)
set_option maxRecDepth 20000 in
theorem m_X8_digit {k : KT} {q : Int32 × Mem} (hk : CX k cX8_digit RX8 1 (some .int) 3) (hq : RI k q) (M : Mem)   : GG k q (wM k M) 0 [(0, .ref (kh k + 163))] [] (f_X8_digit M ) := by
  unfold f_X8_digit
  refine GG_aload_n hk (pc' := 1) 0 dX8_digit_0 rfl rfl rfl ?_
  refine GG_bipush hk (pc' := 3) 48 dX8_digit_1 rfl rfl ?_
  refine GG_bipush hk (pc' := 5) 57 dX8_digit_3 rfl rfl ?_
  refine GG_callVi hk (st := []) (pc' := 8) mf_X8_takes_ mv_X8_takes_ LC8 rfl (c_X8_takes_ _ _ _ M 48 57 ) (by omega) tw_1016 rfl rfl rfl (Nat.le_of_ble_eq_true rfl) dX8_digit_5 rfl (fun z1 e_z1 => ?_)
  exact GG_iret hk hq dX8_digit_8
theorem c_X8_digit (l : Launch) (C : DD) (a : Nat) (M : Mem)   : CI l C (a) yX8_digit cX8_digit 1 .int 3 [.ref (a + 163)] M (f_X8_digit M ) := by
  refine CI_of RX8 (by decide +kernel) rfl (Nat.le_of_ble_eq_true rfl) (fun k q hk hq e1 e2 e3 => ?_)
  subst e1; subst e2; subst e3
  exact m_X8_digit hk hq M  

/-! SettingsInLayersModel.twoDigits()I -/
noncomputable def f_X8_twoDigits (M : Mem)  : Option (Int32 × Mem) :=
    Option.bind (f_X8_digit M ) fun z1 =>
    Option.bind (f_X8_digit z1.2 ) fun z2 =>
    some (((10 * z1.1) + z2.1), z2.2)
set_option maxRecDepth 20000 in
theorem m_X8_twoDigits {k : KT} {q : Int32 × Mem} (hk : CX k cX8_twoDigits RX8 2 (some .int) 4) (hq : RI k q) (M : Mem)   : GG k q (wM k M) 0 [(0, .ref (kh k + 163))] [] (f_X8_twoDigits M ) := by
  unfold f_X8_twoDigits
  refine GG_bipush hk (pc' := 2) 10 dX8_twoDigits_0 rfl rfl ?_
  refine GG_aload_n hk (pc' := 3) 0 dX8_twoDigits_2 rfl rfl rfl ?_
  refine GG_callVi hk (st := [.int 10]) (pc' := 6) mf_X8_digit mv_X8_digit LC8 rfl (c_X8_digit _ _ _ M  ) (by omega) tw_1012 rfl rfl rfl (Nat.le_of_ble_eq_true rfl) dX8_twoDigits_3 rfl (fun z1 e_z1 => ?_)
  refine GG_imul hk (pc' := 7) dX8_twoDigits_6 rfl ?_
  refine GG_istore_n hk (pc' := 8) [(1, .int (10 * z1.1)), (0, .ref (kh k + 163))] dX8_twoDigits_7 rfl rfl (by decide) rfl ?_
  refine GG_iload_n hk (pc' := 9) 0 dX8_twoDigits_8 rfl rfl rfl ?_
  refine GG_aload_n hk (pc' := 10) 1 dX8_twoDigits_9 rfl rfl rfl ?_
  refine GG_callVi hk (st := [.int (10 * z1.1)]) (pc' := 13) mf_X8_digit mv_X8_digit LC8 rfl (c_X8_digit _ _ _ z1.2  ) (by omega) tw_1012 rfl rfl rfl (Nat.le_of_ble_eq_true rfl) dX8_twoDigits_10 rfl (fun z2 e_z2 => ?_)
  refine GG_iadd hk (pc' := 14) dX8_twoDigits_13 rfl ?_
  exact GG_iret hk hq dX8_twoDigits_14
theorem c_X8_twoDigits (l : Launch) (C : DD) (a : Nat) (M : Mem)   : CI l C (a) yX8_twoDigits cX8_twoDigits 2 .int 4 [.ref (a + 163)] M (f_X8_twoDigits M ) := by
  refine CI_of RX8 (by decide +kernel) rfl (Nat.le_of_ble_eq_true rfl) (fun k q hk hq e1 e2 e3 => ?_)
  subst e1; subst e2; subst e3
  exact m_X8_twoDigits hk hq M  

/-! SettingsInLayersModel.entry(IIZ)Z -/
noncomputable def f_X8_entry_242  (M : Mem) (l5 : Int32) (l6 : Int32) (l7 : Int32) (t0 : Int32) (t1 : Int32) (t2 : Int32) : Option (Int32 × Mem) :=
    Option.bind (f_X8_tell M t2 t1 t0 l7 l6) fun z1 =>
    bret l5 z1.2
set_option maxRecDepth 20000 in
theorem m_X8_entry_242 {k : KT} {q : Int32 × Mem} (hk : CX k cX8_entry RX8 10 (some .boolean) 5) (hq : RI k q) (M : Mem) (l5 : Int32) (l6 : Int32) (l7 : Int32) (t0 : Int32) (t1 : Int32) (t2 : Int32)  : GG k q (wM k M) 242 [(5, .int l5), (6, .int l6), (7, .int l7)] [.int t0, .int t1, .int t2, .ref (kh k + 163)] (f_X8_entry_242  M l5 l6 l7 t0 t1 t2) := by
  unfold f_X8_entry_242
  refine GG_iload hk (pc' := 244) 2 dX8_entry_242 rfl rfl ?_
  refine GG_iload hk (pc' := 246) 1 dX8_entry_244 rfl rfl ?_
  refine GG_callVi hk (st := []) (pc' := 249) mf_X8_tell mv_X8_tell LC8 rfl (c_X8_tell _ _ _ M t2 t1 t0 l7 l6 ) (by omega) tw_957 rfl rfl rfl (Nat.le_of_ble_eq_true rfl) dX8_entry_246 rfl (fun z1 e_z1 => ?_)
  refine GG_pop hk (pc' := 250) dX8_entry_249 rfl rfl ?_
  refine GG_goto hk 377 dX8_entry_250 (by decide) ?_
  refine GG_iload hk (pc' := 379) 0 dX8_entry_377 rfl rfl ?_
  exact GG_zret hk hq dX8_entry_379
noncomputable def f_X8_entry_216  (M : Mem) (l1 : Int32) (l2 : Int32) (l3 : Int32) (l4 : Int32) (l5 : Int32) (l6 : Int32) (t0 : Int32) : Option (Int32 × Mem) :=
    if l3 = 0 then
      bret l5 M
    else
      if l5 = 0 then
        bret l5 M
      else
        if ¬ l4 = 43 then
          f_X8_entry_242  M l5 l6 t0 2 l2 l1
        else
          f_X8_entry_242  M l5 l6 t0 3 l2 l1
set_option maxRecDepth 20000 in
theorem m_X8_entry_216 {k : KT} {q : Int32 × Mem} (hk : CX k cX8_entry RX8 10 (some .boolean) 5) (hq : RI k q) (M : Mem) (l1 : Int32) (l2 : Int32) (l3 : Int32) (l4 : Int32) (l5 : Int32) (l6 : Int32) (t0 : Int32)  : GG k q (wM k M) 216 [(0, .ref (kh k + 163)), (1, .int l1), (2, .int l2), (3, .int l3), (4, .int l4), (5, .int l5), (6, .int l6)] [.int t0] (f_X8_entry_216  M l1 l2 l3 l4 l5 l6 t0) := by
  unfold f_X8_entry_216
  refine GG_istore hk (pc' := 218) [(7, .int t0), (0, .ref (kh k + 163)), (1, .int l1), (2, .int l2), (3, .int l3), (4, .int l4), (5, .int l5), (6, .int l6)] dX8_entry_216 rfl (by decide) rfl ?_
  refine GG_iload_n hk (pc' := 219) 4 dX8_entry_218 rfl rfl rfl ?_
  refine GG_if_eq hk 250 (pc' := 222) dX8_entry_219 rfl (by decide) (fun c1 => ?_) (fun c1 => ?_)
  · refine GG_goto hk 377 dX8_entry_250 (by decide) ?_
    refine GG_iload hk (pc' := 379) 6 dX8_entry_377 rfl rfl ?_
    exact GG_zret hk hq dX8_entry_379
  · refine GG_iload hk (pc' := 224) 6 dX8_entry_222 rfl rfl ?_
    refine GG_if_eq hk 250 (pc' := 227) dX8_entry_224 rfl (by decide) (fun c2 => ?_) (fun c2 => ?_)
    · refine GG_goto hk 377 dX8_entry_250 (by decide) ?_
      refine GG_iload hk (pc' := 379) 6 dX8_entry_377 rfl rfl ?_
      exact GG_zret hk hq dX8_entry_379
    · refine GG_aload_n hk (pc' := 228) 1 dX8_entry_227 rfl rfl rfl ?_
      refine GG_iload_n hk (pc' := 229) 2 dX8_entry_228 rfl rfl rfl ?_
      refine GG_iload_n hk (pc' := 230) 3 dX8_entry_229 rfl rfl rfl ?_
      refine GG_iload hk (pc' := 232) 5 dX8_entry_230 rfl rfl ?_
      refine GG_bipush hk (pc' := 234) 43 dX8_entry_232 rfl rfl ?_
      refine GG_icmp_ne hk 241 (pc' := 237) dX8_entry_234 rfl (by decide) (fun c3 => ?_) (fun c3 => ?_)
      · refine GG_iconst hk (pc' := 242) 2 dX8_entry_241 rfl rfl ?_
        refine GG_sub (L' := [(5, .int l5), (6, .int l6), (7, .int t0)]) [6, 7, 0] rfl ?_
        exact m_X8_entry_242 hk hq  M l5 l6 t0 2 l2 l1 
      · refine GG_iconst hk (pc' := 238) 3 dX8_entry_237 rfl rfl ?_
        refine GG_goto hk 242 dX8_entry_238 (by decide) ?_
        refine GG_sub (L' := [(5, .int l5), (6, .int l6), (7, .int t0)]) [6, 7, 0] rfl ?_
        exact m_X8_entry_242 hk hq  M l5 l6 t0 3 l2 l1 
noncomputable def f_X8_entry_191  (M : Mem) (l1 : Int32) (l2 : Int32) (l3 : Int32) (l4 : Int32) (l5 : Int32) : Option (Int32 × Mem) :=
    Option.bind (f_X8_takes_ M 97 104) fun z1 =>
    if ¬ l4 = 43 then
      f_X8_entry_216  z1.2 l1 l2 l3 l4 l5 z1.1 0
    else
      Option.bind (f_X8_twoDigits z1.2 ) fun z3 =>
      f_X8_entry_216  z3.2 l1 l2 l3 l4 l5 z1.1 z3.1
set_option maxRecDepth 20000 in
theorem m_X8_entry_191 {k : KT} {q : Int32 × Mem} (hk : CX k cX8_entry RX8 10 (some .boolean) 5) (hq : RI k q) (M : Mem) (l1 : Int32) (l2 : Int32) (l3 : Int32) (l4 : Int32) (l5 : Int32)  : GG k q (wM k M) 191 [(0, .ref (kh k + 163)), (1, .int l1), (2, .int l2), (3, .int l3), (4, .int l4), (5, .int l5)] [] (f_X8_entry_191  M l1 l2 l3 l4 l5) := by
  unfold f_X8_entry_191
  refine GG_aload_n hk (pc' := 192) 0 dX8_entry_191 rfl rfl rfl ?_
  refine GG_bipush hk (pc' := 194) 97 dX8_entry_192 rfl rfl ?_
  refine GG_bipush hk (pc' := 196) 104 dX8_entry_194 rfl rfl ?_
  refine GG_callVi hk (st := []) (pc' := 199) mf_X8_takes_ mv_X8_takes_ LC8 rfl (c_X8_takes_ _ _ _ M 97 104 ) (by omega) tw_1016 rfl rfl rfl (Nat.le_of_ble_eq_true rfl) dX8_entry_196 rfl (fun z1 e_z1 => ?_)
  refine GG_istore hk (pc' := 201) [(6, .int z1.1), (0, .ref (kh k + 163)), (1, .int l1), (2, .int l2), (3, .int l3), (4, .int l4), (5, .int l5)] dX8_entry_199 rfl (by decide) rfl ?_
  refine GG_iload hk (pc' := 203) 5 dX8_entry_201 rfl rfl ?_
  refine GG_bipush hk (pc' := 205) 43 dX8_entry_203 rfl rfl ?_
  refine GG_icmp_ne hk 215 (pc' := 208) dX8_entry_205 rfl (by decide) (fun c2 => ?_) (fun c2 => ?_)
  · refine GG_iconst hk (pc' := 216) 0 dX8_entry_215 rfl rfl ?_
    refine GG_sub (L' := [(0, .ref (kh k + 163)), (1, .int l1), (2, .int l2), (3, .int l3), (4, .int l4), (5, .int l5), (6, .int z1.1)]) [1, 2, 3, 4, 5, 6, 0] rfl ?_
    exact m_X8_entry_216 hk hq  z1.2 l1 l2 l3 l4 l5 z1.1 0 
  · refine GG_aload_n hk (pc' := 209) 1 dX8_entry_208 rfl rfl rfl ?_
    refine GG_callVi hk (st := []) (pc' := 212) mf_X8_twoDigits mv_X8_twoDigits LC8 rfl (c_X8_twoDigits _ _ _ z1.2  ) (by omega) tw_1028 rfl rfl rfl (Nat.le_of_ble_eq_true rfl) dX8_entry_209 rfl (fun z3 e_z3 => ?_)
    refine GG_goto hk 216 dX8_entry_212 (by decide) ?_
    refine GG_sub (L' := [(0, .ref (kh k + 163)), (1, .int l1), (2, .int l2), (3, .int l3), (4, .int l4), (5, .int l5), (6, .int z1.1)]) [1, 2, 3, 4, 5, 6, 0] rfl ?_
    exact m_X8_entry_216 hk hq  z3.2 l1 l2 l3 l4 l5 z1.1 z3.1 
noncomputable def f_X8_entry_368  (M : Mem) (l5 : Int32) : Option (Int32 × Mem) :=
    Option.bind (f_X8_takes_ M 93 93) fun z1 =>
    bret l5 z1.2
set_option maxRecDepth 20000 in
theorem m_X8_entry_368 {k : KT} {q : Int32 × Mem} (hk : CX k cX8_entry RX8 10 (some .boolean) 5) (hq : RI k q) (M : Mem) (l5 : Int32)  : GG k q (wM k M) 368 [(0, .ref (kh k + 163)), (5, .int l5)] [] (f_X8_entry_368  M l5) := by
  unfold f_X8_entry_368
  refine GG_aload_n hk (pc' := 369) 0 dX8_entry_368 rfl rfl rfl ?_
  refine GG_bipush hk (pc' := 371) 93 dX8_entry_369 rfl rfl ?_
  refine GG_bipush hk (pc' := 373) 93 dX8_entry_371 rfl rfl ?_
  refine GG_callVi hk (st := []) (pc' := 376) mf_X8_takes_ mv_X8_takes_ LC8 rfl (c_X8_takes_ _ _ _ M 93 93 ) (by omega) tw_1016 rfl rfl rfl (Nat.le_of_ble_eq_true rfl) dX8_entry_373 rfl (fun z1 e_z1 => ?_)
  refine GG_pop hk (pc' := 377) dX8_entry_376 rfl rfl ?_
  refine GG_iload hk (pc' := 379) 1 dX8_entry_377 rfl rfl ?_
  exact GG_zret hk hq dX8_entry_379
noncomputable def f_X8_entry_353  (k278 : Mem → Int32 → Int32 → Int32 → Int32 → Int32 → Int32 → Option (Int32 × Mem)) (M : Mem) (l1 : Int32) (l2 : Int32) (l3 : Int32) (l5 : Int32) (l6 : Int32) (l7 : Int32) (l8 : Int32) : Option (Int32 × Mem) :=
    Option.bind (some (l7 ||| (1 <<< (l8 &&& 31)))) fun v1 =>
    k278 M l1 l2 l3 l5 (l6 + 1) v1
set_option maxRecDepth 20000 in
theorem m_X8_entry_353 {k : KT} {q : Int32 × Mem} (hk : CX k cX8_entry RX8 10 (some .boolean) 5) (hq : RI k q) (k278 : Mem → Int32 → Int32 → Int32 → Int32 → Int32 → Int32 → Option (Int32 × Mem)) (hk278 : ∀ (M : Mem) (l1 : Int32) (l2 : Int32) (l3 : Int32) (l5 : Int32) (l6 : Int32) (l7 : Int32) , GG k q (wM k M) 278 [(0, .ref (kh k + 163)), (1, .int l1), (2, .int l2), (3, .int l3), (5, .int l5), (6, .int l6), (7, .int l7)] [] (k278 M l1 l2 l3 l5 l6 l7)) (M : Mem) (l1 : Int32) (l2 : Int32) (l3 : Int32) (l5 : Int32) (l6 : Int32) (l7 : Int32) (l8 : Int32)  : GG k q (wM k M) 353 [(0, .ref (kh k + 163)), (1, .int l1), (2, .int l2), (3, .int l3), (5, .int l5), (6, .int l6), (7, .int l7), (8, .int l8)] [] (f_X8_entry_353 k278 M l1 l2 l3 l5 l6 l7 l8) := by
  unfold f_X8_entry_353
  refine GG_iload hk (pc' := 355) 6 dX8_entry_353 rfl rfl ?_
  refine GG_iconst hk (pc' := 356) 1 dX8_entry_355 rfl rfl ?_
  refine GG_iload hk (pc' := 358) 7 dX8_entry_356 rfl rfl ?_
  refine GG_ishl hk (pc' := 359) dX8_entry_358 rfl ?_
  refine GG_ior hk (pc' := 360) dX8_entry_359 rfl ?_
  refine GG_nm (fun v1 e_v1 => ?_)
  refine GG_istore hk (pc' := 362) [(7, .int v1), (0, .ref (kh k + 163)), (1, .int l1), (2, .int l2), (3, .int l3), (5, .int l5), (6, .int l6), (8, .int l8)] dX8_entry_360 rfl (by decide) rfl ?_
  refine GG_iinc hk (pc' := 365) 6 (l6 + 1) [(6, .int (l6 + 1)), (7, .int v1), (0, .ref (kh k + 163)), (1, .int l1), (2, .int l2), (3, .int l3), (5, .int l5), (8, .int l8)] dX8_entry_362 rfl rfl rfl (by decide) rfl ?_
  refine GG_goto hk 278 dX8_entry_365 (by decide) ?_
  refine GG_sub (L' := [(0, .ref (kh k + 163)), (1, .int l1), (2, .int l2), (3, .int l3), (5, .int l5), (6, .int (l6 + 1)), (7, .int v1)]) [2, 3, 4, 5, 6, 0, 1] rfl ?_
  exact hk278 M l1 l2 l3 l5 (l6 + 1) v1 
noncomputable def f_X8_entry_331  (k278 : Mem → Int32 → Int32 → Int32 → Int32 → Int32 → Int32 → Option (Int32 × Mem)) (M : Mem) (l1 : Int32) (l2 : Int32) (l3 : Int32) (l6 : Int32) (l7 : Int32) (l8 : Int32) (l9 : Int32) (t0 : Int32) (t1 : Int32) : Option (Int32 × Mem) :=
    if l3 = 0 then
      f_X8_entry_353 k278 M l1 l2 l3 (t1 &&& t0) l6 l7 l8
    else
      if (t1 &&& t0) = 0 then
        f_X8_entry_353 k278 M l1 l2 l3 (t1 &&& t0) l6 l7 l8
      else
        Option.bind (f_X8_puts M l1 l2 l8 l9) fun z3 =>
        f_X8_entry_353 k278 z3 l1 l2 l3 (t1 &&& t0) l6 l7 l8
set_option maxRecDepth 20000 in
theorem m_X8_entry_331 {k : KT} {q : Int32 × Mem} (hk : CX k cX8_entry RX8 10 (some .boolean) 5) (hq : RI k q) (k278 : Mem → Int32 → Int32 → Int32 → Int32 → Int32 → Int32 → Option (Int32 × Mem)) (hk278 : ∀ (M : Mem) (l1 : Int32) (l2 : Int32) (l3 : Int32) (l5 : Int32) (l6 : Int32) (l7 : Int32) , GG k q (wM k M) 278 [(0, .ref (kh k + 163)), (1, .int l1), (2, .int l2), (3, .int l3), (5, .int l5), (6, .int l6), (7, .int l7)] [] (k278 M l1 l2 l3 l5 l6 l7)) (M : Mem) (l1 : Int32) (l2 : Int32) (l3 : Int32) (l6 : Int32) (l7 : Int32) (l8 : Int32) (l9 : Int32) (t0 : Int32) (t1 : Int32)  : GG k q (wM k M) 331 [(0, .ref (kh k + 163)), (1, .int l1), (2, .int l2), (3, .int l3), (6, .int l6), (7, .int l7), (8, .int l8), (9, .int l9)] [.int t0, .int t1] (f_X8_entry_331 k278 M l1 l2 l3 l6 l7 l8 l9 t0 t1) := by
  unfold f_X8_entry_331
  refine GG_iand hk (pc' := 332) dX8_entry_331 rfl ?_
  refine GG_istore hk (pc' := 334) [(5, .int (t1 &&& t0)), (0, .ref (kh k + 163)), (1, .int l1), (2, .int l2), (3, .int l3), (6, .int l6), (7, .int l7), (8, .int l8), (9, .int l9)] dX8_entry_332 rfl (by decide) rfl ?_
  refine GG_iload_n hk (pc' := 335) 4 dX8_entry_334 rfl rfl rfl ?_
  refine GG_if_eq hk 353 (pc' := 338) dX8_entry_335 rfl (by decide) (fun c1 => ?_) (fun c1 => ?_)
  · refine GG_sub (L' := [(0, .ref (kh k + 163)), (1, .int l1), (2, .int l2), (3, .int l3), (5, .int (t1 &&& t0)), (6, .int l6), (7, .int l7), (8, .int l8)]) [1, 2, 3, 4, 0, 5, 6, 7] rfl ?_
    exact m_X8_entry_353 hk hq k278 hk278 M l1 l2 l3 (t1 &&& t0) l6 l7 l8 
  · refine GG_iload hk (pc' := 340) 0 dX8_entry_338 rfl rfl ?_
    refine GG_if_eq hk 353 (pc' := 343) dX8_entry_340 rfl (by decide) (fun c2 => ?_) (fun c2 => ?_)
    · refine GG_sub (L' := [(0, .ref (kh k + 163)), (1, .int l1), (2, .int l2), (3, .int l3), (5, .int (t1 &&& t0)), (6, .int l6), (7, .int l7), (8, .int l8)]) [1, 2, 3, 4, 0, 5, 6, 7] rfl ?_
      exact m_X8_entry_353 hk hq k278 hk278 M l1 l2 l3 (t1 &&& t0) l6 l7 l8 
    · refine GG_aload_n hk (pc' := 344) 1 dX8_entry_343 rfl rfl rfl ?_
      refine GG_iload_n hk (pc' := 345) 2 dX8_entry_344 rfl rfl rfl ?_
      refine GG_iload_n hk (pc' := 346) 3 dX8_entry_345 rfl rfl rfl ?_
      refine GG_iload hk (pc' := 348) 7 dX8_entry_346 rfl rfl ?_
      refine GG_iload hk (pc' := 350) 8 dX8_entry_348 rfl rfl ?_
      refine GG_callVv hk (st := []) (pc' := 353) mf_X8_puts mv_X8_puts LC8 rfl (c_X8_puts _ _ _ M l1 l2 l8 l9 ) (by omega) tw_976 rfl rfl rfl (Nat.le_of_ble_eq_true rfl) dX8_entry_350 rfl (fun z3 e_z3 => ?_)
      refine GG_sub (L' := [(0, .ref (kh k + 163)), (1, .int l1), (2, .int l2), (3, .int l3), (5, .int (t1 &&& t0)), (6, .int l6), (7, .int l7), (8, .int l8)]) [1, 2, 3, 4, 0, 5, 6, 7] rfl ?_
      exact m_X8_entry_353 hk hq k278 hk278 z3 l1 l2 l3 (t1 &&& t0) l6 l7 l8 
noncomputable def f_X8_entry_330  (k278 : Mem → Int32 → Int32 → Int32 → Int32 → Int32 → Int32 → Option (Int32 × Mem)) (M : Mem) (l1 : Int32) (l2 : Int32) (l3 : Int32) (l6 : Int32) (l7 : Int32) (l8 : Int32) (l9 : Int32) (t0 : Int32) : Option (Int32 × Mem) :=
    f_X8_entry_331 k278 M l1 l2 l3 l6 l7 l8 l9 0 t0
set_option maxRecDepth 20000 in
theorem m_X8_entry_330 {k : KT} {q : Int32 × Mem} (hk : CX k cX8_entry RX8 10 (some .boolean) 5) (hq : RI k q) (k278 : Mem → Int32 → Int32 → Int32 → Int32 → Int32 → Int32 → Option (Int32 × Mem)) (hk278 : ∀ (M : Mem) (l1 : Int32) (l2 : Int32) (l3 : Int32) (l5 : Int32) (l6 : Int32) (l7 : Int32) , GG k q (wM k M) 278 [(0, .ref (kh k + 163)), (1, .int l1), (2, .int l2), (3, .int l3), (5, .int l5), (6, .int l6), (7, .int l7)] [] (k278 M l1 l2 l3 l5 l6 l7)) (M : Mem) (l1 : Int32) (l2 : Int32) (l3 : Int32) (l6 : Int32) (l7 : Int32) (l8 : Int32) (l9 : Int32) (t0 : Int32)  : GG k q (wM k M) 330 [(0, .ref (kh k + 163)), (1, .int l1), (2, .int l2), (3, .int l3), (6, .int l6), (7, .int l7), (8, .int l8), (9, .int l9)] [.int t0] (f_X8_entry_330 k278 M l1 l2 l3 l6 l7 l8 l9 t0) := by
  unfold f_X8_entry_330
  refine GG_iconst hk (pc' := 331) 0 dX8_entry_330 rfl rfl ?_
  exact m_X8_entry_331 hk hq k278 hk278 M l1 l2 l3 l6 l7 l8 l9 0 t0 
noncomputable def f_X8_entry_278  : Nat → Mem → Int32 → Int32 → Int32 → Int32 → Int32 → Int32 → Option (Int32 × Mem)
  | 0, _, _, _, _, _, _, _ => none
  | n + 1, M, l1, l2, l3, l5, l6, l7 =>
    if ¬ (M 163 10) = 0 then
      f_X8_entry_368  M l5
    else
      Option.bind (f_X8_isAt M 48 57) fun z2 =>
      if z2.1 = 0 then
        f_X8_entry_368  z2.2 l5
      else
        Option.bind (f_X8_digit z2.2 ) fun z4 =>
        Option.bind (f_X8_twoDigits z4.2 ) fun z5 =>
        if 4 ≤ l6 then
          f_X8_entry_330 (f_X8_entry_278  n) z5.2 l1 l2 l3 l6 l7 z4.1 z5.1 l5
        else
          if ¬ ((l7 >>> (z4.1 &&& 31)) &&& 1) = 0 then
            f_X8_entry_330 (f_X8_entry_278  n) z5.2 l1 l2 l3 l6 l7 z4.1 z5.1 l5
          else
            f_X8_entry_331 (f_X8_entry_278  n) z5.2 l1 l2 l3 l6 l7 z4.1 z5.1 1 l5
set_option maxRecDepth 20000 in
theorem m_X8_entry_278 {k : KT} {q : Int32 × Mem} (hk : CX k cX8_entry RX8 10 (some .boolean) 5) (hq : RI k q) : ∀ (n : Nat) (M : Mem) (l1 : Int32) (l2 : Int32) (l3 : Int32) (l5 : Int32) (l6 : Int32) (l7 : Int32) , GG k q (wM k M) 278 [(0, .ref (kh k + 163)), (1, .int l1), (2, .int l2), (3, .int l3), (5, .int l5), (6, .int l6), (7, .int l7)] [] (f_X8_entry_278  n M l1 l2 l3 l5 l6 l7) := by
  intro n
  induction n with
  | zero => intros; exact GG_none
  | succ n ih =>
    intro M l1 l2 l3 l5 l6 l7 
    rw [f_X8_entry_278]
    refine GG_aload_n hk (pc' := 279) 0 dX8_entry_278 rfl rfl rfl ?_
    refine GG_get hk LC8 10 (v := .int (M 163 10)) (pc' := 282) tw_852 rfl rfl (by decide) rfl dX8_entry_279 rfl ?_
    refine GG_if_ne hk 368 (pc' := 285) dX8_entry_282 rfl (by decide) (fun c1 => ?_) (fun c1 => ?_)
    · refine GG_sub (L' := [(0, .ref (kh k + 163)), (5, .int l5)]) [0, 4] rfl ?_
      exact m_X8_entry_368 hk hq  M l5 
    · refine GG_aload_n hk (pc' := 286) 0 dX8_entry_285 rfl rfl rfl ?_
      refine GG_bipush hk (pc' := 288) 48 dX8_entry_286 rfl rfl ?_
      refine GG_bipush hk (pc' := 290) 57 dX8_entry_288 rfl rfl ?_
      refine GG_callVi hk (st := []) (pc' := 293) mf_X8_isAt mv_X8_isAt LC8 rfl (c_X8_isAt _ _ _ M 48 57 ) (by omega) tw_1020 rfl rfl rfl (Nat.le_of_ble_eq_true rfl) dX8_entry_290 rfl (fun z2 e_z2 => ?_)
      refine GG_if_eq hk 368 (pc' := 296) dX8_entry_293 rfl (by decide) (fun c3 => ?_) (fun c3 => ?_)
      · refine GG_sub (L' := [(0, .ref (kh k + 163)), (5, .int l5)]) [0, 4] rfl ?_
        exact m_X8_entry_368 hk hq  z2.2 l5 
      · refine GG_aload_n hk (pc' := 297) 0 dX8_entry_296 rfl rfl rfl ?_
        refine GG_callVi hk (st := []) (pc' := 300) mf_X8_digit mv_X8_digit LC8 rfl (c_X8_digit _ _ _ z2.2  ) (by omega) tw_1012 rfl rfl rfl (Nat.le_of_ble_eq_true rfl) dX8_entry_297 rfl (fun z4 e_z4 => ?_)
        refine GG_istore hk (pc' := 302) [(8, .int z4.1), (0, .ref (kh k + 163)), (1, .int l1), (2, .int l2), (3, .int l3), (5, .int l5), (6, .int l6), (7, .int l7)] dX8_entry_300 rfl (by decide) rfl ?_
        refine GG_aload_n hk (pc' := 303) 1 dX8_entry_302 rfl rfl rfl ?_
        refine GG_callVi hk (st := []) (pc' := 306) mf_X8_twoDigits mv_X8_twoDigits LC8 rfl (c_X8_twoDigits _ _ _ z4.2  ) (by omega) tw_1028 rfl rfl rfl (Nat.le_of_ble_eq_true rfl) dX8_entry_303 rfl (fun z5 e_z5 => ?_)
        refine GG_istore hk (pc' := 308) [(9, .int z5.1), (8, .int z4.1), (0, .ref (kh k + 163)), (1, .int l1), (2, .int l2), (3, .int l3), (5, .int l5), (6, .int l6), (7, .int l7)] dX8_entry_306 rfl (by decide) rfl ?_
        refine GG_iload hk (pc' := 310) 6 dX8_entry_308 rfl rfl ?_
        refine GG_iload hk (pc' := 312) 7 dX8_entry_310 rfl rfl ?_
        refine GG_iconst hk (pc' := 313) 4 dX8_entry_312 rfl rfl ?_
        refine GG_icmp_ge hk 330 (pc' := 316) dX8_entry_313 rfl (by decide) (fun c6 => ?_) (fun c6 => ?_)
        · refine GG_sub (L' := [(0, .ref (kh k + 163)), (1, .int l1), (2, .int l2), (3, .int l3), (6, .int l6), (7, .int l7), (8, .int z4.1), (9, .int z5.1)]) [2, 3, 4, 5, 7, 8, 1, 0] rfl ?_
          exact m_X8_entry_330 hk hq (f_X8_entry_278  n) ih z5.2 l1 l2 l3 l6 l7 z4.1 z5.1 l5 
        · refine GG_iload hk (pc' := 318) 8 dX8_entry_316 rfl rfl ?_
          refine GG_iload hk (pc' := 320) 1 dX8_entry_318 rfl rfl ?_
          refine GG_ishr hk (pc' := 321) dX8_entry_320 rfl ?_
          refine GG_iconst hk (pc' := 322) 1 dX8_entry_321 rfl rfl ?_
          refine GG_iand hk (pc' := 323) dX8_entry_322 rfl ?_
          refine GG_if_ne hk 330 (pc' := 326) dX8_entry_323 rfl (by decide) (fun c7 => ?_) (fun c7 => ?_)
          · refine GG_sub (L' := [(0, .ref (kh k + 163)), (1, .int l1), (2, .int l2), (3, .int l3), (6, .int l6), (7, .int l7), (8, .int z4.1), (9, .int z5.1)]) [2, 3, 4, 5, 7, 8, 1, 0] rfl ?_
            exact m_X8_entry_330 hk hq (f_X8_entry_278  n) ih z5.2 l1 l2 l3 l6 l7 z4.1 z5.1 l5 
          · refine GG_iconst hk (pc' := 327) 1 dX8_entry_326 rfl rfl ?_
            refine GG_goto hk 331 dX8_entry_327 (by decide) ?_
            refine GG_sub (L' := [(0, .ref (kh k + 163)), (1, .int l1), (2, .int l2), (3, .int l3), (6, .int l6), (7, .int l7), (8, .int z4.1), (9, .int z5.1)]) [2, 3, 4, 5, 7, 8, 1, 0] rfl ?_
            exact m_X8_entry_331 hk hq (f_X8_entry_278  n) ih z5.2 l1 l2 l3 l6 l7 z4.1 z5.1 1 l5 
noncomputable def f_X8_entry_110  (M : Mem) (l1 : Int32) (l2 : Int32) (l3 : Int32) (l4 : Int32) (t0 : Int32) : Option (Int32 × Mem) :=
    if ¬ l4 = 61 then
      if ¬ l4 = 33 then
        if l4 = 64 then
          f_X8_entry_191  M l1 l2 l3 l4 t0
        else
          if ¬ l4 = 43 then
            if l3 = 0 then
              f_X8_entry_278  1000 M l1 l2 l3 t0 0 0
            else
              if t0 = 0 then
                f_X8_entry_278  1000 M l1 l2 l3 t0 0 0
              else
                Option.bind (f_X8_tell M l1 l2 1 0 0) fun z7 =>
                f_X8_entry_278  1000 z7.2 l1 l2 l3 t0 0 0
          else
            f_X8_entry_191  M l1 l2 l3 l4 t0
      else
        if l3 = 0 then
          bret t0 M
        else
          if t0 = 0 then
            bret t0 M
          else
            Option.bind (f_X8_tell M l1 l2 4 0 0) fun z10 =>
            bret t0 z10.2
    else
      Option.bind (f_X8_twoDigits M ) fun z11 =>
      if l3 = 0 then
        bret t0 z11.2
      else
        if t0 = 0 then
          bret t0 z11.2
        else
          Option.bind (f_X8_tell z11.2 l1 l2 0 z11.1 0) fun z14 =>
          bret t0 z14.2
set_option maxRecDepth 20000 in
theorem m_X8_entry_110 {k : KT} {q : Int32 × Mem} (hk : CX k cX8_entry RX8 10 (some .boolean) 5) (hq : RI k q) (M : Mem) (l1 : Int32) (l2 : Int32) (l3 : Int32) (l4 : Int32) (t0 : Int32)  : GG k q (wM k M) 110 [(0, .ref (kh k + 163)), (1, .int l1), (2, .int l2), (3, .int l3), (4, .int l4)] [.int t0] (f_X8_entry_110  M l1 l2 l3 l4 t0) := by
  unfold f_X8_entry_110
  refine GG_istore hk (pc' := 112) [(5, .int t0), (0, .ref (kh k + 163)), (1, .int l1), (2, .int l2), (3, .int l3), (4, .int l4)] dX8_entry_110 rfl (by decide) rfl ?_
  refine GG_iload hk (pc' := 114) 5 dX8_entry_112 rfl rfl ?_
  refine GG_bipush hk (pc' := 116) 61 dX8_entry_114 rfl rfl ?_
  refine GG_icmp_ne hk 148 (pc' := 119) dX8_entry_116 rfl (by decide) (fun c1 => ?_) (fun c1 => ?_)
  · refine GG_iload hk (pc' := 150) 5 dX8_entry_148 rfl rfl ?_
    refine GG_bipush hk (pc' := 152) 33 dX8_entry_150 rfl rfl ?_
    refine GG_icmp_ne hk 177 (pc' := 155) dX8_entry_152 rfl (by decide) (fun c2 => ?_) (fun c2 => ?_)
    · refine GG_iload hk (pc' := 179) 5 dX8_entry_177 rfl rfl ?_
      refine GG_bipush hk (pc' := 181) 64 dX8_entry_179 rfl rfl ?_
      refine GG_icmp_eq hk 191 (pc' := 184) dX8_entry_181 rfl (by decide) (fun c3 => ?_) (fun c3 => ?_)
      · refine GG_sub (L' := [(0, .ref (kh k + 163)), (1, .int l1), (2, .int l2), (3, .int l3), (4, .int l4), (5, .int t0)]) [1, 2, 3, 4, 5, 0] rfl ?_
        exact m_X8_entry_191 hk hq  M l1 l2 l3 l4 t0 
      · refine GG_iload hk (pc' := 186) 5 dX8_entry_184 rfl rfl ?_
        refine GG_bipush hk (pc' := 188) 43 dX8_entry_186 rfl rfl ?_
        refine GG_icmp_ne hk 253 (pc' := 191) dX8_entry_188 rfl (by decide) (fun c4 => ?_) (fun c4 => ?_)
        · refine GG_iconst hk (pc' := 254) 0 dX8_entry_253 rfl rfl ?_
          refine GG_istore hk (pc' := 256) [(6, .int 0), (5, .int t0), (0, .ref (kh k + 163)), (1, .int l1), (2, .int l2), (3, .int l3), (4, .int l4)] dX8_entry_254 rfl (by decide) rfl ?_
          refine GG_iconst hk (pc' := 257) 0 dX8_entry_256 rfl rfl ?_
          refine GG_istore hk (pc' := 259) [(7, .int 0), (6, .int 0), (5, .int t0), (0, .ref (kh k + 163)), (1, .int l1), (2, .int l2), (3, .int l3), (4, .int l4)] dX8_entry_257 rfl (by decide) rfl ?_
          refine GG_iload_n hk (pc' := 260) 6 dX8_entry_259 rfl rfl rfl ?_
          refine GG_if_eq hk 278 (pc' := 263) dX8_entry_260 rfl (by decide) (fun c5 => ?_) (fun c5 => ?_)
          · refine GG_sub (L' := [(0, .ref (kh k + 163)), (1, .int l1), (2, .int l2), (3, .int l3), (5, .int t0), (6, .int 0), (7, .int 0)]) [3, 4, 5, 6, 2, 1, 0] rfl ?_
            exact m_X8_entry_278 hk hq  1000 M l1 l2 l3 t0 0 0 
          · refine GG_iload hk (pc' := 265) 2 dX8_entry_263 rfl rfl ?_
            refine GG_if_eq hk 278 (pc' := 268) dX8_entry_265 rfl (by decide) (fun c6 => ?_) (fun c6 => ?_)
            · refine GG_sub (L' := [(0, .ref (kh k + 163)), (1, .int l1), (2, .int l2), (3, .int l3), (5, .int t0), (6, .int 0), (7, .int 0)]) [3, 4, 5, 6, 2, 1, 0] rfl ?_
              exact m_X8_entry_278 hk hq  1000 M l1 l2 l3 t0 0 0 
            · refine GG_aload_n hk (pc' := 269) 3 dX8_entry_268 rfl rfl rfl ?_
              refine GG_iload_n hk (pc' := 270) 4 dX8_entry_269 rfl rfl rfl ?_
              refine GG_iload_n hk (pc' := 271) 5 dX8_entry_270 rfl rfl rfl ?_
              refine GG_iconst hk (pc' := 272) 1 dX8_entry_271 rfl rfl ?_
              refine GG_iconst hk (pc' := 273) 0 dX8_entry_272 rfl rfl ?_
              refine GG_iconst hk (pc' := 274) 0 dX8_entry_273 rfl rfl ?_
              refine GG_callVi hk (st := []) (pc' := 277) mf_X8_tell mv_X8_tell LC8 rfl (c_X8_tell _ _ _ M l1 l2 1 0 0 ) (by omega) tw_957 rfl rfl rfl (Nat.le_of_ble_eq_true rfl) dX8_entry_274 rfl (fun z7 e_z7 => ?_)
              refine GG_pop hk (pc' := 278) dX8_entry_277 rfl rfl ?_
              refine GG_sub (L' := [(0, .ref (kh k + 163)), (1, .int l1), (2, .int l2), (3, .int l3), (5, .int t0), (6, .int 0), (7, .int 0)]) [3, 4, 5, 6, 2, 1, 0] rfl ?_
              exact m_X8_entry_278 hk hq  1000 z7.2 l1 l2 l3 t0 0 0 
        · refine GG_sub (L' := [(0, .ref (kh k + 163)), (1, .int l1), (2, .int l2), (3, .int l3), (4, .int l4), (5, .int t0)]) [1, 2, 3, 4, 5, 0] rfl ?_
          exact m_X8_entry_191 hk hq  M l1 l2 l3 l4 t0 
    · refine GG_iload_n hk (pc' := 156) 4 dX8_entry_155 rfl rfl rfl ?_
      refine GG_if_eq hk 377 (pc' := 159) dX8_entry_156 rfl (by decide) (fun c8 => ?_) (fun c8 => ?_)
      · refine GG_iload hk (pc' := 379) 0 dX8_entry_377 rfl rfl ?_
        exact GG_zret hk hq dX8_entry_379
      · refine GG_iload hk (pc' := 161) 0 dX8_entry_159 rfl rfl ?_
        refine GG_if_eq hk 377 (pc' := 164) dX8_entry_161 rfl (by decide) (fun c9 => ?_) (fun c9 => ?_)
        · refine GG_iload hk (pc' := 379) 0 dX8_entry_377 rfl rfl ?_
          exact GG_zret hk hq dX8_entry_379
        · refine GG_aload_n hk (pc' := 165) 1 dX8_entry_164 rfl rfl rfl ?_
          refine GG_iload_n hk (pc' := 166) 2 dX8_entry_165 rfl rfl rfl ?_
          refine GG_iload_n hk (pc' := 167) 3 dX8_entry_166 rfl rfl rfl ?_
          refine GG_iconst hk (pc' := 168) 4 dX8_entry_167 rfl rfl ?_
          refine GG_iconst hk (pc' := 169) 0 dX8_entry_168 rfl rfl ?_
          refine GG_iconst hk (pc' := 170) 0 dX8_entry_169 rfl rfl ?_
          refine GG_callVi hk (st := []) (pc' := 173) mf_X8_tell mv_X8_tell LC8 rfl (c_X8_tell _ _ _ M l1 l2 4 0 0 ) (by omega) tw_957 rfl rfl rfl (Nat.le_of_ble_eq_true rfl) dX8_entry_170 rfl (fun z10 e_z10 => ?_)
          refine GG_pop hk (pc' := 174) dX8_entry_173 rfl rfl ?_
          refine GG_goto hk 377 dX8_entry_174 (by decide) ?_
          refine GG_iload hk (pc' := 379) 0 dX8_entry_377 rfl rfl ?_
          exact GG_zret hk hq dX8_entry_379
  · refine GG_aload_n hk (pc' := 120) 1 dX8_entry_119 rfl rfl rfl ?_
    refine GG_callVi hk (st := []) (pc' := 123) mf_X8_twoDigits mv_X8_twoDigits LC8 rfl (c_X8_twoDigits _ _ _ M  ) (by omega) tw_1028 rfl rfl rfl (Nat.le_of_ble_eq_true rfl) dX8_entry_120 rfl (fun z11 e_z11 => ?_)
    refine GG_istore hk (pc' := 125) [(6, .int z11.1), (5, .int t0), (0, .ref (kh k + 163)), (1, .int l1), (2, .int l2), (3, .int l3), (4, .int l4)] dX8_entry_123 rfl (by decide) rfl ?_
    refine GG_iload_n hk (pc' := 126) 5 dX8_entry_125 rfl rfl rfl ?_
    refine GG_if_eq hk 145 (pc' := 129) dX8_entry_126 rfl (by decide) (fun c12 => ?_) (fun c12 => ?_)
    · refine GG_goto hk 377 dX8_entry_145 (by decide) ?_
      refine GG_iload hk (pc' := 379) 1 dX8_entry_377 rfl rfl ?_
      exact GG_zret hk hq dX8_entry_379
    · refine GG_iload hk (pc' := 131) 1 dX8_entry_129 rfl rfl ?_
      refine GG_if_eq hk 145 (pc' := 134) dX8_entry_131 rfl (by decide) (fun c13 => ?_) (fun c13 => ?_)
      · refine GG_goto hk 377 dX8_entry_145 (by decide) ?_
        refine GG_iload hk (pc' := 379) 1 dX8_entry_377 rfl rfl ?_
        exact GG_zret hk hq dX8_entry_379
      · refine GG_aload_n hk (pc' := 135) 2 dX8_entry_134 rfl rfl rfl ?_
        refine GG_iload_n hk (pc' := 136) 3 dX8_entry_135 rfl rfl rfl ?_
        refine GG_iload_n hk (pc' := 137) 4 dX8_entry_136 rfl rfl rfl ?_
        refine GG_iconst hk (pc' := 138) 0 dX8_entry_137 rfl rfl ?_
        refine GG_iload hk (pc' := 140) 0 dX8_entry_138 rfl rfl ?_
        refine GG_iconst hk (pc' := 141) 0 dX8_entry_140 rfl rfl ?_
        refine GG_callVi hk (st := []) (pc' := 144) mf_X8_tell mv_X8_tell LC8 rfl (c_X8_tell _ _ _ z11.2 l1 l2 0 z11.1 0 ) (by omega) tw_957 rfl rfl rfl (Nat.le_of_ble_eq_true rfl) dX8_entry_141 rfl (fun z14 e_z14 => ?_)
        refine GG_pop hk (pc' := 145) dX8_entry_144 rfl rfl ?_
        refine GG_goto hk 377 dX8_entry_145 (by decide) ?_
        refine GG_iload hk (pc' := 379) 1 dX8_entry_377 rfl rfl ?_
        exact GG_zret hk hq dX8_entry_379
noncomputable def f_X8_entry_80  (M : Mem) (l1 : Int32) (l2 : Int32) (l3 : Int32) (l4 : Int32) : Option (Int32 × Mem) :=
    if (M 163 10) = 0 then
      Option.bind (wrf M 163 9 ((M 163 9) + 1)) fun M2 =>
      if 6 ≤ l1 then
        f_X8_entry_110  M2 l1 l2 l3 l4 0
      else
        f_X8_entry_110  M2 l1 l2 l3 l4 1
    else
      bret 0 M
set_option maxRecDepth 20000 in
theorem m_X8_entry_80 {k : KT} {q : Int32 × Mem} (hk : CX k cX8_entry RX8 10 (some .boolean) 5) (hq : RI k q) (M : Mem) (l1 : Int32) (l2 : Int32) (l3 : Int32) (l4 : Int32)  : GG k q (wM k M) 80 [(0, .ref (kh k + 163)), (1, .int l1), (2, .int l2), (3, .int l3), (4, .int l4)] [] (f_X8_entry_80  M l1 l2 l3 l4) := by
  unfold f_X8_entry_80
  refine GG_aload_n hk (pc' := 81) 0 dX8_entry_80 rfl rfl rfl ?_
  refine GG_get hk LC8 10 (v := .int (M 163 10)) (pc' := 84) tw_852 rfl rfl (by decide) rfl dX8_entry_81 rfl ?_
  refine GG_if_eq hk 89 (pc' := 87) dX8_entry_84 rfl (by decide) (fun c1 => ?_) (fun c1 => ?_)
  · refine GG_aload_n hk (pc' := 90) 0 dX8_entry_89 rfl rfl rfl ?_
    refine GG_dup hk (pc' := 91) dX8_entry_90 rfl rfl ?_
    refine GG_get hk LC8 9 (v := .int (M 163 9)) (pc' := 94) tw_851 rfl rfl (by decide) rfl dX8_entry_91 rfl ?_
    refine GG_iconst hk (pc' := 95) 1 dX8_entry_94 rfl rfl ?_
    refine GG_iadd hk (pc' := 96) dX8_entry_95 rfl ?_
    refine GG_put hk LC8 9 (pc' := 99) tw_851 rfl rfl (by decide) rfl rfl (Nat.le_of_ble_eq_true rfl) (pv_8_9 _ _ _ _) dX8_entry_96 rfl (fun M2 e_M2 => ?_)
    refine GG_iload_n hk (pc' := 100) 1 dX8_entry_99 rfl rfl rfl ?_
    refine GG_bipush hk (pc' := 102) 6 dX8_entry_100 rfl rfl ?_
    refine GG_icmp_ge hk 109 (pc' := 105) dX8_entry_102 rfl (by decide) (fun c3 => ?_) (fun c3 => ?_)
    · refine GG_iconst hk (pc' := 110) 0 dX8_entry_109 rfl rfl ?_
      exact m_X8_entry_110 hk hq  M2 l1 l2 l3 l4 0 
    · refine GG_iconst hk (pc' := 106) 1 dX8_entry_105 rfl rfl ?_
      refine GG_goto hk 110 dX8_entry_106 (by decide) ?_
      exact m_X8_entry_110 hk hq  M2 l1 l2 l3 l4 1 
  · refine GG_iconst hk (pc' := 88) 0 dX8_entry_87 rfl rfl ?_
    exact GG_zret hk hq dX8_entry_88
noncomputable def f_X8_entry_24  (M : Mem) (l1 : Int32) (l2 : Int32) (l3 : Int32) (t0 : Int32) : Option (Int32 × Mem) :=
    if ¬ (M 163 10) = 0 then
      f_X8_entry_80  M l1 l2 l3 t0
    else
      if t0 = 61 then
        f_X8_entry_80  M l1 l2 l3 t0
      else
        if t0 = 91 then
          f_X8_entry_80  M l1 l2 l3 t0
        else
          if t0 = 64 then
            f_X8_entry_80  M l1 l2 l3 t0
          else
            if t0 = 43 then
              f_X8_entry_80  M l1 l2 l3 t0
            else
              if t0 = 33 then
                f_X8_entry_80  M l1 l2 l3 t0
              else
                Option.bind (wrf M 163 10 ((-1000) - (M 163 9))) fun M7 =>
                f_X8_entry_80  M7 l1 l2 l3 t0
set_option maxRecDepth 20000 in
theorem m_X8_entry_24 {k : KT} {q : Int32 × Mem} (hk : CX k cX8_entry RX8 10 (some .boolean) 5) (hq : RI k q) (M : Mem) (l1 : Int32) (l2 : Int32) (l3 : Int32) (t0 : Int32)  : GG k q (wM k M) 24 [(0, .ref (kh k + 163)), (1, .int l1), (2, .int l2), (3, .int l3)] [.int t0] (f_X8_entry_24  M l1 l2 l3 t0) := by
  unfold f_X8_entry_24
  refine GG_istore hk (pc' := 26) [(4, .int t0), (0, .ref (kh k + 163)), (1, .int l1), (2, .int l2), (3, .int l3)] dX8_entry_24 rfl (by decide) rfl ?_
  refine GG_aload_n hk (pc' := 27) 1 dX8_entry_26 rfl rfl rfl ?_
  refine GG_get hk LC8 10 (v := .int (M 163 10)) (pc' := 30) tw_852 rfl rfl (by decide) rfl dX8_entry_27 rfl ?_
  refine GG_if_ne hk 80 (pc' := 33) dX8_entry_30 rfl (by decide) (fun c1 => ?_) (fun c1 => ?_)
  · refine GG_sub (L' := [(0, .ref (kh k + 163)), (1, .int l1), (2, .int l2), (3, .int l3), (4, .int t0)]) [1, 2, 3, 4, 0] rfl ?_
    exact m_X8_entry_80 hk hq  M l1 l2 l3 t0 
  · refine GG_iload hk (pc' := 35) 0 dX8_entry_33 rfl rfl ?_
    refine GG_bipush hk (pc' := 37) 61 dX8_entry_35 rfl rfl ?_
    refine GG_icmp_eq hk 80 (pc' := 40) dX8_entry_37 rfl (by decide) (fun c2 => ?_) (fun c2 => ?_)
    · refine GG_sub (L' := [(0, .ref (kh k + 163)), (1, .int l1), (2, .int l2), (3, .int l3), (4, .int t0)]) [1, 2, 3, 4, 0] rfl ?_
      exact m_X8_entry_80 hk hq  M l1 l2 l3 t0 
    · refine GG_iload hk (pc' := 42) 0 dX8_entry_40 rfl rfl ?_
      refine GG_bipush hk (pc' := 44) 91 dX8_entry_42 rfl rfl ?_
      refine GG_icmp_eq hk 80 (pc' := 47) dX8_entry_44 rfl (by decide) (fun c3 => ?_) (fun c3 => ?_)
      · refine GG_sub (L' := [(0, .ref (kh k + 163)), (1, .int l1), (2, .int l2), (3, .int l3), (4, .int t0)]) [1, 2, 3, 4, 0] rfl ?_
        exact m_X8_entry_80 hk hq  M l1 l2 l3 t0 
      · refine GG_iload hk (pc' := 49) 0 dX8_entry_47 rfl rfl ?_
        refine GG_bipush hk (pc' := 51) 64 dX8_entry_49 rfl rfl ?_
        refine GG_icmp_eq hk 80 (pc' := 54) dX8_entry_51 rfl (by decide) (fun c4 => ?_) (fun c4 => ?_)
        · refine GG_sub (L' := [(0, .ref (kh k + 163)), (1, .int l1), (2, .int l2), (3, .int l3), (4, .int t0)]) [1, 2, 3, 4, 0] rfl ?_
          exact m_X8_entry_80 hk hq  M l1 l2 l3 t0 
        · refine GG_iload hk (pc' := 56) 0 dX8_entry_54 rfl rfl ?_
          refine GG_bipush hk (pc' := 58) 43 dX8_entry_56 rfl rfl ?_
          refine GG_icmp_eq hk 80 (pc' := 61) dX8_entry_58 rfl (by decide) (fun c5 => ?_) (fun c5 => ?_)
          · refine GG_sub (L' := [(0, .ref (kh k + 163)), (1, .int l1), (2, .int l2), (3, .int l3), (4, .int t0)]) [1, 2, 3, 4, 0] rfl ?_
            exact m_X8_entry_80 hk hq  M l1 l2 l3 t0 
          · refine GG_iload hk (pc' := 63) 0 dX8_entry_61 rfl rfl ?_
            refine GG_bipush hk (pc' := 65) 33 dX8_entry_63 rfl rfl ?_
            refine GG_icmp_eq hk 80 (pc' := 68) dX8_entry_65 rfl (by decide) (fun c6 => ?_) (fun c6 => ?_)
            · refine GG_sub (L' := [(0, .ref (kh k + 163)), (1, .int l1), (2, .int l2), (3, .int l3), (4, .int t0)]) [1, 2, 3, 4, 0] rfl ?_
              exact m_X8_entry_80 hk hq  M l1 l2 l3 t0 
            · refine GG_aload_n hk (pc' := 69) 1 dX8_entry_68 rfl rfl rfl ?_
              refine GG_sipush hk (pc' := 72) (-1000) dX8_entry_69 rfl rfl ?_
              refine GG_aload_n hk (pc' := 73) 1 dX8_entry_72 rfl rfl rfl ?_
              refine GG_get hk LC8 9 (v := .int (M 163 9)) (pc' := 76) tw_851 rfl rfl (by decide) rfl dX8_entry_73 rfl ?_
              refine GG_isub hk (pc' := 77) dX8_entry_76 rfl ?_
              refine GG_put hk LC8 10 (pc' := 80) tw_852 rfl rfl (by decide) rfl rfl (Nat.le_of_ble_eq_true rfl) (pv_8_10 _ _ _ _) dX8_entry_77 rfl (fun M7 e_M7 => ?_)
              refine GG_sub (L' := [(0, .ref (kh k + 163)), (1, .int l1), (2, .int l2), (3, .int l3), (4, .int t0)]) [1, 2, 3, 4, 0] rfl ?_
              exact m_X8_entry_80 hk hq  M7 l1 l2 l3 t0 
noncomputable def f_X8_entry (M : Mem) (l1 : Int32) (l2 : Int32) (l3 : Int32) : Option (Int32 × Mem) :=
    if (M 163 7) ≤ (M 163 9) then
      f_X8_entry_24  M l1 l2 l3 0
    else
      Option.bind (rd 96 (M 169) (M 163 9)) fun v2 =>
      f_X8_entry_24  M l1 l2 l3 v2
set_option maxRecDepth 20000 in
theorem m_X8_entry {k : KT} {q : Int32 × Mem} (hk : CX k cX8_entry RX8 10 (some .boolean) 5) (hq : RI k q) (M : Mem) (l1 : Int32) (l2 : Int32) (l3 : Int32)  : GG k q (wM k M) 0 [(0, .ref (kh k + 163)), (1, .int l1), (2, .int l2), (3, .int l3)] [] (f_X8_entry M l1 l2 l3) := by
  unfold f_X8_entry
  refine GG_aload_n hk (pc' := 1) 0 dX8_entry_0 rfl rfl rfl ?_
  refine GG_get hk LC8 9 (v := .int (M 163 9)) (pc' := 4) tw_851 rfl rfl (by decide) rfl dX8_entry_1 rfl ?_
  refine GG_aload_n hk (pc' := 5) 0 dX8_entry_4 rfl rfl rfl ?_
  refine GG_get hk LC8 7 (v := .int (M 163 7)) (pc' := 8) tw_849 rfl rfl (by decide) rfl dX8_entry_5 rfl ?_
  refine GG_icmp_ge hk 23 (pc' := 11) dX8_entry_8 rfl (by decide) (fun c1 => ?_) (fun c1 => ?_)
  · refine GG_iconst hk (pc' := 24) 0 dX8_entry_23 rfl rfl ?_
    exact m_X8_entry_24 hk hq  M l1 l2 l3 0 
  · refine GG_aload_n hk (pc' := 12) 0 dX8_entry_11 rfl rfl rfl ?_
    refine GG_get hk LC8 5 (v := .ref (kh k + 169)) (pc' := 15) tw_847 rfl rfl (by decide) rfl dX8_entry_12 rfl ?_
    refine GG_aload_n hk (pc' := 16) 0 dX8_entry_15 rfl rfl rfl ?_
    refine GG_get hk LC8 9 (v := .int (M 163 9)) (pc' := 19) tw_851 rfl rfl (by decide) rfl dX8_entry_16 rfl ?_
    refine GG_iald hk (pc' := 20) rfl rfl dX8_entry_19 rfl (fun v2 e_v2 => ?_)
    refine GG_goto hk 24 dX8_entry_20 (by decide) ?_
    exact m_X8_entry_24 hk hq  M l1 l2 l3 v2 
theorem c_X8_entry (l : Launch) (C : DD) (a : Nat) (M : Mem) (l1 : Int32) (l2 : Int32) (l3 : Int32)  : CI l C (a) yX8_entry cX8_entry 10 .boolean 5 [.ref (a + 163), .int l1, .int l2, .int l3] M (f_X8_entry M l1 l2 l3) := by
  refine CI_of RX8 (by decide +kernel) rfl (Nat.le_of_ble_eq_true rfl) (fun k q hk hq e1 e2 e3 => ?_)
  subst e1; subst e2; subst e3
  exact m_X8_entry hk hq M l1 l2 l3 

/-! SettingsInLayersModel.statement(Z)Z -/
noncomputable def f_X8_statement_359  (M : Mem) (l3 : Int32) : Option (Int32 × Mem) :=
    Option.bind (f_X8_takes_ M 59 59) fun z1 =>
    bret l3 z1.2
set_option maxRecDepth 20000 in
theorem m_X8_statement_359 {k : KT} {q : Int32 × Mem} (hk : CX k cX8_statement RX8 7 (some .boolean) 6) (hq : RI k q) (M : Mem) (l3 : Int32)  : GG k q (wM k M) 359 [(0, .ref (kh k + 163)), (3, .int l3)] [] (f_X8_statement_359  M l3) := by
  unfold f_X8_statement_359
  refine GG_aload_n hk (pc' := 360) 0 dX8_statement_359 rfl rfl rfl ?_
  refine GG_bipush hk (pc' := 362) 59 dX8_statement_360 rfl rfl ?_
  refine GG_bipush hk (pc' := 364) 59 dX8_statement_362 rfl rfl ?_
  refine GG_callVi hk (st := []) (pc' := 367) mf_X8_takes_ mv_X8_takes_ LC8 rfl (c_X8_takes_ _ _ _ M 59 59 ) (by omega) tw_1016 rfl rfl rfl (Nat.le_of_ble_eq_true rfl) dX8_statement_364 rfl (fun z1 e_z1 => ?_)
  refine GG_pop hk (pc' := 368) dX8_statement_367 rfl rfl ?_
  refine GG_iload_n hk (pc' := 369) 1 dX8_statement_368 rfl rfl rfl ?_
  exact GG_zret hk hq dX8_statement_369
noncomputable def f_X8_statement_334  (M : Mem) (l1 : Int32) (l4 : Int32) (l5 : Int32) (t0 : Int32) : Option (Int32 × Mem) :=
    if l1 = 0 then
      f_X8_statement_359  M t0
    else
      if t0 = 0 then
        f_X8_statement_359  M t0
      else
        Option.bind (f_X8_entryAt M l4 l5) fun z3 =>
        Option.bind (wra 640 z3.2 164 (z3.1 + 0) (-9)) fun M4 =>
        f_X8_statement_359  M4 t0
set_option maxRecDepth 20000 in
theorem m_X8_statement_334 {k : KT} {q : Int32 × Mem} (hk : CX k cX8_statement RX8 7 (some .boolean) 6) (hq : RI k q) (M : Mem) (l1 : Int32) (l4 : Int32) (l5 : Int32) (t0 : Int32)  : GG k q (wM k M) 334 [(0, .ref (kh k + 163)), (1, .int l1), (4, .int l4), (5, .int l5)] [.int t0] (f_X8_statement_334  M l1 l4 l5 t0) := by
  unfold f_X8_statement_334
  refine GG_istore_n hk (pc' := 335) [(3, .int t0), (0, .ref (kh k + 163)), (1, .int l1), (4, .int l4), (5, .int l5)] dX8_statement_334 rfl rfl (by decide) rfl ?_
  refine GG_iload_n hk (pc' := 336) 2 dX8_statement_335 rfl rfl rfl ?_
  refine GG_if_eq hk 359 (pc' := 339) dX8_statement_336 rfl (by decide) (fun c1 => ?_) (fun c1 => ?_)
  · refine GG_sub (L' := [(0, .ref (kh k + 163)), (3, .int t0)]) [1, 0] rfl ?_
    exact m_X8_statement_359 hk hq  M t0 
  · refine GG_iload_n hk (pc' := 340) 0 dX8_statement_339 rfl rfl rfl ?_
    refine GG_if_eq hk 359 (pc' := 343) dX8_statement_340 rfl (by decide) (fun c2 => ?_) (fun c2 => ?_)
    · refine GG_sub (L' := [(0, .ref (kh k + 163)), (3, .int t0)]) [1, 0] rfl ?_
      exact m_X8_statement_359 hk hq  M t0 
    · refine GG_aload_n hk (pc' := 344) 1 dX8_statement_343 rfl rfl rfl ?_
      refine GG_get hk LC8 0 (v := .ref (kh k + 164)) (pc' := 347) tw_842 rfl rfl (by decide) rfl dX8_statement_344 rfl ?_
      refine GG_iload hk (pc' := 349) 3 dX8_statement_347 rfl rfl ?_
      refine GG_iload hk (pc' := 351) 4 dX8_statement_349 rfl rfl ?_
      refine GG_callSi hk (st := [.ref (kh k + 164)]) (pc' := 354) mf_X8_entryAt tw_962 (c_X8_entryAt _ _ _ M l4 l5 ) (by omega) tw_961 rfl rfl (Nat.le_of_ble_eq_true rfl) dX8_statement_351 rfl (fun z3 e_z3 => ?_)
      refine GG_iconst hk (pc' := 355) 0 dX8_statement_354 rfl rfl ?_
      refine GG_iadd hk (pc' := 356) dX8_statement_355 rfl ?_
      refine GG_bipush hk (pc' := 358) (-9) dX8_statement_356 rfl rfl ?_
      refine GG_iast hk (pc' := 359) rfl rfl dX8_statement_358 rfl (fun M4 e_M4 => ?_)
      refine GG_sub (L' := [(0, .ref (kh k + 163)), (3, .int t0)]) [1, 0] rfl ?_
      exact m_X8_statement_359 hk hq  M4 t0 
noncomputable def f_X8_statement_333  (M : Mem) (l1 : Int32) (l4 : Int32) (l5 : Int32) : Option (Int32 × Mem) :=
    f_X8_statement_334  M l1 l4 l5 0
set_option maxRecDepth 20000 in
theorem m_X8_statement_333 {k : KT} {q : Int32 × Mem} (hk : CX k cX8_statement RX8 7 (some .boolean) 6) (hq : RI k q) (M : Mem) (l1 : Int32) (l4 : Int32) (l5 : Int32)  : GG k q (wM k M) 333 [(0, .ref (kh k + 163)), (1, .int l1), (4, .int l4), (5, .int l5)] [] (f_X8_statement_333  M l1 l4 l5) := by
  unfold f_X8_statement_333
  refine GG_iconst hk (pc' := 334) 0 dX8_statement_333 rfl rfl ?_
  exact m_X8_statement_334 hk hq  M l1 l4 l5 0 
noncomputable def f_X8_statement_273  (M : Mem) (l3 : Int32) : Option (Int32 × Mem) :=
    f_X8_statement_359  M l3
set_option maxRecDepth 20000 in
theorem m_X8_statement_273 {k : KT} {q : Int32 × Mem} (hk : CX k cX8_statement RX8 7 (some .boolean) 6) (hq : RI k q) (M : Mem) (l3 : Int32)  : GG k q (wM k M) 273 [(0, .ref (kh k + 163)), (3, .int l3)] [] (f_X8_statement_273  M l3) := by
  unfold f_X8_statement_273
  refine GG_goto hk 359 dX8_statement_273 (by decide) ?_
  exact m_X8_statement_359 hk hq  M l3 
noncomputable def f_X8_statement_252  (M : Mem) (l1 : Int32) (l4 : Int32) (l5 : Int32) (t0 : Int32) : Option (Int32 × Mem) :=
    if l1 = 0 then
      f_X8_statement_273  M t0
    else
      if t0 = 0 then
        f_X8_statement_273  M t0
      else
        Option.bind (wra 640 M 164 (20 + l4) l5) fun M3 =>
        f_X8_statement_273  M3 t0
set_option maxRecDepth 20000 in
theorem m_X8_statement_252 {k : KT} {q : Int32 × Mem} (hk : CX k cX8_statement RX8 7 (some .boolean) 6) (hq : RI k q) (M : Mem) (l1 : Int32) (l4 : Int32) (l5 : Int32) (t0 : Int32)  : GG k q (wM k M) 252 [(0, .ref (kh k + 163)), (1, .int l1), (4, .int l4), (5, .int l5)] [.int t0] (f_X8_statement_252  M l1 l4 l5 t0) := by
  unfold f_X8_statement_252
  refine GG_istore_n hk (pc' := 253) [(3, .int t0), (0, .ref (kh k + 163)), (1, .int l1), (4, .int l4), (5, .int l5)] dX8_statement_252 rfl rfl (by decide) rfl ?_
  refine GG_iload_n hk (pc' := 254) 2 dX8_statement_253 rfl rfl rfl ?_
  refine GG_if_eq hk 273 (pc' := 257) dX8_statement_254 rfl (by decide) (fun c1 => ?_) (fun c1 => ?_)
  · refine GG_sub (L' := [(0, .ref (kh k + 163)), (3, .int t0)]) [1, 0] rfl ?_
    exact m_X8_statement_273 hk hq  M t0 
  · refine GG_iload_n hk (pc' := 258) 0 dX8_statement_257 rfl rfl rfl ?_
    refine GG_if_eq hk 273 (pc' := 261) dX8_statement_258 rfl (by decide) (fun c2 => ?_) (fun c2 => ?_)
    · refine GG_sub (L' := [(0, .ref (kh k + 163)), (3, .int t0)]) [1, 0] rfl ?_
      exact m_X8_statement_273 hk hq  M t0 
    · refine GG_aload_n hk (pc' := 262) 1 dX8_statement_261 rfl rfl rfl ?_
      refine GG_get hk LC8 0 (v := .ref (kh k + 164)) (pc' := 265) tw_842 rfl rfl (by decide) rfl dX8_statement_262 rfl ?_
      refine GG_bipush hk (pc' := 267) 20 dX8_statement_265 rfl rfl ?_
      refine GG_iload hk (pc' := 269) 3 dX8_statement_267 rfl rfl ?_
      refine GG_iadd hk (pc' := 270) dX8_statement_269 rfl ?_
      refine GG_iload hk (pc' := 272) 4 dX8_statement_270 rfl rfl ?_
      refine GG_iast hk (pc' := 273) rfl rfl dX8_statement_272 rfl (fun M3 e_M3 => ?_)
      refine GG_sub (L' := [(0, .ref (kh k + 163)), (3, .int t0)]) [1, 0] rfl ?_
      exact m_X8_statement_273 hk hq  M3 t0 
noncomputable def f_X8_statement_216  (M : Mem) (l3 : Int32) : Option (Int32 × Mem) :=
    f_X8_statement_359  M l3
set_option maxRecDepth 20000 in
theorem m_X8_statement_216 {k : KT} {q : Int32 × Mem} (hk : CX k cX8_statement RX8 7 (some .boolean) 6) (hq : RI k q) (M : Mem) (l3 : Int32)  : GG k q (wM k M) 216 [(0, .ref (kh k + 163)), (3, .int l3)] [] (f_X8_statement_216  M l3) := by
  unfold f_X8_statement_216
  refine GG_goto hk 359 dX8_statement_216 (by decide) ?_
  exact m_X8_statement_359 hk hq  M l3 
noncomputable def f_X8_statement_183  (M : Mem) (l1 : Int32) (l4 : Int32) (t0 : Int32) : Option (Int32 × Mem) :=
    if l1 = 0 then
      f_X8_statement_216  M t0
    else
      if t0 = 0 then
        f_X8_statement_216  M t0
      else
        Option.bind (rd 640 (M 164) ((3 * l4) + 0)) fun v3 =>
        Option.bind (wra 640 M 164 ((3 * l4) + 0) (1 - v3)) fun M4 =>
        f_X8_statement_216  M4 t0
set_option maxRecDepth 20000 in
theorem m_X8_statement_183 {k : KT} {q : Int32 × Mem} (hk : CX k cX8_statement RX8 7 (some .boolean) 6) (hq : RI k q) (M : Mem) (l1 : Int32) (l4 : Int32) (t0 : Int32)  : GG k q (wM k M) 183 [(0, .ref (kh k + 163)), (1, .int l1), (4, .int l4)] [.int t0] (f_X8_statement_183  M l1 l4 t0) := by
  unfold f_X8_statement_183
  refine GG_istore_n hk (pc' := 184) [(3, .int t0), (0, .ref (kh k + 163)), (1, .int l1), (4, .int l4)] dX8_statement_183 rfl rfl (by decide) rfl ?_
  refine GG_iload_n hk (pc' := 185) 2 dX8_statement_184 rfl rfl rfl ?_
  refine GG_if_eq hk 216 (pc' := 188) dX8_statement_185 rfl (by decide) (fun c1 => ?_) (fun c1 => ?_)
  · refine GG_sub (L' := [(0, .ref (kh k + 163)), (3, .int t0)]) [1, 0] rfl ?_
    exact m_X8_statement_216 hk hq  M t0 
  · refine GG_iload_n hk (pc' := 189) 0 dX8_statement_188 rfl rfl rfl ?_
    refine GG_if_eq hk 216 (pc' := 192) dX8_statement_189 rfl (by decide) (fun c2 => ?_) (fun c2 => ?_)
    · refine GG_sub (L' := [(0, .ref (kh k + 163)), (3, .int t0)]) [1, 0] rfl ?_
      exact m_X8_statement_216 hk hq  M t0 
    · refine GG_aload_n hk (pc' := 193) 1 dX8_statement_192 rfl rfl rfl ?_
      refine GG_get hk LC8 0 (v := .ref (kh k + 164)) (pc' := 196) tw_842 rfl rfl (by decide) rfl dX8_statement_193 rfl ?_
      refine GG_iconst hk (pc' := 197) 3 dX8_statement_196 rfl rfl ?_
      refine GG_iload hk (pc' := 199) 3 dX8_statement_197 rfl rfl ?_
      refine GG_imul hk (pc' := 200) dX8_statement_199 rfl ?_
      refine GG_iconst hk (pc' := 201) 0 dX8_statement_200 rfl rfl ?_
      refine GG_iadd hk (pc' := 202) dX8_statement_201 rfl ?_
      refine GG_iconst hk (pc' := 203) 1 dX8_statement_202 rfl rfl ?_
      refine GG_aload_n hk (pc' := 204) 1 dX8_statement_203 rfl rfl rfl ?_
      refine GG_get hk LC8 0 (v := .ref (kh k + 164)) (pc' := 207) tw_842 rfl rfl (by decide) rfl dX8_statement_204 rfl ?_
      refine GG_iconst hk (pc' := 208) 3 dX8_statement_207 rfl rfl ?_
      refine GG_iload hk (pc' := 210) 3 dX8_statement_208 rfl rfl ?_
      refine GG_imul hk (pc' := 211) dX8_statement_210 rfl ?_
      refine GG_iconst hk (pc' := 212) 0 dX8_statement_211 rfl rfl ?_
      refine GG_iadd hk (pc' := 213) dX8_statement_212 rfl ?_
      refine GG_iald hk (pc' := 214) rfl rfl dX8_statement_213 rfl (fun v3 e_v3 => ?_)
      refine GG_isub hk (pc' := 215) dX8_statement_214 rfl ?_
      refine GG_iast hk (pc' := 216) rfl rfl dX8_statement_215 rfl (fun M4 e_M4 => ?_)
      refine GG_sub (L' := [(0, .ref (kh k + 163)), (3, .int t0)]) [1, 0] rfl ?_
      exact m_X8_statement_216 hk hq  M4 t0 
noncomputable def f_X8_statement_156  (M : Mem) (l3 : Int32) : Option (Int32 × Mem) :=
    f_X8_statement_359  M l3
set_option maxRecDepth 20000 in
theorem m_X8_statement_156 {k : KT} {q : Int32 × Mem} (hk : CX k cX8_statement RX8 7 (some .boolean) 6) (hq : RI k q) (M : Mem) (l3 : Int32)  : GG k q (wM k M) 156 [(0, .ref (kh k + 163)), (3, .int l3)] [] (f_X8_statement_156  M l3) := by
  unfold f_X8_statement_156
  refine GG_goto hk 359 dX8_statement_156 (by decide) ?_
  exact m_X8_statement_359 hk hq  M l3 
noncomputable def f_X8_statement_121  (M : Mem) (l1 : Int32) (l4 : Int32) (l5 : Int32) (l6 : Int32) (t0 : Int32) : Option (Int32 × Mem) :=
    if l1 = 0 then
      f_X8_statement_156  M t0
    else
      if t0 = 0 then
        f_X8_statement_156  M t0
      else
        Option.bind (wra 640 M 164 ((3 * l4) + 1) l5) fun M3 =>
        Option.bind (wra 640 M3 164 ((3 * l4) + 2) l6) fun M4 =>
        f_X8_statement_156  M4 t0
set_option maxRecDepth 20000 in
theorem m_X8_statement_121 {k : KT} {q : Int32 × Mem} (hk : CX k cX8_statement RX8 7 (some .boolean) 6) (hq : RI k q) (M : Mem) (l1 : Int32) (l4 : Int32) (l5 : Int32) (l6 : Int32) (t0 : Int32)  : GG k q (wM k M) 121 [(0, .ref (kh k + 163)), (1, .int l1), (4, .int l4), (5, .int l5), (6, .int l6)] [.int t0] (f_X8_statement_121  M l1 l4 l5 l6 t0) := by
  unfold f_X8_statement_121
  refine GG_istore_n hk (pc' := 122) [(3, .int t0), (0, .ref (kh k + 163)), (1, .int l1), (4, .int l4), (5, .int l5), (6, .int l6)] dX8_statement_121 rfl rfl (by decide) rfl ?_
  refine GG_iload_n hk (pc' := 123) 2 dX8_statement_122 rfl rfl rfl ?_
  refine GG_if_eq hk 156 (pc' := 126) dX8_statement_123 rfl (by decide) (fun c1 => ?_) (fun c1 => ?_)
  · refine GG_sub (L' := [(0, .ref (kh k + 163)), (3, .int t0)]) [1, 0] rfl ?_
    exact m_X8_statement_156 hk hq  M t0 
  · refine GG_iload_n hk (pc' := 127) 0 dX8_statement_126 rfl rfl rfl ?_
    refine GG_if_eq hk 156 (pc' := 130) dX8_statement_127 rfl (by decide) (fun c2 => ?_) (fun c2 => ?_)
    · refine GG_sub (L' := [(0, .ref (kh k + 163)), (3, .int t0)]) [1, 0] rfl ?_
      exact m_X8_statement_156 hk hq  M t0 
    · refine GG_aload_n hk (pc' := 131) 1 dX8_statement_130 rfl rfl rfl ?_
      refine GG_get hk LC8 0 (v := .ref (kh k + 164)) (pc' := 134) tw_842 rfl rfl (by decide) rfl dX8_statement_131 rfl ?_
      refine GG_iconst hk (pc' := 135) 3 dX8_statement_134 rfl rfl ?_
      refine GG_iload hk (pc' := 137) 3 dX8_statement_135 rfl rfl ?_
      refine GG_imul hk (pc' := 138) dX8_statement_137 rfl ?_
      refine GG_iconst hk (pc' := 139) 1 dX8_statement_138 rfl rfl ?_
      refine GG_iadd hk (pc' := 140) dX8_statement_139 rfl ?_
      refine GG_iload hk (pc' := 142) 4 dX8_statement_140 rfl rfl ?_
      refine GG_iast hk (pc' := 143) rfl rfl dX8_statement_142 rfl (fun M3 e_M3 => ?_)
      refine GG_aload_n hk (pc' := 144) 1 dX8_statement_143 rfl rfl rfl ?_
      refine GG_get hk LC8 0 (v := .ref (kh k + 164)) (pc' := 147) tw_842 rfl rfl (by decide) rfl dX8_statement_144 rfl ?_
      refine GG_iconst hk (pc' := 148) 3 dX8_statement_147 rfl rfl ?_
      refine GG_iload hk (pc' := 150) 3 dX8_statement_148 rfl rfl ?_
      refine GG_imul hk (pc' := 151) dX8_statement_150 rfl ?_
      refine GG_iconst hk (pc' := 152) 2 dX8_statement_151 rfl rfl ?_
      refine GG_iadd hk (pc' := 153) dX8_statement_152 rfl ?_
      refine GG_iload hk (pc' := 155) 5 dX8_statement_153 rfl rfl ?_
      refine GG_iast hk (pc' := 156) rfl rfl dX8_statement_155 rfl (fun M4 e_M4 => ?_)
      refine GG_sub (L' := [(0, .ref (kh k + 163)), (3, .int t0)]) [1, 0] rfl ?_
      exact m_X8_statement_156 hk hq  M4 t0 
noncomputable def f_X8_statement_120  (M : Mem) (l1 : Int32) (l4 : Int32) (l5 : Int32) (l6 : Int32) : Option (Int32 × Mem) :=
    f_X8_statement_121  M l1 l4 l5 l6 0
set_option maxRecDepth 20000 in
theorem m_X8_statement_120 {k : KT} {q : Int32 × Mem} (hk : CX k cX8_statement RX8 7 (some .boolean) 6) (hq : RI k q) (M : Mem) (l1 : Int32) (l4 : Int32) (l5 : Int32) (l6 : Int32)  : GG k q (wM k M) 120 [(0, .ref (kh k + 163)), (1, .int l1), (4, .int l4), (5, .int l5), (6, .int l6)] [] (f_X8_statement_120  M l1 l4 l5 l6) := by
  unfold f_X8_statement_120
  refine GG_iconst hk (pc' := 121) 0 dX8_statement_120 rfl rfl ?_
  exact m_X8_statement_121 hk hq  M l1 l4 l5 l6 0 
noncomputable def f_X8_statement_69  (M : Mem) (l1 : Int32) (l2 : Int32) : Option (Int32 × Mem) :=
    Option.bind (wrf M 163 9 ((M 163 9) + 1)) fun M1 =>
    if ¬ l2 = 108 then
      if ¬ l2 = 111 then
        if ¬ l2 = 109 then
          Option.bind (f_X8_digit M1 ) fun z5 =>
          Option.bind (f_X8_takes_ z5.2 97 104) fun z6 =>
          if ¬ l2 = 101 then
            if 6 ≤ z5.1 then
              f_X8_statement_333  z6.2 l1 z5.1 z6.1
            else
              Option.bind (f_X8_has z6.2 z5.1 z6.1) fun z9 =>
              if z9.1 = 0 then
                f_X8_statement_333  z9.2 l1 z5.1 z6.1
              else
                f_X8_statement_334  z9.2 l1 z5.1 z6.1 1
          else
            Option.bind (f_X8_entry z6.2 z5.1 z6.1 l1) fun z11 =>
            f_X8_statement_359  z11.2 z11.1
        else
          Option.bind (f_X8_takes_ M1 97 104) fun z12 =>
          Option.bind (f_X8_digit z12.2 ) fun z13 =>
          if 4 < z13.1 then
            f_X8_statement_252  z13.2 l1 z12.1 z13.1 0
          else
            f_X8_statement_252  z13.2 l1 z12.1 z13.1 1
      else
        Option.bind (f_X8_digit M1 ) fun z15 =>
        if 6 ≤ z15.1 then
          f_X8_statement_183  z15.2 l1 z15.1 0
        else
          f_X8_statement_183  z15.2 l1 z15.1 1
    else
      Option.bind (f_X8_digit M1 ) fun z17 =>
      Option.bind (f_X8_digit z17.2 ) fun z18 =>
      Option.bind (f_X8_digit z18.2 ) fun z19 =>
      if 6 ≤ z17.1 then
        f_X8_statement_120  z19.2 l1 z17.1 z18.1 z19.1
      else
        if 5 < z18.1 then
          f_X8_statement_120  z19.2 l1 z17.1 z18.1 z19.1
        else
          f_X8_statement_121  z19.2 l1 z17.1 z18.1 z19.1 1
set_option maxRecDepth 20000 in
theorem m_X8_statement_69 {k : KT} {q : Int32 × Mem} (hk : CX k cX8_statement RX8 7 (some .boolean) 6) (hq : RI k q) (M : Mem) (l1 : Int32) (l2 : Int32)  : GG k q (wM k M) 69 [(0, .ref (kh k + 163)), (1, .int l1), (2, .int l2)] [] (f_X8_statement_69  M l1 l2) := by
  unfold f_X8_statement_69
  refine GG_aload_n hk (pc' := 70) 0 dX8_statement_69 rfl rfl rfl ?_
  refine GG_dup hk (pc' := 71) dX8_statement_70 rfl rfl ?_
  refine GG_get hk LC8 9 (v := .int (M 163 9)) (pc' := 74) tw_851 rfl rfl (by decide) rfl dX8_statement_71 rfl ?_
  refine GG_iconst hk (pc' := 75) 1 dX8_statement_74 rfl rfl ?_
  refine GG_iadd hk (pc' := 76) dX8_statement_75 rfl ?_
  refine GG_put hk LC8 9 (pc' := 79) tw_851 rfl rfl (by decide) rfl rfl (Nat.le_of_ble_eq_true rfl) (pv_8_9 _ _ _ _) dX8_statement_76 rfl (fun M1 e_M1 => ?_)
  refine GG_iload_n hk (pc' := 80) 2 dX8_statement_79 rfl rfl rfl ?_
  refine GG_bipush hk (pc' := 82) 108 dX8_statement_80 rfl rfl ?_
  refine GG_icmp_ne hk 159 (pc' := 85) dX8_statement_82 rfl (by decide) (fun c2 => ?_) (fun c2 => ?_)
  · refine GG_iload_n hk (pc' := 160) 2 dX8_statement_159 rfl rfl rfl ?_
    refine GG_bipush hk (pc' := 162) 111 dX8_statement_160 rfl rfl ?_
    refine GG_icmp_ne hk 219 (pc' := 165) dX8_statement_162 rfl (by decide) (fun c3 => ?_) (fun c3 => ?_)
    · refine GG_iload_n hk (pc' := 220) 2 dX8_statement_219 rfl rfl rfl ?_
      refine GG_bipush hk (pc' := 222) 109 dX8_statement_220 rfl rfl ?_
      refine GG_icmp_ne hk 276 (pc' := 225) dX8_statement_222 rfl (by decide) (fun c4 => ?_) (fun c4 => ?_)
      · refine GG_aload_n hk (pc' := 277) 0 dX8_statement_276 rfl rfl rfl ?_
        refine GG_callVi hk (st := []) (pc' := 280) mf_X8_digit mv_X8_digit LC8 rfl (c_X8_digit _ _ _ M1  ) (by omega) tw_1012 rfl rfl rfl (Nat.le_of_ble_eq_true rfl) dX8_statement_277 rfl (fun z5 e_z5 => ?_)
        refine GG_istore hk (pc' := 282) [(4, .int z5.1), (0, .ref (kh k + 163)), (1, .int l1), (2, .int l2)] dX8_statement_280 rfl (by decide) rfl ?_
        refine GG_aload_n hk (pc' := 283) 1 dX8_statement_282 rfl rfl rfl ?_
        refine GG_bipush hk (pc' := 285) 97 dX8_statement_283 rfl rfl ?_
        refine GG_bipush hk (pc' := 287) 104 dX8_statement_285 rfl rfl ?_
        refine GG_callVi hk (st := []) (pc' := 290) mf_X8_takes_ mv_X8_takes_ LC8 rfl (c_X8_takes_ _ _ _ z5.2 97 104 ) (by omega) tw_1016 rfl rfl rfl (Nat.le_of_ble_eq_true rfl) dX8_statement_287 rfl (fun z6 e_z6 => ?_)
        refine GG_istore hk (pc' := 292) [(5, .int z6.1), (4, .int z5.1), (0, .ref (kh k + 163)), (1, .int l1), (2, .int l2)] dX8_statement_290 rfl (by decide) rfl ?_
        refine GG_iload_n hk (pc' := 293) 4 dX8_statement_292 rfl rfl rfl ?_
        refine GG_bipush hk (pc' := 295) 101 dX8_statement_293 rfl rfl ?_
        refine GG_icmp_ne hk 311 (pc' := 298) dX8_statement_295 rfl (by decide) (fun c7 => ?_) (fun c7 => ?_)
        · refine GG_iload hk (pc' := 313) 1 dX8_statement_311 rfl rfl ?_
          refine GG_bipush hk (pc' := 315) 6 dX8_statement_313 rfl rfl ?_
          refine GG_icmp_ge hk 333 (pc' := 318) dX8_statement_315 rfl (by decide) (fun c8 => ?_) (fun c8 => ?_)
          · refine GG_sub (L' := [(0, .ref (kh k + 163)), (1, .int l1), (4, .int z5.1), (5, .int z6.1)]) [2, 3, 1, 0] rfl ?_
            exact m_X8_statement_333 hk hq  z6.2 l1 z5.1 z6.1 
          · refine GG_aload_n hk (pc' := 319) 2 dX8_statement_318 rfl rfl rfl ?_
            refine GG_iload hk (pc' := 321) 1 dX8_statement_319 rfl rfl ?_
            refine GG_iload hk (pc' := 323) 0 dX8_statement_321 rfl rfl ?_
            refine GG_callVi hk (st := []) (pc' := 326) mf_X8_has mv_X8_has LC8 rfl (c_X8_has _ _ _ z6.2 z5.1 z6.1 ) (by omega) tw_968 rfl rfl rfl (Nat.le_of_ble_eq_true rfl) dX8_statement_323 rfl (fun z9 e_z9 => ?_)
            refine GG_if_eq hk 333 (pc' := 329) dX8_statement_326 rfl (by decide) (fun c10 => ?_) (fun c10 => ?_)
            · refine GG_sub (L' := [(0, .ref (kh k + 163)), (1, .int l1), (4, .int z5.1), (5, .int z6.1)]) [2, 3, 1, 0] rfl ?_
              exact m_X8_statement_333 hk hq  z9.2 l1 z5.1 z6.1 
            · refine GG_iconst hk (pc' := 330) 1 dX8_statement_329 rfl rfl ?_
              refine GG_goto hk 334 dX8_statement_330 (by decide) ?_
              refine GG_sub (L' := [(0, .ref (kh k + 163)), (1, .int l1), (4, .int z5.1), (5, .int z6.1)]) [2, 3, 1, 0] rfl ?_
              exact m_X8_statement_334 hk hq  z9.2 l1 z5.1 z6.1 1 
        · refine GG_aload_n hk (pc' := 299) 2 dX8_statement_298 rfl rfl rfl ?_
          refine GG_iload hk (pc' := 301) 1 dX8_statement_299 rfl rfl ?_
          refine GG_iload hk (pc' := 303) 0 dX8_statement_301 rfl rfl ?_
          refine GG_iload_n hk (pc' := 304) 3 dX8_statement_303 rfl rfl rfl ?_
          refine GG_callVi hk (st := []) (pc' := 307) mf_X8_entry mv_X8_entry LC8 rfl (c_X8_entry _ _ _ z6.2 z5.1 z6.1 l1 ) (by omega) tw_1024 rfl rfl rfl (Nat.le_of_ble_eq_true rfl) dX8_statement_304 rfl (fun z11 e_z11 => ?_)
          refine GG_istore_n hk (pc' := 308) [(3, .int z11.1), (5, .int z6.1), (4, .int z5.1), (0, .ref (kh k + 163)), (1, .int l1), (2, .int l2)] dX8_statement_307 rfl rfl (by decide) rfl ?_
          refine GG_goto hk 359 dX8_statement_308 (by decide) ?_
          refine GG_sub (L' := [(0, .ref (kh k + 163)), (3, .int z11.1)]) [3, 0] rfl ?_
          exact m_X8_statement_359 hk hq  z11.2 z11.1 
      · refine GG_aload_n hk (pc' := 226) 0 dX8_statement_225 rfl rfl rfl ?_
        refine GG_bipush hk (pc' := 228) 97 dX8_statement_226 rfl rfl ?_
        refine GG_bipush hk (pc' := 230) 104 dX8_statement_228 rfl rfl ?_
        refine GG_callVi hk (st := []) (pc' := 233) mf_X8_takes_ mv_X8_takes_ LC8 rfl (c_X8_takes_ _ _ _ M1 97 104 ) (by omega) tw_1016 rfl rfl rfl (Nat.le_of_ble_eq_true rfl) dX8_statement_230 rfl (fun z12 e_z12 => ?_)
        refine GG_istore hk (pc' := 235) [(4, .int z12.1), (0, .ref (kh k + 163)), (1, .int l1), (2, .int l2)] dX8_statement_233 rfl (by decide) rfl ?_
        refine GG_aload_n hk (pc' := 236) 1 dX8_statement_235 rfl rfl rfl ?_
        refine GG_callVi hk (st := []) (pc' := 239) mf_X8_digit mv_X8_digit LC8 rfl (c_X8_digit _ _ _ z12.2  ) (by omega) tw_1012 rfl rfl rfl (Nat.le_of_ble_eq_true rfl) dX8_statement_236 rfl (fun z13 e_z13 => ?_)
        refine GG_istore hk (pc' := 241) [(5, .int z13.1), (4, .int z12.1), (0, .ref (kh k + 163)), (1, .int l1), (2, .int l2)] dX8_statement_239 rfl (by decide) rfl ?_
        refine GG_iload hk (pc' := 243) 0 dX8_statement_241 rfl rfl ?_
        refine GG_iconst hk (pc' := 244) 4 dX8_statement_243 rfl rfl ?_
        refine GG_icmp_gt hk 251 (pc' := 247) dX8_statement_244 rfl (by decide) (fun c14 => ?_) (fun c14 => ?_)
        · refine GG_iconst hk (pc' := 252) 0 dX8_statement_251 rfl rfl ?_
          refine GG_sub (L' := [(0, .ref (kh k + 163)), (1, .int l1), (4, .int z12.1), (5, .int z13.1)]) [2, 3, 1, 0] rfl ?_
          exact m_X8_statement_252 hk hq  z13.2 l1 z12.1 z13.1 0 
        · refine GG_iconst hk (pc' := 248) 1 dX8_statement_247 rfl rfl ?_
          refine GG_goto hk 252 dX8_statement_248 (by decide) ?_
          refine GG_sub (L' := [(0, .ref (kh k + 163)), (1, .int l1), (4, .int z12.1), (5, .int z13.1)]) [2, 3, 1, 0] rfl ?_
          exact m_X8_statement_252 hk hq  z13.2 l1 z12.1 z13.1 1 
    · refine GG_aload_n hk (pc' := 166) 0 dX8_statement_165 rfl rfl rfl ?_
      refine GG_callVi hk (st := []) (pc' := 169) mf_X8_digit mv_X8_digit LC8 rfl (c_X8_digit _ _ _ M1  ) (by omega) tw_1012 rfl rfl rfl (Nat.le_of_ble_eq_true rfl) dX8_statement_166 rfl (fun z15 e_z15 => ?_)
      refine GG_istore hk (pc' := 171) [(4, .int z15.1), (0, .ref (kh k + 163)), (1, .int l1), (2, .int l2)] dX8_statement_169 rfl (by decide) rfl ?_
      refine GG_iload hk (pc' := 173) 0 dX8_statement_171 rfl rfl ?_
      refine GG_bipush hk (pc' := 175) 6 dX8_statement_173 rfl rfl ?_
      refine GG_icmp_ge hk 182 (pc' := 178) dX8_statement_175 rfl (by decide) (fun c16 => ?_) (fun c16 => ?_)
      · refine GG_iconst hk (pc' := 183) 0 dX8_statement_182 rfl rfl ?_
        refine GG_sub (L' := [(0, .ref (kh k + 163)), (1, .int l1), (4, .int z15.1)]) [1, 2, 0] rfl ?_
        exact m_X8_statement_183 hk hq  z15.2 l1 z15.1 0 
      · refine GG_iconst hk (pc' := 179) 1 dX8_statement_178 rfl rfl ?_
        refine GG_goto hk 183 dX8_statement_179 (by decide) ?_
        refine GG_sub (L' := [(0, .ref (kh k + 163)), (1, .int l1), (4, .int z15.1)]) [1, 2, 0] rfl ?_
        exact m_X8_statement_183 hk hq  z15.2 l1 z15.1 1 
  · refine GG_aload_n hk (pc' := 86) 0 dX8_statement_85 rfl rfl rfl ?_
    refine GG_callVi hk (st := []) (pc' := 89) mf_X8_digit mv_X8_digit LC8 rfl (c_X8_digit _ _ _ M1  ) (by omega) tw_1012 rfl rfl rfl (Nat.le_of_ble_eq_true rfl) dX8_statement_86 rfl (fun z17 e_z17 => ?_)
    refine GG_istore hk (pc' := 91) [(4, .int z17.1), (0, .ref (kh k + 163)), (1, .int l1), (2, .int l2)] dX8_statement_89 rfl (by decide) rfl ?_
    refine GG_aload_n hk (pc' := 92) 1 dX8_statement_91 rfl rfl rfl ?_
    refine GG_callVi hk (st := []) (pc' := 95) mf_X8_digit mv_X8_digit LC8 rfl (c_X8_digit _ _ _ z17.2  ) (by omega) tw_1012 rfl rfl rfl (Nat.le_of_ble_eq_true rfl) dX8_statement_92 rfl (fun z18 e_z18 => ?_)
    refine GG_istore hk (pc' := 97) [(5, .int z18.1), (4, .int z17.1), (0, .ref (kh k + 163)), (1, .int l1), (2, .int l2)] dX8_statement_95 rfl (by decide) rfl ?_
    refine GG_aload_n hk (pc' := 98) 2 dX8_statement_97 rfl rfl rfl ?_
    refine GG_callVi hk (st := []) (pc' := 101) mf_X8_digit mv_X8_digit LC8 rfl (c_X8_digit _ _ _ z18.2  ) (by omega) tw_1012 rfl rfl rfl (Nat.le_of_ble_eq_true rfl) dX8_statement_98 rfl (fun z19 e_z19 => ?_)
    refine GG_istore hk (pc' := 103) [(6, .int z19.1), (5, .int z18.1), (4, .int z17.1), (0, .ref (kh k + 163)), (1, .int l1), (2, .int l2)] dX8_statement_101 rfl (by decide) rfl ?_
    refine GG_iload hk (pc' := 105) 2 dX8_statement_103 rfl rfl ?_
    refine GG_bipush hk (pc' := 107) 6 dX8_statement_105 rfl rfl ?_
    refine GG_icmp_ge hk 120 (pc' := 110) dX8_statement_107 rfl (by decide) (fun c20 => ?_) (fun c20 => ?_)
    · refine GG_sub (L' := [(0, .ref (kh k + 163)), (1, .int l1), (4, .int z17.1), (5, .int z18.1), (6, .int z19.1)]) [3, 4, 2, 1, 0] rfl ?_
      exact m_X8_statement_120 hk hq  z19.2 l1 z17.1 z18.1 z19.1 
    · refine GG_iload hk (pc' := 112) 1 dX8_statement_110 rfl rfl ?_
      refine GG_iconst hk (pc' := 113) 5 dX8_statement_112 rfl rfl ?_
      refine GG_icmp_gt hk 120 (pc' := 116) dX8_statement_113 rfl (by decide) (fun c21 => ?_) (fun c21 => ?_)
      · refine GG_sub (L' := [(0, .ref (kh k + 163)), (1, .int l1), (4, .int z17.1), (5, .int z18.1), (6, .int z19.1)]) [3, 4, 2, 1, 0] rfl ?_
        exact m_X8_statement_120 hk hq  z19.2 l1 z17.1 z18.1 z19.1 
      · refine GG_iconst hk (pc' := 117) 1 dX8_statement_116 rfl rfl ?_
        refine GG_goto hk 121 dX8_statement_117 (by decide) ?_
        refine GG_sub (L' := [(0, .ref (kh k + 163)), (1, .int l1), (4, .int z17.1), (5, .int z18.1), (6, .int z19.1)]) [3, 4, 2, 1, 0] rfl ?_
        exact m_X8_statement_121 hk hq  z19.2 l1 z17.1 z18.1 z19.1 1 
noncomputable def f_X8_statement_24  (M : Mem) (l1 : Int32) (t0 : Int32) : Option (Int32 × Mem) :=
    if t0 = 108 then
      f_X8_statement_69  M l1 t0
    else
      if t0 = 111 then
        f_X8_statement_69  M l1 t0
      else
        if t0 = 101 then
          f_X8_statement_69  M l1 t0
        else
          if t0 = 100 then
            f_X8_statement_69  M l1 t0
          else
            if t0 = 109 then
              f_X8_statement_69  M l1 t0
            else
              Option.bind (wrf M 163 10 ((-1000) - (M 163 9))) fun M6 =>
              bret 0 M6
set_option maxRecDepth 20000 in
theorem m_X8_statement_24 {k : KT} {q : Int32 × Mem} (hk : CX k cX8_statement RX8 7 (some .boolean) 6) (hq : RI k q) (M : Mem) (l1 : Int32) (t0 : Int32)  : GG k q (wM k M) 24 [(0, .ref (kh k + 163)), (1, .int l1)] [.int t0] (f_X8_statement_24  M l1 t0) := by
  unfold f_X8_statement_24
  refine GG_istore_n hk (pc' := 25) [(2, .int t0), (0, .ref (kh k + 163)), (1, .int l1)] dX8_statement_24 rfl rfl (by decide) rfl ?_
  refine GG_iload_n hk (pc' := 26) 0 dX8_statement_25 rfl rfl rfl ?_
  refine GG_bipush hk (pc' := 28) 108 dX8_statement_26 rfl rfl ?_
  refine GG_icmp_eq hk 69 (pc' := 31) dX8_statement_28 rfl (by decide) (fun c1 => ?_) (fun c1 => ?_)
  · refine GG_sub (L' := [(0, .ref (kh k + 163)), (1, .int l1), (2, .int t0)]) [1, 2, 0] rfl ?_
    exact m_X8_statement_69 hk hq  M l1 t0 
  · refine GG_iload_n hk (pc' := 32) 0 dX8_statement_31 rfl rfl rfl ?_
    refine GG_bipush hk (pc' := 34) 111 dX8_statement_32 rfl rfl ?_
    refine GG_icmp_eq hk 69 (pc' := 37) dX8_statement_34 rfl (by decide) (fun c2 => ?_) (fun c2 => ?_)
    · refine GG_sub (L' := [(0, .ref (kh k + 163)), (1, .int l1), (2, .int t0)]) [1, 2, 0] rfl ?_
      exact m_X8_statement_69 hk hq  M l1 t0 
    · refine GG_iload_n hk (pc' := 38) 0 dX8_statement_37 rfl rfl rfl ?_
      refine GG_bipush hk (pc' := 40) 101 dX8_statement_38 rfl rfl ?_
      refine GG_icmp_eq hk 69 (pc' := 43) dX8_statement_40 rfl (by decide) (fun c3 => ?_) (fun c3 => ?_)
      · refine GG_sub (L' := [(0, .ref (kh k + 163)), (1, .int l1), (2, .int t0)]) [1, 2, 0] rfl ?_
        exact m_X8_statement_69 hk hq  M l1 t0 
      · refine GG_iload_n hk (pc' := 44) 0 dX8_statement_43 rfl rfl rfl ?_
        refine GG_bipush hk (pc' := 46) 100 dX8_statement_44 rfl rfl ?_
        refine GG_icmp_eq hk 69 (pc' := 49) dX8_statement_46 rfl (by decide) (fun c4 => ?_) (fun c4 => ?_)
        · refine GG_sub (L' := [(0, .ref (kh k + 163)), (1, .int l1), (2, .int t0)]) [1, 2, 0] rfl ?_
          exact m_X8_statement_69 hk hq  M l1 t0 
        · refine GG_iload_n hk (pc' := 50) 0 dX8_statement_49 rfl rfl rfl ?_
          refine GG_bipush hk (pc' := 52) 109 dX8_statement_50 rfl rfl ?_
          refine GG_icmp_eq hk 69 (pc' := 55) dX8_statement_52 rfl (by decide) (fun c5 => ?_) (fun c5 => ?_)
          · refine GG_sub (L' := [(0, .ref (kh k + 163)), (1, .int l1), (2, .int t0)]) [1, 2, 0] rfl ?_
            exact m_X8_statement_69 hk hq  M l1 t0 
          · refine GG_aload_n hk (pc' := 56) 1 dX8_statement_55 rfl rfl rfl ?_
            refine GG_sipush hk (pc' := 59) (-1000) dX8_statement_56 rfl rfl ?_
            refine GG_aload_n hk (pc' := 60) 1 dX8_statement_59 rfl rfl rfl ?_
            refine GG_get hk LC8 9 (v := .int (M 163 9)) (pc' := 63) tw_851 rfl rfl (by decide) rfl dX8_statement_60 rfl ?_
            refine GG_isub hk (pc' := 64) dX8_statement_63 rfl ?_
            refine GG_put hk LC8 10 (pc' := 67) tw_852 rfl rfl (by decide) rfl rfl (Nat.le_of_ble_eq_true rfl) (pv_8_10 _ _ _ _) dX8_statement_64 rfl (fun M6 e_M6 => ?_)
            refine GG_iconst hk (pc' := 68) 0 dX8_statement_67 rfl rfl ?_
            exact GG_zret hk hq dX8_statement_68
noncomputable def f_X8_statement (M : Mem) (l1 : Int32) : Option (Int32 × Mem) :=
    if (M 163 7) ≤ (M 163 9) then
      f_X8_statement_24  M l1 0
    else
      Option.bind (rd 96 (M 169) (M 163 9)) fun v2 =>
      f_X8_statement_24  M l1 v2
set_option maxRecDepth 20000 in
theorem m_X8_statement {k : KT} {q : Int32 × Mem} (hk : CX k cX8_statement RX8 7 (some .boolean) 6) (hq : RI k q) (M : Mem) (l1 : Int32)  : GG k q (wM k M) 0 [(0, .ref (kh k + 163)), (1, .int l1)] [] (f_X8_statement M l1) := by
  unfold f_X8_statement
  refine GG_aload_n hk (pc' := 1) 0 dX8_statement_0 rfl rfl rfl ?_
  refine GG_get hk LC8 9 (v := .int (M 163 9)) (pc' := 4) tw_851 rfl rfl (by decide) rfl dX8_statement_1 rfl ?_
  refine GG_aload_n hk (pc' := 5) 0 dX8_statement_4 rfl rfl rfl ?_
  refine GG_get hk LC8 7 (v := .int (M 163 7)) (pc' := 8) tw_849 rfl rfl (by decide) rfl dX8_statement_5 rfl ?_
  refine GG_icmp_ge hk 23 (pc' := 11) dX8_statement_8 rfl (by decide) (fun c1 => ?_) (fun c1 => ?_)
  · refine GG_iconst hk (pc' := 24) 0 dX8_statement_23 rfl rfl ?_
    exact m_X8_statement_24 hk hq  M l1 0 
  · refine GG_aload_n hk (pc' := 12) 0 dX8_statement_11 rfl rfl rfl ?_
    refine GG_get hk LC8 5 (v := .ref (kh k + 169)) (pc' := 15) tw_847 rfl rfl (by decide) rfl dX8_statement_12 rfl ?_
    refine GG_aload_n hk (pc' := 16) 0 dX8_statement_15 rfl rfl rfl ?_
    refine GG_get hk LC8 9 (v := .int (M 163 9)) (pc' := 19) tw_851 rfl rfl (by decide) rfl dX8_statement_16 rfl ?_
    refine GG_iald hk (pc' := 20) rfl rfl dX8_statement_19 rfl (fun v2 e_v2 => ?_)
    refine GG_goto hk 24 dX8_statement_20 (by decide) ?_
    exact m_X8_statement_24 hk hq  M l1 v2 
theorem c_X8_statement (l : Launch) (C : DD) (a : Nat) (M : Mem) (l1 : Int32)  : CI l C (a) yX8_statement cX8_statement 7 .boolean 6 [.ref (a + 163), .int l1] M (f_X8_statement M l1) := by
  refine CI_of RX8 (by decide +kernel) rfl (Nat.le_of_ble_eq_true rfl) (fun k q hk hq e1 e2 e3 => ?_)
  subst e1; subst e2; subst e3
  exact m_X8_statement hk hq M l1 

/-! SettingsInLayersModel.settings()I -/
noncomputable def f_X8_settings_123  (M : Mem) (l1 : Int32) : Option (Int32 × Mem) :=
    Option.bind (wrf M 163 7 0) fun M1 =>
    if (M1 163 10) = 0 then
      some (l1, M1)
    else
      some ((M1 163 10), M1)
set_option maxRecDepth 20000 in
theorem m_X8_settings_123 {k : KT} {q : Int32 × Mem} (hk : CX k cX8_settings RX8 3 (some .int) 7) (hq : RI k q) (M : Mem) (l1 : Int32)  : GG k q (wM k M) 123 [(0, .ref (kh k + 163)), (1, .int l1)] [] (f_X8_settings_123  M l1) := by
  unfold f_X8_settings_123
  refine GG_aload_n hk (pc' := 124) 0 dX8_settings_123 rfl rfl rfl ?_
  refine GG_iconst hk (pc' := 125) 0 dX8_settings_124 rfl rfl ?_
  refine GG_put hk LC8 7 (pc' := 128) tw_849 rfl rfl (by decide) rfl rfl (Nat.le_of_ble_eq_true rfl) (pv_8_7 _ _ _ _) dX8_settings_125 rfl (fun M1 e_M1 => ?_)
  refine GG_aload_n hk (pc' := 129) 0 dX8_settings_128 rfl rfl rfl ?_
  refine GG_get hk LC8 10 (v := .int (M1 163 10)) (pc' := 132) tw_852 rfl rfl (by decide) rfl dX8_settings_129 rfl ?_
  refine GG_if_eq hk 142 (pc' := 135) dX8_settings_132 rfl (by decide) (fun c2 => ?_) (fun c2 => ?_)
  · refine GG_iload_n hk (pc' := 143) 1 dX8_settings_142 rfl rfl rfl ?_
    exact GG_iret hk hq dX8_settings_143
  · refine GG_aload_n hk (pc' := 136) 0 dX8_settings_135 rfl rfl rfl ?_
    refine GG_get hk LC8 10 (v := .int (M1 163 10)) (pc' := 139) tw_852 rfl rfl (by decide) rfl dX8_settings_136 rfl ?_
    refine GG_goto hk 143 dX8_settings_139 (by decide) ?_
    exact GG_iret hk hq dX8_settings_143
noncomputable def f_X8_settings_105  (M : Mem) (l1 : Int32) : Option (Int32 × Mem) :=
    if (M 163 10) = 0 then
      f_X8_settings_123  M l1
    else
      Option.bind (f_X8_copies M 167 164) fun z2 =>
      f_X8_settings_123  z2 l1
set_option maxRecDepth 20000 in
theorem m_X8_settings_105 {k : KT} {q : Int32 × Mem} (hk : CX k cX8_settings RX8 3 (some .int) 7) (hq : RI k q) (M : Mem) (l1 : Int32)  : GG k q (wM k M) 105 [(0, .ref (kh k + 163)), (1, .int l1)] [] (f_X8_settings_105  M l1) := by
  unfold f_X8_settings_105
  refine GG_aload_n hk (pc' := 106) 0 dX8_settings_105 rfl rfl rfl ?_
  refine GG_get hk LC8 10 (v := .int (M 163 10)) (pc' := 109) tw_852 rfl rfl (by decide) rfl dX8_settings_106 rfl ?_
  refine GG_if_eq hk 123 (pc' := 112) dX8_settings_109 rfl (by decide) (fun c1 => ?_) (fun c1 => ?_)
  · exact m_X8_settings_123 hk hq  M l1 
  · refine GG_aload_n hk (pc' := 113) 0 dX8_settings_112 rfl rfl rfl ?_
    refine GG_get hk LC8 3 (v := .ref (kh k + 167)) (pc' := 116) tw_845 rfl rfl (by decide) rfl dX8_settings_113 rfl ?_
    refine GG_aload_n hk (pc' := 117) 0 dX8_settings_116 rfl rfl rfl ?_
    refine GG_get hk LC8 0 (v := .ref (kh k + 164)) (pc' := 120) tw_842 rfl rfl (by decide) rfl dX8_settings_117 rfl ?_
    refine GG_callSv hk (st := []) (pc' := 123) mf_X8_copies tw_1033 (c_X8_copies _ _ _ M 167 164 rfl rfl) (by omega) tw_1032 rfl rfl (Nat.le_of_ble_eq_true rfl) dX8_settings_120 rfl (fun z2 e_z2 => ?_)
    exact m_X8_settings_123 hk hq  z2 l1 
noncomputable def f_X8_settings_59  : Nat → Mem → Int32 → Option (Int32 × Mem)
  | 0, _, _ => none
  | n + 1, M, l1 =>
    if (M 163 7) ≤ (M 163 9) then
      f_X8_settings_105  M l1
    else
      if ¬ (M 163 10) = 0 then
        f_X8_settings_105  M l1
      else
        Option.bind (f_X8_statement M 1) fun z3 =>
        if ¬ z3.1 = 0 then
          f_X8_settings_59  n z3.2 (l1 + 1)
        else
          Option.bind (wrf z3.2 163 10 ((-2000) - (M 163 9))) fun M5 =>
          f_X8_settings_59  n M5 (l1 + 1)
set_option maxRecDepth 20000 in
theorem m_X8_settings_59 {k : KT} {q : Int32 × Mem} (hk : CX k cX8_settings RX8 3 (some .int) 7) (hq : RI k q) : ∀ (n : Nat) (M : Mem) (l1 : Int32) , GG k q (wM k M) 59 [(0, .ref (kh k + 163)), (1, .int l1)] [] (f_X8_settings_59  n M l1) := by
  intro n
  induction n with
  | zero => intros; exact GG_none
  | succ n ih =>
    intro M l1 
    rw [f_X8_settings_59]
    refine GG_aload_n hk (pc' := 60) 0 dX8_settings_59 rfl rfl rfl ?_
    refine GG_get hk LC8 9 (v := .int (M 163 9)) (pc' := 63) tw_851 rfl rfl (by decide) rfl dX8_settings_60 rfl ?_
    refine GG_aload_n hk (pc' := 64) 0 dX8_settings_63 rfl rfl rfl ?_
    refine GG_get hk LC8 7 (v := .int (M 163 7)) (pc' := 67) tw_849 rfl rfl (by decide) rfl dX8_settings_64 rfl ?_
    refine GG_icmp_ge hk 105 (pc' := 70) dX8_settings_67 rfl (by decide) (fun c1 => ?_) (fun c1 => ?_)
    · exact m_X8_settings_105 hk hq  M l1 
    · refine GG_aload_n hk (pc' := 71) 0 dX8_settings_70 rfl rfl rfl ?_
      refine GG_get hk LC8 10 (v := .int (M 163 10)) (pc' := 74) tw_852 rfl rfl (by decide) rfl dX8_settings_71 rfl ?_
      refine GG_if_ne hk 105 (pc' := 77) dX8_settings_74 rfl (by decide) (fun c2 => ?_) (fun c2 => ?_)
      · exact m_X8_settings_105 hk hq  M l1 
      · refine GG_aload_n hk (pc' := 78) 0 dX8_settings_77 rfl rfl rfl ?_
        refine GG_get hk LC8 9 (v := .int (M 163 9)) (pc' := 81) tw_851 rfl rfl (by decide) rfl dX8_settings_78 rfl ?_
        refine GG_istore_n hk (pc' := 82) [(2, .int (M 163 9)), (0, .ref (kh k + 163)), (1, .int l1)] dX8_settings_81 rfl rfl (by decide) rfl ?_
        refine GG_aload_n hk (pc' := 83) 1 dX8_settings_82 rfl rfl rfl ?_
        refine GG_iconst hk (pc' := 84) 1 dX8_settings_83 rfl rfl ?_
        refine GG_callVi hk (st := []) (pc' := 87) mf_X8_statement mv_X8_statement LC8 rfl (c_X8_statement _ _ _ M 1 ) (by omega) tw_1008 rfl rfl rfl (Nat.le_of_ble_eq_true rfl) dX8_settings_84 rfl (fun z3 e_z3 => ?_)
        refine GG_if_ne hk 99 (pc' := 90) dX8_settings_87 rfl (by decide) (fun c4 => ?_) (fun c4 => ?_)
        · refine GG_iinc hk (pc' := 102) 2 (l1 + 1) [(1, .int (l1 + 1)), (2, .int (M 163 9)), (0, .ref (kh k + 163))] dX8_settings_99 rfl rfl rfl (by decide) rfl ?_
          refine GG_goto hk 59 dX8_settings_102 (by decide) ?_
          refine GG_sub (L' := [(0, .ref (kh k + 163)), (1, .int (l1 + 1))]) [2, 0] rfl ?_
          exact ih z3.2 (l1 + 1) 
        · refine GG_aload_n hk (pc' := 91) 1 dX8_settings_90 rfl rfl rfl ?_
          refine GG_sipush hk (pc' := 94) (-2000) dX8_settings_91 rfl rfl ?_
          refine GG_iload_n hk (pc' := 95) 0 dX8_settings_94 rfl rfl rfl ?_
          refine GG_isub hk (pc' := 96) dX8_settings_95 rfl ?_
          refine GG_put hk LC8 10 (pc' := 99) tw_852 rfl rfl (by decide) rfl rfl (Nat.le_of_ble_eq_true rfl) (pv_8_10 _ _ _ _) dX8_settings_96 rfl (fun M5 e_M5 => ?_)
          refine GG_iinc hk (pc' := 102) 2 (l1 + 1) [(1, .int (l1 + 1)), (2, .int (M 163 9)), (0, .ref (kh k + 163))] dX8_settings_99 rfl rfl rfl (by decide) rfl ?_
          refine GG_goto hk 59 dX8_settings_102 (by decide) ?_
          refine GG_sub (L' := [(0, .ref (kh k + 163)), (1, .int (l1 + 1))]) [2, 0] rfl ?_
          exact ih M5 (l1 + 1) 
noncomputable def f_X8_settings_34  (M : Mem)  : Option (Int32 × Mem) :=
    if ¬ (M 163 10) = 0 then
      f_X8_settings_123  M 0
    else
      Option.bind (f_X8_copies M 164 167) fun z2 =>
      Option.bind (wrf z2 163 9 0) fun M3 =>
      f_X8_settings_59  1000 M3 0
set_option maxRecDepth 20000 in
theorem m_X8_settings_34 {k : KT} {q : Int32 × Mem} (hk : CX k cX8_settings RX8 3 (some .int) 7) (hq : RI k q) (M : Mem)   : GG k q (wM k M) 34 [(0, .ref (kh k + 163))] [] (f_X8_settings_34  M ) := by
  unfold f_X8_settings_34
  refine GG_iconst hk (pc' := 35) 0 dX8_settings_34 rfl rfl ?_
  refine GG_istore_n hk (pc' := 36) [(1, .int 0), (0, .ref (kh k + 163))] dX8_settings_35 rfl rfl (by decide) rfl ?_
  refine GG_aload_n hk (pc' := 37) 1 dX8_settings_36 rfl rfl rfl ?_
  refine GG_get hk LC8 10 (v := .int (M 163 10)) (pc' := 40) tw_852 rfl rfl (by decide) rfl dX8_settings_37 rfl ?_
  refine GG_if_ne hk 123 (pc' := 43) dX8_settings_40 rfl (by decide) (fun c1 => ?_) (fun c1 => ?_)
  · refine GG_sub (L' := [(0, .ref (kh k + 163)), (1, .int 0)]) [1, 0] rfl ?_
    exact m_X8_settings_123 hk hq  M 0 
  · refine GG_aload_n hk (pc' := 44) 1 dX8_settings_43 rfl rfl rfl ?_
    refine GG_get hk LC8 0 (v := .ref (kh k + 164)) (pc' := 47) tw_842 rfl rfl (by decide) rfl dX8_settings_44 rfl ?_
    refine GG_aload_n hk (pc' := 48) 1 dX8_settings_47 rfl rfl rfl ?_
    refine GG_get hk LC8 3 (v := .ref (kh k + 167)) (pc' := 51) tw_845 rfl rfl (by decide) rfl dX8_settings_48 rfl ?_
    refine GG_callSv hk (st := []) (pc' := 54) mf_X8_copies tw_1033 (c_X8_copies _ _ _ M 164 167 rfl rfl) (by omega) tw_1032 rfl rfl (Nat.le_of_ble_eq_true rfl) dX8_settings_51 rfl (fun z2 e_z2 => ?_)
    refine GG_aload_n hk (pc' := 55) 1 dX8_settings_54 rfl rfl rfl ?_
    refine GG_iconst hk (pc' := 56) 0 dX8_settings_55 rfl rfl ?_
    refine GG_put hk LC8 9 (pc' := 59) tw_851 rfl rfl (by decide) rfl rfl (Nat.le_of_ble_eq_true rfl) (pv_8_9 _ _ _ _) dX8_settings_56 rfl (fun M3 e_M3 => ?_)
    refine GG_sub (L' := [(0, .ref (kh k + 163)), (1, .int 0)]) [1, 0] rfl ?_
    exact m_X8_settings_59 hk hq  1000 M3 0 
noncomputable def f_X8_settings_10  : Nat → Mem → Option (Int32 × Mem)
  | 0, _ => none
  | n + 1, M =>
    Option.bind (f_X8_statement M 0) fun z1 =>
    if ¬ (z1.2 163 10) = 0 then
      f_X8_settings_34  z1.2 
    else
      if (z1.2 163 9) < (z1.2 163 7) then
        f_X8_settings_10  n z1.2 
      else
        f_X8_settings_34  z1.2 
set_option maxRecDepth 20000 in
theorem m_X8_settings_10 {k : KT} {q : Int32 × Mem} (hk : CX k cX8_settings RX8 3 (some .int) 7) (hq : RI k q) : ∀ (n : Nat) (M : Mem)  , GG k q (wM k M) 10 [(0, .ref (kh k + 163))] [] (f_X8_settings_10  n M ) := by
  intro n
  induction n with
  | zero => intros; exact GG_none
  | succ n ih =>
    intro M  
    rw [f_X8_settings_10]
    refine GG_aload_n hk (pc' := 11) 0 dX8_settings_10 rfl rfl rfl ?_
    refine GG_iconst hk (pc' := 12) 0 dX8_settings_11 rfl rfl ?_
    refine GG_callVi hk (st := []) (pc' := 15) mf_X8_statement mv_X8_statement LC8 rfl (c_X8_statement _ _ _ M 0 ) (by omega) tw_1008 rfl rfl rfl (Nat.le_of_ble_eq_true rfl) dX8_settings_12 rfl (fun z1 e_z1 => ?_)
    refine GG_pop hk (pc' := 16) dX8_settings_15 rfl rfl ?_
    refine GG_aload_n hk (pc' := 17) 0 dX8_settings_16 rfl rfl rfl ?_
    refine GG_get hk LC8 10 (v := .int (z1.2 163 10)) (pc' := 20) tw_852 rfl rfl (by decide) rfl dX8_settings_17 rfl ?_
    refine GG_if_ne hk 34 (pc' := 23) dX8_settings_20 rfl (by decide) (fun c2 => ?_) (fun c2 => ?_)
    · exact m_X8_settings_34 hk hq  z1.2  
    · refine GG_aload_n hk (pc' := 24) 0 dX8_settings_23 rfl rfl rfl ?_
      refine GG_get hk LC8 9 (v := .int (z1.2 163 9)) (pc' := 27) tw_851 rfl rfl (by decide) rfl dX8_settings_24 rfl ?_
      refine GG_aload_n hk (pc' := 28) 0 dX8_settings_27 rfl rfl rfl ?_
      refine GG_get hk LC8 7 (v := .int (z1.2 163 7)) (pc' := 31) tw_849 rfl rfl (by decide) rfl dX8_settings_28 rfl ?_
      refine GG_icmp_lt hk 10 (pc' := 34) dX8_settings_31 rfl (by decide) (fun c3 => ?_) (fun c3 => ?_)
      · exact ih z1.2  
      · exact m_X8_settings_34 hk hq  z1.2  
noncomputable def f_X8_settings (M : Mem)  : Option (Int32 × Mem) :=
    Option.bind (wrf M 163 9 0) fun M1 =>
    Option.bind (wrf M1 163 10 0) fun M2 =>
    f_X8_settings_10  1000 M2 
set_option maxRecDepth 20000 in
theorem m_X8_settings {k : KT} {q : Int32 × Mem} (hk : CX k cX8_settings RX8 3 (some .int) 7) (hq : RI k q) (M : Mem)   : GG k q (wM k M) 0 [(0, .ref (kh k + 163))] [] (f_X8_settings M ) := by
  unfold f_X8_settings
  refine GG_aload_n hk (pc' := 1) 0 dX8_settings_0 rfl rfl rfl ?_
  refine GG_iconst hk (pc' := 2) 0 dX8_settings_1 rfl rfl ?_
  refine GG_put hk LC8 9 (pc' := 5) tw_851 rfl rfl (by decide) rfl rfl (Nat.le_of_ble_eq_true rfl) (pv_8_9 _ _ _ _) dX8_settings_2 rfl (fun M1 e_M1 => ?_)
  refine GG_aload_n hk (pc' := 6) 0 dX8_settings_5 rfl rfl rfl ?_
  refine GG_iconst hk (pc' := 7) 0 dX8_settings_6 rfl rfl ?_
  refine GG_put hk LC8 10 (pc' := 10) tw_852 rfl rfl (by decide) rfl rfl (Nat.le_of_ble_eq_true rfl) (pv_8_10 _ _ _ _) dX8_settings_7 rfl (fun M2 e_M2 => ?_)
  exact m_X8_settings_10 hk hq  1000 M2  
theorem c_X8_settings (l : Launch) (C : DD) (a : Nat) (M : Mem)   : CI l C (a) yX8_settings cX8_settings 3 .int 7 [.ref (a + 163)] M (f_X8_settings M ) := by
  refine CI_of RX8 (by decide +kernel) rfl (Nat.le_of_ble_eq_true rfl) (fun k q hk hq e1 e2 e3 => ?_)
  subst e1; subst e2; subst e3
  exact m_X8_settings hk hq M  

/-! SettingsInLayersModel.layer(II)I -/
noncomputable def f_X8_layer_75  : Nat → Mem → Int32 → Int32 → Int32 → Option (Int32 × Mem)
  | 0, _, _, _, _ => none
  | n + 1, M, l1, l3, l4 =>
    if 6 ≤ l4 then
      some (l3, M)
    else
      Option.bind (f_X8_isBehind M l4 l1) fun z2 =>
      if z2.1 = 0 then
        f_X8_layer_75  n z2.2 l1 (l3 + 0) (l4 + 1)
      else
        f_X8_layer_75  n z2.2 l1 (l3 + 1) (l4 + 1)
set_option maxRecDepth 20000 in
theorem m_X8_layer_75 {k : KT} {q : Int32 × Mem} (hk : CX k cX8_layer RX8 5 (some .int) 4) (hq : RI k q) : ∀ (n : Nat) (M : Mem) (l1 : Int32) (l3 : Int32) (l4 : Int32) , GG k q (wM k M) 75 [(0, .ref (kh k + 163)), (1, .int l1), (3, .int l3), (4, .int l4)] [] (f_X8_layer_75  n M l1 l3 l4) := by
  intro n
  induction n with
  | zero => intros; exact GG_none
  | succ n ih =>
    intro M l1 l3 l4 
    rw [f_X8_layer_75]
    refine GG_iload hk (pc' := 77) 3 dX8_layer_75 rfl rfl ?_
    refine GG_bipush hk (pc' := 79) 6 dX8_layer_77 rfl rfl ?_
    refine GG_icmp_ge hk 106 (pc' := 82) dX8_layer_79 rfl (by decide) (fun c1 => ?_) (fun c1 => ?_)
    · refine GG_iload_n hk (pc' := 107) 2 dX8_layer_106 rfl rfl rfl ?_
      exact GG_iret hk hq dX8_layer_107
    · refine GG_iload_n hk (pc' := 83) 2 dX8_layer_82 rfl rfl rfl ?_
      refine GG_aload_n hk (pc' := 84) 0 dX8_layer_83 rfl rfl rfl ?_
      refine GG_iload hk (pc' := 86) 3 dX8_layer_84 rfl rfl ?_
      refine GG_iload_n hk (pc' := 87) 1 dX8_layer_86 rfl rfl rfl ?_
      refine GG_callVi hk (st := [.int l3]) (pc' := 90) mf_X8_isBehind mv_X8_isBehind LC8 rfl (c_X8_isBehind _ _ _ M l4 l1 ) (by omega) tw_1043 rfl rfl rfl (Nat.le_of_ble_eq_true rfl) dX8_layer_87 rfl (fun z2 e_z2 => ?_)
      refine GG_if_eq hk 97 (pc' := 93) dX8_layer_90 rfl (by decide) (fun c3 => ?_) (fun c3 => ?_)
      · refine GG_iconst hk (pc' := 98) 0 dX8_layer_97 rfl rfl ?_
        refine GG_iadd hk (pc' := 99) dX8_layer_98 rfl ?_
        refine GG_istore_n hk (pc' := 100) [(3, .int (l3 + 0)), (0, .ref (kh k + 163)), (1, .int l1), (4, .int l4)] dX8_layer_99 rfl rfl (by decide) rfl ?_
        refine GG_iinc hk (pc' := 103) 3 (l4 + 1) [(4, .int (l4 + 1)), (3, .int (l3 + 0)), (0, .ref (kh k + 163)), (1, .int l1)] dX8_layer_100 rfl rfl rfl (by decide) rfl ?_
        refine GG_goto hk 75 dX8_layer_103 (by decide) ?_
        refine GG_sub (L' := [(0, .ref (kh k + 163)), (1, .int l1), (3, .int (l3 + 0)), (4, .int (l4 + 1))]) [2, 3, 1, 0] rfl ?_
        exact ih z2.2 l1 (l3 + 0) (l4 + 1) 
      · refine GG_iconst hk (pc' := 94) 1 dX8_layer_93 rfl rfl ?_
        refine GG_goto hk 98 dX8_layer_94 (by decide) ?_
        refine GG_iadd hk (pc' := 99) dX8_layer_98 rfl ?_
        refine GG_istore_n hk (pc' := 100) [(3, .int (l3 + 1)), (0, .ref (kh k + 163)), (1, .int l1), (4, .int l4)] dX8_layer_99 rfl rfl (by decide) rfl ?_
        refine GG_iinc hk (pc' := 103) 3 (l4 + 1) [(4, .int (l4 + 1)), (3, .int (l3 + 1)), (0, .ref (kh k + 163)), (1, .int l1)] dX8_layer_100 rfl rfl rfl (by decide) rfl ?_
        refine GG_goto hk 75 dX8_layer_103 (by decide) ?_
        refine GG_sub (L' := [(0, .ref (kh k + 163)), (1, .int l1), (3, .int (l3 + 1)), (4, .int (l4 + 1))]) [2, 3, 1, 0] rfl ?_
        exact ih z2.2 l1 (l3 + 1) (l4 + 1) 
noncomputable def f_X8_layer (M : Mem) (l1 : Int32) (l2 : Int32) : Option (Int32 × Mem) :=
    Option.bind (f_X8_isLayer M l1) fun z1 =>
    if ¬ z1.1 = 0 then
      Option.bind (f_X8_isIn z1.2 l2 0 5) fun z3 =>
      if ¬ z3.1 = 0 then
        if 3 ≤ l2 then
          if ¬ l2 = 3 then
            if ¬ l2 = 4 then
              f_X8_layer_75  1000 z3.2 l1 0 0
            else
              Option.bind (f_X8_entries z3.2 l1) fun z8 =>
              some (z8.1, z8.2)
          else
            Option.bind (f_X8_rank z3.2 l1) fun z9 =>
            some ((z9.1 + 100), z9.2)
        else
          Option.bind (rd 640 (z3.2 164) ((3 * l1) + l2)) fun v10 =>
          some (v10, z3.2)
      else
        Option.bind (f_X8_no z3.2 (-2)) fun z11 =>
        some (z11.1, z11.2)
    else
      Option.bind (f_X8_no z1.2 (-1)) fun z12 =>
      some (z12.1, z12.2)
set_option maxRecDepth 20000 in
theorem m_X8_layer {k : KT} {q : Int32 × Mem} (hk : CX k cX8_layer RX8 5 (some .int) 4) (hq : RI k q) (M : Mem) (l1 : Int32) (l2 : Int32)  : GG k q (wM k M) 0 [(0, .ref (kh k + 163)), (1, .int l1), (2, .int l2)] [] (f_X8_layer M l1 l2) := by
  unfold f_X8_layer
  refine GG_iload_n hk (pc' := 1) 1 dX8_layer_0 rfl rfl rfl ?_
  refine GG_callSi hk (st := []) (pc' := 4) mf_X8_isLayer tw_933 (c_X8_isLayer _ _ _ M l1 ) (by omega) tw_932 rfl rfl (Nat.le_of_ble_eq_true rfl) dX8_layer_1 rfl (fun z1 e_z1 => ?_)
  refine GG_if_ne hk 13 (pc' := 7) dX8_layer_4 rfl (by decide) (fun c2 => ?_) (fun c2 => ?_)
  · refine GG_iload_n hk (pc' := 14) 2 dX8_layer_13 rfl rfl rfl ?_
    refine GG_iconst hk (pc' := 15) 0 dX8_layer_14 rfl rfl ?_
    refine GG_iconst hk (pc' := 16) 5 dX8_layer_15 rfl rfl ?_
    refine GG_callSi hk (st := []) (pc' := 19) mf_X8_isIn tw_936 (c_X8_isIn _ _ _ z1.2 l2 0 5 ) (by omega) tw_935 rfl rfl (Nat.le_of_ble_eq_true rfl) dX8_layer_16 rfl (fun z3 e_z3 => ?_)
    refine GG_if_ne hk 29 (pc' := 22) dX8_layer_19 rfl (by decide) (fun c4 => ?_) (fun c4 => ?_)
    · refine GG_iload_n hk (pc' := 30) 2 dX8_layer_29 rfl rfl rfl ?_
      refine GG_iconst hk (pc' := 31) 3 dX8_layer_30 rfl rfl ?_
      refine GG_icmp_ge hk 45 (pc' := 34) dX8_layer_31 rfl (by decide) (fun c5 => ?_) (fun c5 => ?_)
      · refine GG_iload_n hk (pc' := 46) 2 dX8_layer_45 rfl rfl rfl ?_
        refine GG_iconst hk (pc' := 47) 3 dX8_layer_46 rfl rfl ?_
        refine GG_icmp_ne hk 59 (pc' := 50) dX8_layer_47 rfl (by decide) (fun c6 => ?_) (fun c6 => ?_)
        · refine GG_iload_n hk (pc' := 60) 2 dX8_layer_59 rfl rfl rfl ?_
          refine GG_iconst hk (pc' := 61) 4 dX8_layer_60 rfl rfl ?_
          refine GG_icmp_ne hk 70 (pc' := 64) dX8_layer_61 rfl (by decide) (fun c7 => ?_) (fun c7 => ?_)
          · refine GG_iconst hk (pc' := 71) 0 dX8_layer_70 rfl rfl ?_
            refine GG_istore_n hk (pc' := 72) [(3, .int 0), (0, .ref (kh k + 163)), (1, .int l1), (2, .int l2)] dX8_layer_71 rfl rfl (by decide) rfl ?_
            refine GG_iconst hk (pc' := 73) 0 dX8_layer_72 rfl rfl ?_
            refine GG_istore hk (pc' := 75) [(4, .int 0), (3, .int 0), (0, .ref (kh k + 163)), (1, .int l1), (2, .int l2)] dX8_layer_73 rfl (by decide) rfl ?_
            refine GG_sub (L' := [(0, .ref (kh k + 163)), (1, .int l1), (3, .int 0), (4, .int 0)]) [2, 3, 1, 0] rfl ?_
            exact m_X8_layer_75 hk hq  1000 z3.2 l1 0 0 
          · refine GG_aload_n hk (pc' := 65) 0 dX8_layer_64 rfl rfl rfl ?_
            refine GG_iload_n hk (pc' := 66) 1 dX8_layer_65 rfl rfl rfl ?_
            refine GG_callVi hk (st := []) (pc' := 69) mf_X8_entries mv_X8_entries LC8 rfl (c_X8_entries _ _ _ z3.2 l1 ) (by omega) tw_993 rfl rfl rfl (Nat.le_of_ble_eq_true rfl) dX8_layer_66 rfl (fun z8 e_z8 => ?_)
            exact GG_iret hk hq dX8_layer_69
        · refine GG_aload_n hk (pc' := 51) 0 dX8_layer_50 rfl rfl rfl ?_
          refine GG_iload_n hk (pc' := 52) 1 dX8_layer_51 rfl rfl rfl ?_
          refine GG_callVi hk (st := []) (pc' := 55) mf_X8_rank mv_X8_rank LC8 rfl (c_X8_rank _ _ _ z3.2 l1 ) (by omega) tw_1039 rfl rfl rfl (Nat.le_of_ble_eq_true rfl) dX8_layer_52 rfl (fun z9 e_z9 => ?_)
          refine GG_bipush hk (pc' := 57) 100 dX8_layer_55 rfl rfl ?_
          refine GG_iadd hk (pc' := 58) dX8_layer_57 rfl ?_
          exact GG_iret hk hq dX8_layer_58
      · refine GG_aload_n hk (pc' := 35) 0 dX8_layer_34 rfl rfl rfl ?_
        refine GG_get hk LC8 0 (v := .ref (kh k + 164)) (pc' := 38) tw_842 rfl rfl (by decide) rfl dX8_layer_35 rfl ?_
        refine GG_iconst hk (pc' := 39) 3 dX8_layer_38 rfl rfl ?_
        refine GG_iload_n hk (pc' := 40) 1 dX8_layer_39 rfl rfl rfl ?_
        refine GG_imul hk (pc' := 41) dX8_layer_40 rfl ?_
        refine GG_iload_n hk (pc' := 42) 2 dX8_layer_41 rfl rfl rfl ?_
        refine GG_iadd hk (pc' := 43) dX8_layer_42 rfl ?_
        refine GG_iald hk (pc' := 44) rfl rfl dX8_layer_43 rfl (fun v10 e_v10 => ?_)
        exact GG_iret hk hq dX8_layer_44
    · refine GG_aload_n hk (pc' := 23) 0 dX8_layer_22 rfl rfl rfl ?_
      refine GG_bipush hk (pc' := 25) (-2) dX8_layer_23 rfl rfl ?_
      refine GG_callVi hk (st := []) (pc' := 28) mf_X8_no mv_X8_no LC8 rfl (c_X8_no _ _ _ z3.2 (-2) ) (by omega) tw_938 rfl rfl rfl (Nat.le_of_ble_eq_true rfl) dX8_layer_25 rfl (fun z11 e_z11 => ?_)
      exact GG_iret hk hq dX8_layer_28
  · refine GG_aload_n hk (pc' := 8) 0 dX8_layer_7 rfl rfl rfl ?_
    refine GG_iconst hk (pc' := 9) (-1) dX8_layer_8 rfl rfl ?_
    refine GG_callVi hk (st := []) (pc' := 12) mf_X8_no mv_X8_no LC8 rfl (c_X8_no _ _ _ z1.2 (-1) ) (by omega) tw_938 rfl rfl rfl (Nat.le_of_ble_eq_true rfl) dX8_layer_9 rfl (fun z12 e_z12 => ?_)
    exact GG_iret hk hq dX8_layer_12
theorem c_X8_layer (l : Launch) (C : DD) (a : Nat) (M : Mem) (l1 : Int32) (l2 : Int32)  : CI l C (a) yX8_layer cX8_layer 5 .int 4 [.ref (a + 163), .int l1, .int l2] M (f_X8_layer M l1 l2) := by
  refine CI_of RX8 (by decide +kernel) rfl (Nat.le_of_ble_eq_true rfl) (fun k q hk hq e1 e2 e3 => ?_)
  subst e1; subst e2; subst e3
  exact m_X8_layer hk hq M l1 l2 

/-! SettingsInLayersModel.entry(III)I -/
noncomputable def f_X8_entry__80  (M : Mem) (l3 : Int32) (l4 : Int32) (l5 : Int32) (t0 : Int32) : Option (Int32 × Mem) :=
    if ¬ l3 = 0 then
      if ¬ l3 = 1 then
        if t0 = 0 then
          some ((-9), M)
        else
          Option.bind (rd 640 (M 164) (l4 + 2)) fun v4 =>
          some (v4, M)
      else
        if ¬ l5 = 1 then
          Option.bind (rd 640 (M 164) (l4 + 1)) fun v6 =>
          some (v6, M)
        else
          Option.bind (rd 640 (M 164) (l4 + 3)) fun v7 =>
          some (v7, M)
    else
      some (l5, M)
set_option maxRecDepth 20000 in
theorem m_X8_entry__80 {k : KT} {q : Int32 × Mem} (hk : CX k cX8_entry_ RX8 7 (some .int) 3) (hq : RI k q) (M : Mem) (l3 : Int32) (l4 : Int32) (l5 : Int32) (t0 : Int32)  : GG k q (wM k M) 80 [(0, .ref (kh k + 163)), (3, .int l3), (4, .int l4), (5, .int l5)] [.int t0] (f_X8_entry__80  M l3 l4 l5 t0) := by
  unfold f_X8_entry__80
  refine GG_istore hk (pc' := 82) [(6, .int t0), (0, .ref (kh k + 163)), (3, .int l3), (4, .int l4), (5, .int l5)] dX8_entry__80 rfl (by decide) rfl ?_
  refine GG_iload_n hk (pc' := 83) 2 dX8_entry__82 rfl rfl rfl ?_
  refine GG_if_ne hk 91 (pc' := 86) dX8_entry__83 rfl (by decide) (fun c1 => ?_) (fun c1 => ?_)
  · refine GG_iload_n hk (pc' := 92) 2 dX8_entry__91 rfl rfl rfl ?_
    refine GG_iconst hk (pc' := 93) 1 dX8_entry__92 rfl rfl ?_
    refine GG_icmp_ne hk 126 (pc' := 96) dX8_entry__93 rfl (by decide) (fun c2 => ?_) (fun c2 => ?_)
    · refine GG_iload hk (pc' := 128) 0 dX8_entry__126 rfl rfl ?_
      refine GG_if_eq hk 143 (pc' := 131) dX8_entry__128 rfl (by decide) (fun c3 => ?_) (fun c3 => ?_)
      · refine GG_bipush hk (pc' := 145) (-9) dX8_entry__143 rfl rfl ?_
        exact GG_iret hk hq dX8_entry__145
      · refine GG_aload_n hk (pc' := 132) 1 dX8_entry__131 rfl rfl rfl ?_
        refine GG_get hk LC8 0 (v := .ref (kh k + 164)) (pc' := 135) tw_842 rfl rfl (by decide) rfl dX8_entry__132 rfl ?_
        refine GG_iload hk (pc' := 137) 3 dX8_entry__135 rfl rfl ?_
        refine GG_iconst hk (pc' := 138) 2 dX8_entry__137 rfl rfl ?_
        refine GG_iadd hk (pc' := 139) dX8_entry__138 rfl ?_
        refine GG_iald hk (pc' := 140) rfl rfl dX8_entry__139 rfl (fun v4 e_v4 => ?_)
        refine GG_goto hk 145 dX8_entry__140 (by decide) ?_
        exact GG_iret hk hq dX8_entry__145
    · refine GG_iload hk (pc' := 98) 4 dX8_entry__96 rfl rfl ?_
      refine GG_iconst hk (pc' := 99) 1 dX8_entry__98 rfl rfl ?_
      refine GG_icmp_ne hk 114 (pc' := 102) dX8_entry__99 rfl (by decide) (fun c5 => ?_) (fun c5 => ?_)
      · refine GG_aload_n hk (pc' := 115) 1 dX8_entry__114 rfl rfl rfl ?_
        refine GG_get hk LC8 0 (v := .ref (kh k + 164)) (pc' := 118) tw_842 rfl rfl (by decide) rfl dX8_entry__115 rfl ?_
        refine GG_iload hk (pc' := 120) 3 dX8_entry__118 rfl rfl ?_
        refine GG_iconst hk (pc' := 121) 1 dX8_entry__120 rfl rfl ?_
        refine GG_iadd hk (pc' := 122) dX8_entry__121 rfl ?_
        refine GG_iald hk (pc' := 123) rfl rfl dX8_entry__122 rfl (fun v6 e_v6 => ?_)
        refine GG_goto hk 145 dX8_entry__123 (by decide) ?_
        exact GG_iret hk hq dX8_entry__145
      · refine GG_aload_n hk (pc' := 103) 1 dX8_entry__102 rfl rfl rfl ?_
        refine GG_get hk LC8 0 (v := .ref (kh k + 164)) (pc' := 106) tw_842 rfl rfl (by decide) rfl dX8_entry__103 rfl ?_
        refine GG_iload hk (pc' := 108) 3 dX8_entry__106 rfl rfl ?_
        refine GG_iconst hk (pc' := 109) 3 dX8_entry__108 rfl rfl ?_
        refine GG_iadd hk (pc' := 110) dX8_entry__109 rfl ?_
        refine GG_iald hk (pc' := 111) rfl rfl dX8_entry__110 rfl (fun v7 e_v7 => ?_)
        refine GG_goto hk 145 dX8_entry__111 (by decide) ?_
        exact GG_iret hk hq dX8_entry__145
  · refine GG_iload hk (pc' := 88) 4 dX8_entry__86 rfl rfl ?_
    refine GG_goto hk 145 dX8_entry__88 (by decide) ?_
    exact GG_iret hk hq dX8_entry__145
noncomputable def f_X8_entry__75  (M : Mem) (l3 : Int32) (l4 : Int32) (l5 : Int32) : Option (Int32 × Mem) :=
    f_X8_entry__80  M l3 l4 l5 1
set_option maxRecDepth 20000 in
theorem m_X8_entry__75 {k : KT} {q : Int32 × Mem} (hk : CX k cX8_entry_ RX8 7 (some .int) 3) (hq : RI k q) (M : Mem) (l3 : Int32) (l4 : Int32) (l5 : Int32)  : GG k q (wM k M) 75 [(0, .ref (kh k + 163)), (3, .int l3), (4, .int l4), (5, .int l5)] [] (f_X8_entry__75  M l3 l4 l5) := by
  unfold f_X8_entry__75
  refine GG_iconst hk (pc' := 76) 1 dX8_entry__75 rfl rfl ?_
  refine GG_goto hk 80 dX8_entry__76 (by decide) ?_
  exact m_X8_entry__80 hk hq  M l3 l4 l5 1 
noncomputable def f_X8_entry_ (M : Mem) (l1 : Int32) (l2 : Int32) (l3 : Int32) : Option (Int32 × Mem) :=
    Option.bind (f_X8_isLayer M l1) fun z1 =>
    if z1.1 = 0 then
      Option.bind (f_X8_no z1.2 (-1)) fun z3 =>
      some (z3.1, z3.2)
    else
      Option.bind (f_X8_isKey z1.2 l2) fun z4 =>
      if z4.1 = 0 then
        Option.bind (f_X8_no z4.2 (-1)) fun z6 =>
        some (z6.1, z6.2)
      else
        Option.bind (f_X8_has z4.2 l1 l2) fun z7 =>
        if ¬ z7.1 = 0 then
          Option.bind (f_X8_isIn z7.2 l3 0 2) fun z9 =>
          if ¬ z9.1 = 0 then
            Option.bind (f_X8_entryAt z9.2 l1 l2) fun z11 =>
            Option.bind (rd 640 (z11.2 164) (z11.1 + 0)) fun v12 =>
            if v12 = 2 then
              f_X8_entry__75  z11.2 l3 z11.1 v12
            else
              if ¬ v12 = 3 then
                f_X8_entry__80  z11.2 l3 z11.1 v12 0
              else
                f_X8_entry__75  z11.2 l3 z11.1 v12
          else
            Option.bind (f_X8_no z9.2 (-2)) fun z15 =>
            some (z15.1, z15.2)
        else
          Option.bind (f_X8_no z7.2 (-1)) fun z16 =>
          some (z16.1, z16.2)
set_option maxRecDepth 20000 in
theorem m_X8_entry_ {k : KT} {q : Int32 × Mem} (hk : CX k cX8_entry_ RX8 7 (some .int) 3) (hq : RI k q) (M : Mem) (l1 : Int32) (l2 : Int32) (l3 : Int32)  : GG k q (wM k M) 0 [(0, .ref (kh k + 163)), (1, .int l1), (2, .int l2), (3, .int l3)] [] (f_X8_entry_ M l1 l2 l3) := by
  unfold f_X8_entry_
  refine GG_iload_n hk (pc' := 1) 1 dX8_entry__0 rfl rfl rfl ?_
  refine GG_callSi hk (st := []) (pc' := 4) mf_X8_isLayer tw_933 (c_X8_isLayer _ _ _ M l1 ) (by omega) tw_932 rfl rfl (Nat.le_of_ble_eq_true rfl) dX8_entry__1 rfl (fun z1 e_z1 => ?_)
  refine GG_if_eq hk 23 (pc' := 7) dX8_entry__4 rfl (by decide) (fun c2 => ?_) (fun c2 => ?_)
  · refine GG_aload_n hk (pc' := 24) 0 dX8_entry__23 rfl rfl rfl ?_
    refine GG_iconst hk (pc' := 25) (-1) dX8_entry__24 rfl rfl ?_
    refine GG_callVi hk (st := []) (pc' := 28) mf_X8_no mv_X8_no LC8 rfl (c_X8_no _ _ _ z1.2 (-1) ) (by omega) tw_938 rfl rfl rfl (Nat.le_of_ble_eq_true rfl) dX8_entry__25 rfl (fun z3 e_z3 => ?_)
    exact GG_iret hk hq dX8_entry__28
  · refine GG_iload_n hk (pc' := 8) 2 dX8_entry__7 rfl rfl rfl ?_
    refine GG_callSi hk (st := []) (pc' := 11) mf_X8_isKey tw_951 (c_X8_isKey _ _ _ z1.2 l2 ) (by omega) tw_950 rfl rfl (Nat.le_of_ble_eq_true rfl) dX8_entry__8 rfl (fun z4 e_z4 => ?_)
    refine GG_if_eq hk 23 (pc' := 14) dX8_entry__11 rfl (by decide) (fun c5 => ?_) (fun c5 => ?_)
    · refine GG_aload_n hk (pc' := 24) 0 dX8_entry__23 rfl rfl rfl ?_
      refine GG_iconst hk (pc' := 25) (-1) dX8_entry__24 rfl rfl ?_
      refine GG_callVi hk (st := []) (pc' := 28) mf_X8_no mv_X8_no LC8 rfl (c_X8_no _ _ _ z4.2 (-1) ) (by omega) tw_938 rfl rfl rfl (Nat.le_of_ble_eq_true rfl) dX8_entry__25 rfl (fun z6 e_z6 => ?_)
      exact GG_iret hk hq dX8_entry__28
    · refine GG_aload_n hk (pc' := 15) 0 dX8_entry__14 rfl rfl rfl ?_
      refine GG_iload_n hk (pc' := 16) 1 dX8_entry__15 rfl rfl rfl ?_
      refine GG_iload_n hk (pc' := 17) 2 dX8_entry__16 rfl rfl rfl ?_
      refine GG_callVi hk (st := []) (pc' := 20) mf_X8_has mv_X8_has LC8 rfl (c_X8_has _ _ _ z4.2 l1 l2 ) (by omega) tw_968 rfl rfl rfl (Nat.le_of_ble_eq_true rfl) dX8_entry__17 rfl (fun z7 e_z7 => ?_)
      refine GG_if_ne hk 29 (pc' := 23) dX8_entry__20 rfl (by decide) (fun c8 => ?_) (fun c8 => ?_)
      · refine GG_iload_n hk (pc' := 30) 3 dX8_entry__29 rfl rfl rfl ?_
        refine GG_iconst hk (pc' := 31) 0 dX8_entry__30 rfl rfl ?_
        refine GG_iconst hk (pc' := 32) 2 dX8_entry__31 rfl rfl ?_
        refine GG_callSi hk (st := []) (pc' := 35) mf_X8_isIn tw_936 (c_X8_isIn _ _ _ z7.2 l3 0 2 ) (by omega) tw_935 rfl rfl (Nat.le_of_ble_eq_true rfl) dX8_entry__32 rfl (fun z9 e_z9 => ?_)
        refine GG_if_ne hk 45 (pc' := 38) dX8_entry__35 rfl (by decide) (fun c10 => ?_) (fun c10 => ?_)
        · refine GG_iload_n hk (pc' := 46) 1 dX8_entry__45 rfl rfl rfl ?_
          refine GG_iload_n hk (pc' := 47) 2 dX8_entry__46 rfl rfl rfl ?_
          refine GG_callSi hk (st := []) (pc' := 50) mf_X8_entryAt tw_962 (c_X8_entryAt _ _ _ z9.2 l1 l2 ) (by omega) tw_961 rfl rfl (Nat.le_of_ble_eq_true rfl) dX8_entry__47 rfl (fun z11 e_z11 => ?_)
          refine GG_istore hk (pc' := 52) [(4, .int z11.1), (0, .ref (kh k + 163)), (1, .int l1), (2, .int l2), (3, .int l3)] dX8_entry__50 rfl (by decide) rfl ?_
          refine GG_aload_n hk (pc' := 53) 1 dX8_entry__52 rfl rfl rfl ?_
          refine GG_get hk LC8 0 (v := .ref (kh k + 164)) (pc' := 56) tw_842 rfl rfl (by decide) rfl dX8_entry__53 rfl ?_
          refine GG_iload hk (pc' := 58) 0 dX8_entry__56 rfl rfl ?_
          refine GG_iconst hk (pc' := 59) 0 dX8_entry__58 rfl rfl ?_
          refine GG_iadd hk (pc' := 60) dX8_entry__59 rfl ?_
          refine GG_iald hk (pc' := 61) rfl rfl dX8_entry__60 rfl (fun v12 e_v12 => ?_)
          refine GG_istore hk (pc' := 63) [(5, .int v12), (4, .int z11.1), (0, .ref (kh k + 163)), (1, .int l1), (2, .int l2), (3, .int l3)] dX8_entry__61 rfl (by decide) rfl ?_
          refine GG_iload hk (pc' := 65) 0 dX8_entry__63 rfl rfl ?_
          refine GG_iconst hk (pc' := 66) 2 dX8_entry__65 rfl rfl ?_
          refine GG_icmp_eq hk 75 (pc' := 69) dX8_entry__66 rfl (by decide) (fun c13 => ?_) (fun c13 => ?_)
          · refine GG_sub (L' := [(0, .ref (kh k + 163)), (3, .int l3), (4, .int z11.1), (5, .int v12)]) [2, 5, 1, 0] rfl ?_
            exact m_X8_entry__75 hk hq  z11.2 l3 z11.1 v12 
          · refine GG_iload hk (pc' := 71) 0 dX8_entry__69 rfl rfl ?_
            refine GG_iconst hk (pc' := 72) 3 dX8_entry__71 rfl rfl ?_
            refine GG_icmp_ne hk 79 (pc' := 75) dX8_entry__72 rfl (by decide) (fun c14 => ?_) (fun c14 => ?_)
            · refine GG_iconst hk (pc' := 80) 0 dX8_entry__79 rfl rfl ?_
              refine GG_sub (L' := [(0, .ref (kh k + 163)), (3, .int l3), (4, .int z11.1), (5, .int v12)]) [2, 5, 1, 0] rfl ?_
              exact m_X8_entry__80 hk hq  z11.2 l3 z11.1 v12 0 
            · refine GG_sub (L' := [(0, .ref (kh k + 163)), (3, .int l3), (4, .int z11.1), (5, .int v12)]) [2, 5, 1, 0] rfl ?_
              exact m_X8_entry__75 hk hq  z11.2 l3 z11.1 v12 
        · refine GG_aload_n hk (pc' := 39) 0 dX8_entry__38 rfl rfl rfl ?_
          refine GG_bipush hk (pc' := 41) (-2) dX8_entry__39 rfl rfl ?_
          refine GG_callVi hk (st := []) (pc' := 44) mf_X8_no mv_X8_no LC8 rfl (c_X8_no _ _ _ z9.2 (-2) ) (by omega) tw_938 rfl rfl rfl (Nat.le_of_ble_eq_true rfl) dX8_entry__41 rfl (fun z15 e_z15 => ?_)
          exact GG_iret hk hq dX8_entry__44
      · refine GG_aload_n hk (pc' := 24) 0 dX8_entry__23 rfl rfl rfl ?_
        refine GG_iconst hk (pc' := 25) (-1) dX8_entry__24 rfl rfl ?_
        refine GG_callVi hk (st := []) (pc' := 28) mf_X8_no mv_X8_no LC8 rfl (c_X8_no _ _ _ z7.2 (-1) ) (by omega) tw_938 rfl rfl rfl (Nat.le_of_ble_eq_true rfl) dX8_entry__25 rfl (fun z16 e_z16 => ?_)
        exact GG_iret hk hq dX8_entry__28
theorem c_X8_entry_ (l : Launch) (C : DD) (a : Nat) (M : Mem) (l1 : Int32) (l2 : Int32) (l3 : Int32)  : CI l C (a) yX8_entry_ cX8_entry_ 7 .int 3 [.ref (a + 163), .int l1, .int l2, .int l3] M (f_X8_entry_ M l1 l2 l3) := by
  refine CI_of RX8 (by decide +kernel) rfl (Nat.le_of_ble_eq_true rfl) (fun k q hk hq e1 e2 e3 => ?_)
  subst e1; subst e2; subst e3
  exact m_X8_entry_ hk hq M l1 l2 l3 

/-! SettingsInLayersModel.value(II)I -/
noncomputable def f_X8_value (M : Mem) (l1 : Int32) (l2 : Int32) : Option (Int32 × Mem) :=
    Option.bind (f_X8_isKey M l1) fun z1 =>
    if ¬ z1.1 = 0 then
      Option.bind (f_X8_isIn z1.2 l2 0 3) fun z3 =>
      if ¬ z3.1 = 0 then
        if ¬ l2 = 2 then
          if ¬ l2 = 3 then
            Option.bind (f_X8_resolves z3.2 l1) fun z7 =>
            if ¬ z7.1 = 0 then
              if ¬ l2 = 0 then
                Option.bind (rd 12 (z7.2 171) 0) fun v10 =>
                if ¬ v10 = 1 then
                  Option.bind (rd 12 (z7.2 172) 0) fun v12 =>
                  some (v12, z7.2)
                else
                  Option.bind (rd 12 (z7.2 173) 0) fun v13 =>
                  some (v13, z7.2)
              else
                Option.bind (rd 12 (z7.2 171) 0) fun v14 =>
                some (v14, z7.2)
            else
              if ¬ l2 = 0 then
                Option.bind (rd 80 (z7.2 180) 0) fun v16 =>
                some (v16, z7.2)
              else
                some (2, z7.2)
          else
            Option.bind (f_X8_offers z3.2 l1) fun z17 =>
            some (z17.1, z17.2)
        else
          Option.bind (f_X8_offers z3.2 l1) fun z18 =>
          Option.bind (f_X8_ones z18.2 z18.1) fun z19 =>
          some (z19.1, z19.2)
      else
        Option.bind (f_X8_no z3.2 (-2)) fun z20 =>
        some (z20.1, z20.2)
    else
      Option.bind (f_X8_no z1.2 (-1)) fun z21 =>
      some (z21.1, z21.2)
set_option maxRecDepth 20000 in
theorem m_X8_value {k : KT} {q : Int32 × Mem} (hk : CX k cX8_value RX8 3 (some .int) 222) (hq : RI k q) (M : Mem) (l1 : Int32) (l2 : Int32)  : GG k q (wM k M) 0 [(0, .ref (kh k + 163)), (1, .int l1), (2, .int l2)] [] (f_X8_value M l1 l2) := by
  unfold f_X8_value
  refine GG_iload_n hk (pc' := 1) 1 dX8_value_0 rfl rfl rfl ?_
  refine GG_callSi hk (st := []) (pc' := 4) mf_X8_isKey tw_951 (c_X8_isKey _ _ _ M l1 ) (by omega) tw_950 rfl rfl (Nat.le_of_ble_eq_true rfl) dX8_value_1 rfl (fun z1 e_z1 => ?_)
  refine GG_if_ne hk 13 (pc' := 7) dX8_value_4 rfl (by decide) (fun c2 => ?_) (fun c2 => ?_)
  · refine GG_iload_n hk (pc' := 14) 2 dX8_value_13 rfl rfl rfl ?_
    refine GG_iconst hk (pc' := 15) 0 dX8_value_14 rfl rfl ?_
    refine GG_iconst hk (pc' := 16) 3 dX8_value_15 rfl rfl ?_
    refine GG_callSi hk (st := []) (pc' := 19) mf_X8_isIn tw_936 (c_X8_isIn _ _ _ z1.2 l2 0 3 ) (by omega) tw_935 rfl rfl (Nat.le_of_ble_eq_true rfl) dX8_value_16 rfl (fun z3 e_z3 => ?_)
    refine GG_if_ne hk 29 (pc' := 22) dX8_value_19 rfl (by decide) (fun c4 => ?_) (fun c4 => ?_)
    · refine GG_iload_n hk (pc' := 30) 2 dX8_value_29 rfl rfl rfl ?_
      refine GG_iconst hk (pc' := 31) 2 dX8_value_30 rfl rfl ?_
      refine GG_icmp_ne hk 43 (pc' := 34) dX8_value_31 rfl (by decide) (fun c5 => ?_) (fun c5 => ?_)
      · refine GG_iload_n hk (pc' := 44) 2 dX8_value_43 rfl rfl rfl ?_
        refine GG_iconst hk (pc' := 45) 3 dX8_value_44 rfl rfl ?_
        refine GG_icmp_ne hk 54 (pc' := 48) dX8_value_45 rfl (by decide) (fun c6 => ?_) (fun c6 => ?_)
        · refine GG_aload_n hk (pc' := 55) 0 dX8_value_54 rfl rfl rfl ?_
          refine GG_iload_n hk (pc' := 56) 1 dX8_value_55 rfl rfl rfl ?_
          refine GG_callVi hk (st := []) (pc' := 59) mf_X8_resolves mv_X8_resolves LC8 rfl (c_X8_resolves _ _ _ z3.2 l1 ) (by omega) tw_1067 rfl rfl rfl (Nat.le_of_ble_eq_true rfl) dX8_value_56 rfl (fun z7 e_z7 => ?_)
          refine GG_if_ne hk 77 (pc' := 62) dX8_value_59 rfl (by decide) (fun c8 => ?_) (fun c8 => ?_)
          · refine GG_iload_n hk (pc' := 78) 2 dX8_value_77 rfl rfl rfl ?_
            refine GG_if_ne hk 90 (pc' := 81) dX8_value_78 rfl (by decide) (fun c9 => ?_) (fun c9 => ?_)
            · refine GG_aload_n hk (pc' := 91) 0 dX8_value_90 rfl rfl rfl ?_
              refine GG_get hk LC8 13 (v := .ref (kh k + 171)) (pc' := 94) tw_855 rfl rfl (by decide) rfl dX8_value_91 rfl ?_
              refine GG_iconst hk (pc' := 95) 0 dX8_value_94 rfl rfl ?_
              refine GG_iald hk (pc' := 96) rfl rfl dX8_value_95 rfl (fun v10 e_v10 => ?_)
              refine GG_iconst hk (pc' := 97) 1 dX8_value_96 rfl rfl ?_
              refine GG_icmp_ne hk 109 (pc' := 100) dX8_value_97 rfl (by decide) (fun c11 => ?_) (fun c11 => ?_)
              · refine GG_aload_n hk (pc' := 110) 0 dX8_value_109 rfl rfl rfl ?_
                refine GG_get hk LC8 14 (v := .ref (kh k + 172)) (pc' := 113) tw_856 rfl rfl (by decide) rfl dX8_value_110 rfl ?_
                refine GG_iconst hk (pc' := 114) 0 dX8_value_113 rfl rfl ?_
                refine GG_iald hk (pc' := 115) rfl rfl dX8_value_114 rfl (fun v12 e_v12 => ?_)
                exact GG_iret hk hq dX8_value_115
              · refine GG_aload_n hk (pc' := 101) 0 dX8_value_100 rfl rfl rfl ?_
                refine GG_get hk LC8 15 (v := .ref (kh k + 173)) (pc' := 104) tw_857 rfl rfl (by decide) rfl dX8_value_101 rfl ?_
                refine GG_iconst hk (pc' := 105) 0 dX8_value_104 rfl rfl ?_
                refine GG_iald hk (pc' := 106) rfl rfl dX8_value_105 rfl (fun v13 e_v13 => ?_)
                refine GG_goto hk 115 dX8_value_106 (by decide) ?_
                exact GG_iret hk hq dX8_value_115
            · refine GG_aload_n hk (pc' := 82) 0 dX8_value_81 rfl rfl rfl ?_
              refine GG_get hk LC8 13 (v := .ref (kh k + 171)) (pc' := 85) tw_855 rfl rfl (by decide) rfl dX8_value_82 rfl ?_
              refine GG_iconst hk (pc' := 86) 0 dX8_value_85 rfl rfl ?_
              refine GG_iald hk (pc' := 87) rfl rfl dX8_value_86 rfl (fun v14 e_v14 => ?_)
              refine GG_goto hk 115 dX8_value_87 (by decide) ?_
              exact GG_iret hk hq dX8_value_115
          · refine GG_iload_n hk (pc' := 63) 2 dX8_value_62 rfl rfl rfl ?_
            refine GG_if_ne hk 70 (pc' := 66) dX8_value_63 rfl (by decide) (fun c15 => ?_) (fun c15 => ?_)
            · refine GG_aload_n hk (pc' := 71) 0 dX8_value_70 rfl rfl rfl ?_
              refine GG_get hk LC8 22 (v := .ref (kh k + 180)) (pc' := 74) tw_864 rfl rfl (by decide) rfl dX8_value_71 rfl ?_
              refine GG_iconst hk (pc' := 75) 0 dX8_value_74 rfl rfl ?_
              refine GG_iald hk (pc' := 76) rfl rfl dX8_value_75 rfl (fun v16 e_v16 => ?_)
              exact GG_iret hk hq dX8_value_76
            · refine GG_iconst hk (pc' := 67) 2 dX8_value_66 rfl rfl ?_
              refine GG_goto hk 76 dX8_value_67 (by decide) ?_
              exact GG_iret hk hq dX8_value_76
        · refine GG_aload_n hk (pc' := 49) 0 dX8_value_48 rfl rfl rfl ?_
          refine GG_iload_n hk (pc' := 50) 1 dX8_value_49 rfl rfl rfl ?_
          refine GG_callVi hk (st := []) (pc' := 53) mf_X8_offers mv_X8_offers LC8 rfl (c_X8_offers _ _ _ z3.2 l1 ) (by omega) tw_1055 rfl rfl rfl (Nat.le_of_ble_eq_true rfl) dX8_value_50 rfl (fun z17 e_z17 => ?_)
          exact GG_iret hk hq dX8_value_53
      · refine GG_aload_n hk (pc' := 35) 0 dX8_value_34 rfl rfl rfl ?_
        refine GG_iload_n hk (pc' := 36) 1 dX8_value_35 rfl rfl rfl ?_
        refine GG_callVi hk (st := []) (pc' := 39) mf_X8_offers mv_X8_offers LC8 rfl (c_X8_offers _ _ _ z3.2 l1 ) (by omega) tw_1055 rfl rfl rfl (Nat.le_of_ble_eq_true rfl) dX8_value_36 rfl (fun z18 e_z18 => ?_)
        refine GG_callSi hk (st := []) (pc' := 42) mf_X8_ones tw_998 (c_X8_ones _ _ _ z18.2 z18.1 ) (by omega) tw_997 rfl rfl (Nat.le_of_ble_eq_true rfl) dX8_value_39 rfl (fun z19 e_z19 => ?_)
        exact GG_iret hk hq dX8_value_42
    · refine GG_aload_n hk (pc' := 23) 0 dX8_value_22 rfl rfl rfl ?_
      refine GG_bipush hk (pc' := 25) (-2) dX8_value_23 rfl rfl ?_
      refine GG_callVi hk (st := []) (pc' := 28) mf_X8_no mv_X8_no LC8 rfl (c_X8_no _ _ _ z3.2 (-2) ) (by omega) tw_938 rfl rfl rfl (Nat.le_of_ble_eq_true rfl) dX8_value_25 rfl (fun z20 e_z20 => ?_)
      exact GG_iret hk hq dX8_value_28
  · refine GG_aload_n hk (pc' := 8) 0 dX8_value_7 rfl rfl rfl ?_
    refine GG_iconst hk (pc' := 9) (-1) dX8_value_8 rfl rfl ?_
    refine GG_callVi hk (st := []) (pc' := 12) mf_X8_no mv_X8_no LC8 rfl (c_X8_no _ _ _ z1.2 (-1) ) (by omega) tw_938 rfl rfl rfl (Nat.le_of_ble_eq_true rfl) dX8_value_9 rfl (fun z21 e_z21 => ?_)
    exact GG_iret hk hq dX8_value_12
theorem c_X8_value (l : Launch) (C : DD) (a : Nat) (M : Mem) (l1 : Int32) (l2 : Int32)  : CI l C (a) yX8_value cX8_value 3 .int 222 [.ref (a + 163), .int l1, .int l2] M (f_X8_value M l1 l2) := by
  refine CI_of RX8 (by decide +kernel) rfl (Nat.le_of_ble_eq_true rfl) (fun k q hk hq e1 e2 e3 => ?_)
  subst e1; subst e2; subst e3
  exact m_X8_value hk hq M l1 l2 

/-! SettingsInLayersModel.item(III)I -/
noncomputable def f_X8_item (M : Mem) (l1 : Int32) (l2 : Int32) (l3 : Int32) : Option (Int32 × Mem) :=
    Option.bind (f_X8_isKey M l1) fun z1 =>
    if z1.1 = 0 then
      Option.bind (f_X8_no z1.2 (-1)) fun z3 =>
      some (z3.1, z3.2)
    else
      Option.bind (f_X8_resolves z1.2 l1) fun z4 =>
      if z4.1 = 0 then
        Option.bind (f_X8_no z4.2 (-1)) fun z6 =>
        some (z6.1, z6.2)
      else
        Option.bind (rd 12 (z4.2 171) 0) fun v7 =>
        if ¬ v7 = 1 then
          Option.bind (f_X8_no z4.2 (-1)) fun z9 =>
          some (z9.1, z9.2)
        else
          Option.bind (rd 12 (z4.2 173) 0) fun v10 =>
          Option.bind (f_X8_isIn z4.2 l2 0 (v10 - 1)) fun z11 =>
          if ¬ z11.1 = 0 then
            if ¬ l3 = 0 then
              if ¬ l3 = 1 then
                if ¬ l3 = 2 then
                  Option.bind (f_X8_no z11.2 (-2)) fun z16 =>
                  some (z16.1, z16.2)
                else
                  Option.bind (rd 120 (z11.2 178) l2) fun v17 =>
                  some (v17, z11.2)
              else
                Option.bind (rd 120 (z11.2 177) l2) fun v18 =>
                some (v18, z11.2)
            else
              Option.bind (rd 120 (z11.2 176) l2) fun v19 =>
              some (v19, z11.2)
          else
            Option.bind (f_X8_no z11.2 (-1)) fun z20 =>
            some (z20.1, z20.2)
set_option maxRecDepth 20000 in
theorem m_X8_item {k : KT} {q : Int32 × Mem} (hk : CX k cX8_item RX8 4 (some .int) 222) (hq : RI k q) (M : Mem) (l1 : Int32) (l2 : Int32) (l3 : Int32)  : GG k q (wM k M) 0 [(0, .ref (kh k + 163)), (1, .int l1), (2, .int l2), (3, .int l3)] [] (f_X8_item M l1 l2 l3) := by
  unfold f_X8_item
  refine GG_iload_n hk (pc' := 1) 1 dX8_item_0 rfl rfl rfl ?_
  refine GG_callSi hk (st := []) (pc' := 4) mf_X8_isKey tw_951 (c_X8_isKey _ _ _ M l1 ) (by omega) tw_950 rfl rfl (Nat.le_of_ble_eq_true rfl) dX8_item_1 rfl (fun z1 e_z1 => ?_)
  refine GG_if_eq hk 41 (pc' := 7) dX8_item_4 rfl (by decide) (fun c2 => ?_) (fun c2 => ?_)
  · refine GG_aload_n hk (pc' := 42) 0 dX8_item_41 rfl rfl rfl ?_
    refine GG_iconst hk (pc' := 43) (-1) dX8_item_42 rfl rfl ?_
    refine GG_callVi hk (st := []) (pc' := 46) mf_X8_no mv_X8_no LC8 rfl (c_X8_no _ _ _ z1.2 (-1) ) (by omega) tw_938 rfl rfl rfl (Nat.le_of_ble_eq_true rfl) dX8_item_43 rfl (fun z3 e_z3 => ?_)
    exact GG_iret hk hq dX8_item_46
  · refine GG_aload_n hk (pc' := 8) 0 dX8_item_7 rfl rfl rfl ?_
    refine GG_iload_n hk (pc' := 9) 1 dX8_item_8 rfl rfl rfl ?_
    refine GG_callVi hk (st := []) (pc' := 12) mf_X8_resolves mv_X8_resolves LC8 rfl (c_X8_resolves _ _ _ z1.2 l1 ) (by omega) tw_1067 rfl rfl rfl (Nat.le_of_ble_eq_true rfl) dX8_item_9 rfl (fun z4 e_z4 => ?_)
    refine GG_if_eq hk 41 (pc' := 15) dX8_item_12 rfl (by decide) (fun c5 => ?_) (fun c5 => ?_)
    · refine GG_aload_n hk (pc' := 42) 0 dX8_item_41 rfl rfl rfl ?_
      refine GG_iconst hk (pc' := 43) (-1) dX8_item_42 rfl rfl ?_
      refine GG_callVi hk (st := []) (pc' := 46) mf_X8_no mv_X8_no LC8 rfl (c_X8_no _ _ _ z4.2 (-1) ) (by omega) tw_938 rfl rfl rfl (Nat.le_of_ble_eq_true rfl) dX8_item_43 rfl (fun z6 e_z6 => ?_)
      exact GG_iret hk hq dX8_item_46
    · refine GG_aload_n hk (pc' := 16) 0 dX8_item_15 rfl rfl rfl ?_
      refine GG_get hk LC8 13 (v := .ref (kh k + 171)) (pc' := 19) tw_855 rfl rfl (by decide) rfl dX8_item_16 rfl ?_
      refine GG_iconst hk (pc' := 20) 0 dX8_item_19 rfl rfl ?_
      refine GG_iald hk (pc' := 21) rfl rfl dX8_item_20 rfl (fun v7 e_v7 => ?_)
      refine GG_iconst hk (pc' := 22) 1 dX8_item_21 rfl rfl ?_
      refine GG_icmp_ne hk 41 (pc' := 25) dX8_item_22 rfl (by decide) (fun c8 => ?_) (fun c8 => ?_)
      · refine GG_aload_n hk (pc' := 42) 0 dX8_item_41 rfl rfl rfl ?_
        refine GG_iconst hk (pc' := 43) (-1) dX8_item_42 rfl rfl ?_
        refine GG_callVi hk (st := []) (pc' := 46) mf_X8_no mv_X8_no LC8 rfl (c_X8_no _ _ _ z4.2 (-1) ) (by omega) tw_938 rfl rfl rfl (Nat.le_of_ble_eq_true rfl) dX8_item_43 rfl (fun z9 e_z9 => ?_)
        exact GG_iret hk hq dX8_item_46
      · refine GG_iload_n hk (pc' := 26) 2 dX8_item_25 rfl rfl rfl ?_
        refine GG_iconst hk (pc' := 27) 0 dX8_item_26 rfl rfl ?_
        refine GG_aload_n hk (pc' := 28) 0 dX8_item_27 rfl rfl rfl ?_
        refine GG_get hk LC8 15 (v := .ref (kh k + 173)) (pc' := 31) tw_857 rfl rfl (by decide) rfl dX8_item_28 rfl ?_
        refine GG_iconst hk (pc' := 32) 0 dX8_item_31 rfl rfl ?_
        refine GG_iald hk (pc' := 33) rfl rfl dX8_item_32 rfl (fun v10 e_v10 => ?_)
        refine GG_iconst hk (pc' := 34) 1 dX8_item_33 rfl rfl ?_
        refine GG_isub hk (pc' := 35) dX8_item_34 rfl ?_
        refine GG_callSi hk (st := []) (pc' := 38) mf_X8_isIn tw_936 (c_X8_isIn _ _ _ z4.2 l2 0 (v10 - 1) ) (by omega) tw_935 rfl rfl (Nat.le_of_ble_eq_true rfl) dX8_item_35 rfl (fun z11 e_z11 => ?_)
        refine GG_if_ne hk 47 (pc' := 41) dX8_item_38 rfl (by decide) (fun c12 => ?_) (fun c12 => ?_)
        · refine GG_iload_n hk (pc' := 48) 3 dX8_item_47 rfl rfl rfl ?_
          refine GG_if_ne hk 60 (pc' := 51) dX8_item_48 rfl (by decide) (fun c13 => ?_) (fun c13 => ?_)
          · refine GG_iload_n hk (pc' := 61) 3 dX8_item_60 rfl rfl rfl ?_
            refine GG_iconst hk (pc' := 62) 1 dX8_item_61 rfl rfl ?_
            refine GG_icmp_ne hk 74 (pc' := 65) dX8_item_62 rfl (by decide) (fun c14 => ?_) (fun c14 => ?_)
            · refine GG_iload_n hk (pc' := 75) 3 dX8_item_74 rfl rfl rfl ?_
              refine GG_iconst hk (pc' := 76) 2 dX8_item_75 rfl rfl ?_
              refine GG_icmp_ne hk 88 (pc' := 79) dX8_item_76 rfl (by decide) (fun c15 => ?_) (fun c15 => ?_)
              · refine GG_aload_n hk (pc' := 89) 0 dX8_item_88 rfl rfl rfl ?_
                refine GG_bipush hk (pc' := 91) (-2) dX8_item_89 rfl rfl ?_
                refine GG_callVi hk (st := []) (pc' := 94) mf_X8_no mv_X8_no LC8 rfl (c_X8_no _ _ _ z11.2 (-2) ) (by omega) tw_938 rfl rfl rfl (Nat.le_of_ble_eq_true rfl) dX8_item_91 rfl (fun z16 e_z16 => ?_)
                exact GG_iret hk hq dX8_item_94
              · refine GG_aload_n hk (pc' := 80) 0 dX8_item_79 rfl rfl rfl ?_
                refine GG_get hk LC8 20 (v := .ref (kh k + 178)) (pc' := 83) tw_862 rfl rfl (by decide) rfl dX8_item_80 rfl ?_
                refine GG_iload_n hk (pc' := 84) 2 dX8_item_83 rfl rfl rfl ?_
                refine GG_iald hk (pc' := 85) rfl rfl dX8_item_84 rfl (fun v17 e_v17 => ?_)
                refine GG_goto hk 94 dX8_item_85 (by decide) ?_
                exact GG_iret hk hq dX8_item_94
            · refine GG_aload_n hk (pc' := 66) 0 dX8_item_65 rfl rfl rfl ?_
              refine GG_get hk LC8 19 (v := .ref (kh k + 177)) (pc' := 69) tw_861 rfl rfl (by decide) rfl dX8_item_66 rfl ?_
              refine GG_iload_n hk (pc' := 70) 2 dX8_item_69 rfl rfl rfl ?_
              refine GG_iald hk (pc' := 71) rfl rfl dX8_item_70 rfl (fun v18 e_v18 => ?_)
              refine GG_goto hk 94 dX8_item_71 (by decide) ?_
              exact GG_iret hk hq dX8_item_94
          · refine GG_aload_n hk (pc' := 52) 0 dX8_item_51 rfl rfl rfl ?_
            refine GG_get hk LC8 18 (v := .ref (kh k + 176)) (pc' := 55) tw_860 rfl rfl (by decide) rfl dX8_item_52 rfl ?_
            refine GG_iload_n hk (pc' := 56) 2 dX8_item_55 rfl rfl rfl ?_
            refine GG_iald hk (pc' := 57) rfl rfl dX8_item_56 rfl (fun v19 e_v19 => ?_)
            refine GG_goto hk 94 dX8_item_57 (by decide) ?_
            exact GG_iret hk hq dX8_item_94
        · refine GG_aload_n hk (pc' := 42) 0 dX8_item_41 rfl rfl rfl ?_
          refine GG_iconst hk (pc' := 43) (-1) dX8_item_42 rfl rfl ?_
          refine GG_callVi hk (st := []) (pc' := 46) mf_X8_no mv_X8_no LC8 rfl (c_X8_no _ _ _ z11.2 (-1) ) (by omega) tw_938 rfl rfl rfl (Nat.le_of_ble_eq_true rfl) dX8_item_43 rfl (fun z20 e_z20 => ?_)
          exact GG_iret hk hq dX8_item_46
theorem c_X8_item (l : Launch) (C : DD) (a : Nat) (M : Mem) (l1 : Int32) (l2 : Int32) (l3 : Int32)  : CI l C (a) yX8_item cX8_item 4 .int 222 [.ref (a + 163), .int l1, .int l2, .int l3] M (f_X8_item M l1 l2 l3) := by
  refine CI_of RX8 (by decide +kernel) rfl (Nat.le_of_ble_eq_true rfl) (fun k q hk hq e1 e2 e3 => ?_)
  subst e1; subst e2; subst e3
  exact m_X8_item hk hq M l1 l2 l3 

/-! SettingsInLayersModel.fault(III)I -/
noncomputable def f_X8_fault (M : Mem) (l1 : Int32) (l2 : Int32) (l3 : Int32) : Option (Int32 × Mem) :=
    Option.bind (f_X8_isKey M l1) fun z1 =>
    if z1.1 = 0 then
      Option.bind (f_X8_no z1.2 (-1)) fun z3 =>
      some (z3.1, z3.2)
    else
      Option.bind (f_X8_resolves z1.2 l1) fun z4 =>
      if ¬ z4.1 = 0 then
        Option.bind (f_X8_no z4.2 (-1)) fun z6 =>
        some (z6.1, z6.2)
      else
        Option.bind (f_X8_isIn z4.2 l2 0 ((z4.2 163 24) - 1)) fun z7 =>
        if ¬ z7.1 = 0 then
          if ¬ l3 = 0 then
            if ¬ l3 = 1 then
              Option.bind (f_X8_no z7.2 (-2)) fun z11 =>
              some (z11.1, z11.2)
            else
              Option.bind (rd 80 (z7.2 181) l2) fun v12 =>
              some (v12, z7.2)
          else
            Option.bind (rd 80 (z7.2 180) l2) fun v13 =>
            some (v13, z7.2)
        else
          Option.bind (f_X8_no z7.2 (-1)) fun z14 =>
          some (z14.1, z14.2)
set_option maxRecDepth 20000 in
theorem m_X8_fault {k : KT} {q : Int32 × Mem} (hk : CX k cX8_fault RX8 4 (some .int) 222) (hq : RI k q) (M : Mem) (l1 : Int32) (l2 : Int32) (l3 : Int32)  : GG k q (wM k M) 0 [(0, .ref (kh k + 163)), (1, .int l1), (2, .int l2), (3, .int l3)] [] (f_X8_fault M l1 l2 l3) := by
  unfold f_X8_fault
  refine GG_iload_n hk (pc' := 1) 1 dX8_fault_0 rfl rfl rfl ?_
  refine GG_callSi hk (st := []) (pc' := 4) mf_X8_isKey tw_951 (c_X8_isKey _ _ _ M l1 ) (by omega) tw_950 rfl rfl (Nat.le_of_ble_eq_true rfl) dX8_fault_1 rfl (fun z1 e_z1 => ?_)
  refine GG_if_eq hk 29 (pc' := 7) dX8_fault_4 rfl (by decide) (fun c2 => ?_) (fun c2 => ?_)
  · refine GG_aload_n hk (pc' := 30) 0 dX8_fault_29 rfl rfl rfl ?_
    refine GG_iconst hk (pc' := 31) (-1) dX8_fault_30 rfl rfl ?_
    refine GG_callVi hk (st := []) (pc' := 34) mf_X8_no mv_X8_no LC8 rfl (c_X8_no _ _ _ z1.2 (-1) ) (by omega) tw_938 rfl rfl rfl (Nat.le_of_ble_eq_true rfl) dX8_fault_31 rfl (fun z3 e_z3 => ?_)
    exact GG_iret hk hq dX8_fault_34
  · refine GG_aload_n hk (pc' := 8) 0 dX8_fault_7 rfl rfl rfl ?_
    refine GG_iload_n hk (pc' := 9) 1 dX8_fault_8 rfl rfl rfl ?_
    refine GG_callVi hk (st := []) (pc' := 12) mf_X8_resolves mv_X8_resolves LC8 rfl (c_X8_resolves _ _ _ z1.2 l1 ) (by omega) tw_1067 rfl rfl rfl (Nat.le_of_ble_eq_true rfl) dX8_fault_9 rfl (fun z4 e_z4 => ?_)
    refine GG_if_ne hk 29 (pc' := 15) dX8_fault_12 rfl (by decide) (fun c5 => ?_) (fun c5 => ?_)
    · refine GG_aload_n hk (pc' := 30) 0 dX8_fault_29 rfl rfl rfl ?_
      refine GG_iconst hk (pc' := 31) (-1) dX8_fault_30 rfl rfl ?_
      refine GG_callVi hk (st := []) (pc' := 34) mf_X8_no mv_X8_no LC8 rfl (c_X8_no _ _ _ z4.2 (-1) ) (by omega) tw_938 rfl rfl rfl (Nat.le_of_ble_eq_true rfl) dX8_fault_31 rfl (fun z6 e_z6 => ?_)
      exact GG_iret hk hq dX8_fault_34
    · refine GG_iload_n hk (pc' := 16) 2 dX8_fault_15 rfl rfl rfl ?_
      refine GG_iconst hk (pc' := 17) 0 dX8_fault_16 rfl rfl ?_
      refine GG_aload_n hk (pc' := 18) 0 dX8_fault_17 rfl rfl rfl ?_
      refine GG_get hk LC8 24 (v := .int (z4.2 163 24)) (pc' := 21) tw_866 rfl rfl (by decide) rfl dX8_fault_18 rfl ?_
      refine GG_iconst hk (pc' := 22) 1 dX8_fault_21 rfl rfl ?_
      refine GG_isub hk (pc' := 23) dX8_fault_22 rfl ?_
      refine GG_callSi hk (st := []) (pc' := 26) mf_X8_isIn tw_936 (c_X8_isIn _ _ _ z4.2 l2 0 ((z4.2 163 24) - 1) ) (by omega) tw_935 rfl rfl (Nat.le_of_ble_eq_true rfl) dX8_fault_23 rfl (fun z7 e_z7 => ?_)
      refine GG_if_ne hk 35 (pc' := 29) dX8_fault_26 rfl (by decide) (fun c8 => ?_) (fun c8 => ?_)
      · refine GG_iload_n hk (pc' := 36) 3 dX8_fault_35 rfl rfl rfl ?_
        refine GG_if_ne hk 48 (pc' := 39) dX8_fault_36 rfl (by decide) (fun c9 => ?_) (fun c9 => ?_)
        · refine GG_iload_n hk (pc' := 49) 3 dX8_fault_48 rfl rfl rfl ?_
          refine GG_iconst hk (pc' := 50) 1 dX8_fault_49 rfl rfl ?_
          refine GG_icmp_ne hk 62 (pc' := 53) dX8_fault_50 rfl (by decide) (fun c10 => ?_) (fun c10 => ?_)
          · refine GG_aload_n hk (pc' := 63) 0 dX8_fault_62 rfl rfl rfl ?_
            refine GG_bipush hk (pc' := 65) (-2) dX8_fault_63 rfl rfl ?_
            refine GG_callVi hk (st := []) (pc' := 68) mf_X8_no mv_X8_no LC8 rfl (c_X8_no _ _ _ z7.2 (-2) ) (by omega) tw_938 rfl rfl rfl (Nat.le_of_ble_eq_true rfl) dX8_fault_65 rfl (fun z11 e_z11 => ?_)
            exact GG_iret hk hq dX8_fault_68
          · refine GG_aload_n hk (pc' := 54) 0 dX8_fault_53 rfl rfl rfl ?_
            refine GG_get hk LC8 23 (v := .ref (kh k + 181)) (pc' := 57) tw_865 rfl rfl (by decide) rfl dX8_fault_54 rfl ?_
            refine GG_iload_n hk (pc' := 58) 2 dX8_fault_57 rfl rfl rfl ?_
            refine GG_iald hk (pc' := 59) rfl rfl dX8_fault_58 rfl (fun v12 e_v12 => ?_)
            refine GG_goto hk 68 dX8_fault_59 (by decide) ?_
            exact GG_iret hk hq dX8_fault_68
        · refine GG_aload_n hk (pc' := 40) 0 dX8_fault_39 rfl rfl rfl ?_
          refine GG_get hk LC8 22 (v := .ref (kh k + 180)) (pc' := 43) tw_864 rfl rfl (by decide) rfl dX8_fault_40 rfl ?_
          refine GG_iload_n hk (pc' := 44) 2 dX8_fault_43 rfl rfl rfl ?_
          refine GG_iald hk (pc' := 45) rfl rfl dX8_fault_44 rfl (fun v13 e_v13 => ?_)
          refine GG_goto hk 68 dX8_fault_45 (by decide) ?_
          exact GG_iret hk hq dX8_fault_68
      · refine GG_aload_n hk (pc' := 30) 0 dX8_fault_29 rfl rfl rfl ?_
        refine GG_iconst hk (pc' := 31) (-1) dX8_fault_30 rfl rfl ?_
        refine GG_callVi hk (st := []) (pc' := 34) mf_X8_no mv_X8_no LC8 rfl (c_X8_no _ _ _ z7.2 (-1) ) (by omega) tw_938 rfl rfl rfl (Nat.le_of_ble_eq_true rfl) dX8_fault_31 rfl (fun z14 e_z14 => ?_)
        exact GG_iret hk hq dX8_fault_34
theorem c_X8_fault (l : Launch) (C : DD) (a : Nat) (M : Mem) (l1 : Int32) (l2 : Int32) (l3 : Int32)  : CI l C (a) yX8_fault cX8_fault 4 .int 222 [.ref (a + 163), .int l1, .int l2, .int l3] M (f_X8_fault M l1 l2 l3) := by
  refine CI_of RX8 (by decide +kernel) rfl (Nat.le_of_ble_eq_true rfl) (fun k q hk hq e1 e2 e3 => ?_)
  subst e1; subst e2; subst e3
  exact m_X8_fault hk hq M l1 l2 l3 

/-! SettingsInLayersModel.sources(II)I -/
noncomputable def f_X8_sources (M : Mem) (l1 : Int32) (l2 : Int32) : Option (Int32 × Mem) :=
    Option.bind (f_X8_isKey M l1) fun z1 =>
    if ¬ z1.1 = 0 then
      Option.bind (f_X8_resolves z1.2 l1) fun z3 =>
      if ¬ z3.1 = 0 then
        if ¬ l2 = 0 then
          if ¬ l2 = 1 then
            Option.bind (f_X8_no z3.2 (-2)) fun z7 =>
            some (z7.1, z7.2)
          else
            Option.bind (rd 12 (z3.2 175) 0) fun v8 =>
            some (v8, z3.2)
        else
          Option.bind (rd 12 (z3.2 174) 0) fun v9 =>
          some (v9, z3.2)
      else
        Option.bind (f_X8_no z3.2 (-3)) fun z10 =>
        some (z10.1, z10.2)
    else
      Option.bind (f_X8_no z1.2 (-1)) fun z11 =>
      some (z11.1, z11.2)
set_option maxRecDepth 20000 in
theorem m_X8_sources {k : KT} {q : Int32 × Mem} (hk : CX k cX8_sources RX8 3 (some .int) 222) (hq : RI k q) (M : Mem) (l1 : Int32) (l2 : Int32)  : GG k q (wM k M) 0 [(0, .ref (kh k + 163)), (1, .int l1), (2, .int l2)] [] (f_X8_sources M l1 l2) := by
  unfold f_X8_sources
  refine GG_iload_n hk (pc' := 1) 1 dX8_sources_0 rfl rfl rfl ?_
  refine GG_callSi hk (st := []) (pc' := 4) mf_X8_isKey tw_951 (c_X8_isKey _ _ _ M l1 ) (by omega) tw_950 rfl rfl (Nat.le_of_ble_eq_true rfl) dX8_sources_1 rfl (fun z1 e_z1 => ?_)
  refine GG_if_ne hk 13 (pc' := 7) dX8_sources_4 rfl (by decide) (fun c2 => ?_) (fun c2 => ?_)
  · refine GG_aload_n hk (pc' := 14) 0 dX8_sources_13 rfl rfl rfl ?_
    refine GG_iload_n hk (pc' := 15) 1 dX8_sources_14 rfl rfl rfl ?_
    refine GG_callVi hk (st := []) (pc' := 18) mf_X8_resolves mv_X8_resolves LC8 rfl (c_X8_resolves _ _ _ z1.2 l1 ) (by omega) tw_1067 rfl rfl rfl (Nat.le_of_ble_eq_true rfl) dX8_sources_15 rfl (fun z3 e_z3 => ?_)
    refine GG_if_ne hk 28 (pc' := 21) dX8_sources_18 rfl (by decide) (fun c4 => ?_) (fun c4 => ?_)
    · refine GG_iload_n hk (pc' := 29) 2 dX8_sources_28 rfl rfl rfl ?_
      refine GG_if_ne hk 41 (pc' := 32) dX8_sources_29 rfl (by decide) (fun c5 => ?_) (fun c5 => ?_)
      · refine GG_iload_n hk (pc' := 42) 2 dX8_sources_41 rfl rfl rfl ?_
        refine GG_iconst hk (pc' := 43) 1 dX8_sources_42 rfl rfl ?_
        refine GG_icmp_ne hk 55 (pc' := 46) dX8_sources_43 rfl (by decide) (fun c6 => ?_) (fun c6 => ?_)
        · refine GG_aload_n hk (pc' := 56) 0 dX8_sources_55 rfl rfl rfl ?_
          refine GG_bipush hk (pc' := 58) (-2) dX8_sources_56 rfl rfl ?_
          refine GG_callVi hk (st := []) (pc' := 61) mf_X8_no mv_X8_no LC8 rfl (c_X8_no _ _ _ z3.2 (-2) ) (by omega) tw_938 rfl rfl rfl (Nat.le_of_ble_eq_true rfl) dX8_sources_58 rfl (fun z7 e_z7 => ?_)
          exact GG_iret hk hq dX8_sources_61
        · refine GG_aload_n hk (pc' := 47) 0 dX8_sources_46 rfl rfl rfl ?_
          refine GG_get hk LC8 17 (v := .ref (kh k + 175)) (pc' := 50) tw_859 rfl rfl (by decide) rfl dX8_sources_47 rfl ?_
          refine GG_iconst hk (pc' := 51) 0 dX8_sources_50 rfl rfl ?_
          refine GG_iald hk (pc' := 52) rfl rfl dX8_sources_51 rfl (fun v8 e_v8 => ?_)
          refine GG_goto hk 61 dX8_sources_52 (by decide) ?_
          exact GG_iret hk hq dX8_sources_61
      · refine GG_aload_n hk (pc' := 33) 0 dX8_sources_32 rfl rfl rfl ?_
        refine GG_get hk LC8 16 (v := .ref (kh k + 174)) (pc' := 36) tw_858 rfl rfl (by decide) rfl dX8_sources_33 rfl ?_
        refine GG_iconst hk (pc' := 37) 0 dX8_sources_36 rfl rfl ?_
        refine GG_iald hk (pc' := 38) rfl rfl dX8_sources_37 rfl (fun v9 e_v9 => ?_)
        refine GG_goto hk 61 dX8_sources_38 (by decide) ?_
        exact GG_iret hk hq dX8_sources_61
    · refine GG_aload_n hk (pc' := 22) 0 dX8_sources_21 rfl rfl rfl ?_
      refine GG_bipush hk (pc' := 24) (-3) dX8_sources_22 rfl rfl ?_
      refine GG_callVi hk (st := []) (pc' := 27) mf_X8_no mv_X8_no LC8 rfl (c_X8_no _ _ _ z3.2 (-3) ) (by omega) tw_938 rfl rfl rfl (Nat.le_of_ble_eq_true rfl) dX8_sources_24 rfl (fun z10 e_z10 => ?_)
      exact GG_iret hk hq dX8_sources_27
  · refine GG_aload_n hk (pc' := 8) 0 dX8_sources_7 rfl rfl rfl ?_
    refine GG_iconst hk (pc' := 9) (-1) dX8_sources_8 rfl rfl ?_
    refine GG_callVi hk (st := []) (pc' := 12) mf_X8_no mv_X8_no LC8 rfl (c_X8_no _ _ _ z1.2 (-1) ) (by omega) tw_938 rfl rfl rfl (Nat.le_of_ble_eq_true rfl) dX8_sources_9 rfl (fun z11 e_z11 => ?_)
    exact GG_iret hk hq dX8_sources_12
theorem c_X8_sources (l : Launch) (C : DD) (a : Nat) (M : Mem) (l1 : Int32) (l2 : Int32)  : CI l C (a) yX8_sources cX8_sources 3 .int 222 [.ref (a + 163), .int l1, .int l2] M (f_X8_sources M l1 l2) := by
  refine CI_of RX8 (by decide +kernel) rfl (Nat.le_of_ble_eq_true rfl) (fun k q hk hq e1 e2 e3 => ?_)
  subst e1; subst e2; subst e3
  exact m_X8_sources hk hq M l1 l2 

/-! SettingsInLayersModel.usesOf(I)I -/
noncomputable def f_X8_usesOf (M : Mem) (l1 : Int32) : Option (Int32 × Mem) :=
    Option.bind (f_X8_resolves M l1) fun z1 =>
    some (((z1.2 163 26) &&& ((1 <<< (l1 &&& 31)) ^^^ (-1))), z1.2)
set_option maxRecDepth 20000 in
theorem m_X8_usesOf {k : KT} {q : Int32 × Mem} (hk : CX k cX8_usesOf RX8 2 (some .int) 222) (hq : RI k q) (M : Mem) (l1 : Int32)  : GG k q (wM k M) 0 [(0, .ref (kh k + 163)), (1, .int l1)] [] (f_X8_usesOf M l1) := by
  unfold f_X8_usesOf
  refine GG_aload_n hk (pc' := 1) 0 dX8_usesOf_0 rfl rfl rfl ?_
  refine GG_iload_n hk (pc' := 2) 1 dX8_usesOf_1 rfl rfl rfl ?_
  refine GG_callVi hk (st := []) (pc' := 5) mf_X8_resolves mv_X8_resolves LC8 rfl (c_X8_resolves _ _ _ M l1 ) (by omega) tw_1067 rfl rfl rfl (Nat.le_of_ble_eq_true rfl) dX8_usesOf_2 rfl (fun z1 e_z1 => ?_)
  refine GG_pop hk (pc' := 6) dX8_usesOf_5 rfl rfl ?_
  refine GG_aload_n hk (pc' := 7) 0 dX8_usesOf_6 rfl rfl rfl ?_
  refine GG_get hk LC8 26 (v := .int (z1.2 163 26)) (pc' := 10) tw_868 rfl rfl (by decide) rfl dX8_usesOf_7 rfl ?_
  refine GG_iconst hk (pc' := 11) 1 dX8_usesOf_10 rfl rfl ?_
  refine GG_iload_n hk (pc' := 12) 1 dX8_usesOf_11 rfl rfl rfl ?_
  refine GG_ishl hk (pc' := 13) dX8_usesOf_12 rfl ?_
  refine GG_iconst hk (pc' := 14) (-1) dX8_usesOf_13 rfl rfl ?_
  refine GG_ixor hk (pc' := 15) dX8_usesOf_14 rfl ?_
  refine GG_iand hk (pc' := 16) dX8_usesOf_15 rfl ?_
  exact GG_iret hk hq dX8_usesOf_16
theorem c_X8_usesOf (l : Launch) (C : DD) (a : Nat) (M : Mem) (l1 : Int32)  : CI l C (a) yX8_usesOf cX8_usesOf 2 .int 222 [.ref (a + 163), .int l1] M (f_X8_usesOf M l1) := by
  refine CI_of RX8 (by decide +kernel) rfl (Nat.le_of_ble_eq_true rfl) (fun k q hk hq e1 e2 e3 => ?_)
  subst e1; subst e2; subst e3
  exact m_X8_usesOf hk hq M l1 

/-! SettingsInLayersModel.uses(II)I -/
noncomputable def f_X8_uses_44  : Nat → Mem → Int32 → Int32 → Int32 → Option (Int32 × Mem)
  | 0, _, _, _, _ => none
  | n + 1, M, l1, l3, l4 =>
    if 8 ≤ l4 then
      some (l3, M)
    else
      Option.bind (f_X8_usesOf M l4) fun z2 =>
      Option.bind (some (l3 ||| (((z2.1 >>> (l1 &&& 31)) &&& 1) <<< (l4 &&& 31)))) fun v3 =>
      f_X8_uses_44  n z2.2 l1 v3 (l4 + 1)
set_option maxRecDepth 20000 in
theorem m_X8_uses_44 {k : KT} {q : Int32 × Mem} (hk : CX k cX8_uses RX8 5 (some .int) 223) (hq : RI k q) : ∀ (n : Nat) (M : Mem) (l1 : Int32) (l3 : Int32) (l4 : Int32) , GG k q (wM k M) 44 [(0, .ref (kh k + 163)), (1, .int l1), (3, .int l3), (4, .int l4)] [] (f_X8_uses_44  n M l1 l3 l4) := by
  intro n
  induction n with
  | zero => intros; exact GG_none
  | succ n ih =>
    intro M l1 l3 l4 
    rw [f_X8_uses_44]
    refine GG_iload hk (pc' := 46) 3 dX8_uses_44 rfl rfl ?_
    refine GG_bipush hk (pc' := 48) 8 dX8_uses_46 rfl rfl ?_
    refine GG_icmp_ge hk 73 (pc' := 51) dX8_uses_48 rfl (by decide) (fun c1 => ?_) (fun c1 => ?_)
    · refine GG_iload_n hk (pc' := 74) 2 dX8_uses_73 rfl rfl rfl ?_
      exact GG_iret hk hq dX8_uses_74
    · refine GG_iload_n hk (pc' := 52) 2 dX8_uses_51 rfl rfl rfl ?_
      refine GG_aload_n hk (pc' := 53) 0 dX8_uses_52 rfl rfl rfl ?_
      refine GG_iload hk (pc' := 55) 3 dX8_uses_53 rfl rfl ?_
      refine GG_callVi hk (st := [.int l3]) (pc' := 58) mf_X8_usesOf mv_X8_usesOf LC8 rfl (c_X8_usesOf _ _ _ M l4 ) (by omega) tw_1111 rfl rfl rfl (Nat.le_of_ble_eq_true rfl) dX8_uses_55 rfl (fun z2 e_z2 => ?_)
      refine GG_iload_n hk (pc' := 59) 1 dX8_uses_58 rfl rfl rfl ?_
      refine GG_ishr hk (pc' := 60) dX8_uses_59 rfl ?_
      refine GG_iconst hk (pc' := 61) 1 dX8_uses_60 rfl rfl ?_
      refine GG_iand hk (pc' := 62) dX8_uses_61 rfl ?_
      refine GG_iload hk (pc' := 64) 3 dX8_uses_62 rfl rfl ?_
      refine GG_ishl hk (pc' := 65) dX8_uses_64 rfl ?_
      refine GG_ior hk (pc' := 66) dX8_uses_65 rfl ?_
      refine GG_nm (fun v3 e_v3 => ?_)
      refine GG_istore_n hk (pc' := 67) [(3, .int v3), (0, .ref (kh k + 163)), (1, .int l1), (4, .int l4)] dX8_uses_66 rfl rfl (by decide) rfl ?_
      refine GG_iinc hk (pc' := 70) 3 (l4 + 1) [(4, .int (l4 + 1)), (3, .int v3), (0, .ref (kh k + 163)), (1, .int l1)] dX8_uses_67 rfl rfl rfl (by decide) rfl ?_
      refine GG_goto hk 44 dX8_uses_70 (by decide) ?_
      refine GG_sub (L' := [(0, .ref (kh k + 163)), (1, .int l1), (3, .int v3), (4, .int (l4 + 1))]) [2, 3, 1, 0] rfl ?_
      exact ih z2.2 l1 v3 (l4 + 1) 
noncomputable def f_X8_uses (M : Mem) (l1 : Int32) (l2 : Int32) : Option (Int32 × Mem) :=
    Option.bind (f_X8_isKey M l1) fun z1 =>
    if ¬ z1.1 = 0 then
      Option.bind (f_X8_isIn z1.2 l2 0 1) fun z3 =>
      if ¬ z3.1 = 0 then
        if ¬ l2 = 0 then
          f_X8_uses_44  1000 z3.2 l1 0 0
        else
          Option.bind (f_X8_usesOf z3.2 l1) fun z6 =>
          some (z6.1, z6.2)
      else
        Option.bind (f_X8_no z3.2 (-2)) fun z7 =>
        some (z7.1, z7.2)
    else
      Option.bind (f_X8_no z1.2 (-1)) fun z8 =>
      some (z8.1, z8.2)
set_option maxRecDepth 20000 in
theorem m_X8_uses {k : KT} {q : Int32 × Mem} (hk : CX k cX8_uses RX8 5 (some .int) 223) (hq : RI k q) (M : Mem) (l1 : Int32) (l2 : Int32)  : GG k q (wM k M) 0 [(0, .ref (kh k + 163)), (1, .int l1), (2, .int l2)] [] (f_X8_uses M l1 l2) := by
  unfold f_X8_uses
  refine GG_iload_n hk (pc' := 1) 1 dX8_uses_0 rfl rfl rfl ?_
  refine GG_callSi hk (st := []) (pc' := 4) mf_X8_isKey tw_951 (c_X8_isKey _ _ _ M l1 ) (by omega) tw_950 rfl rfl (Nat.le_of_ble_eq_true rfl) dX8_uses_1 rfl (fun z1 e_z1 => ?_)
  refine GG_if_ne hk 13 (pc' := 7) dX8_uses_4 rfl (by decide) (fun c2 => ?_) (fun c2 => ?_)
  · refine GG_iload_n hk (pc' := 14) 2 dX8_uses_13 rfl rfl rfl ?_
    refine GG_iconst hk (pc' := 15) 0 dX8_uses_14 rfl rfl ?_
    refine GG_iconst hk (pc' := 16) 1 dX8_uses_15 rfl rfl ?_
    refine GG_callSi hk (st := []) (pc' := 19) mf_X8_isIn tw_936 (c_X8_isIn _ _ _ z1.2 l2 0 1 ) (by omega) tw_935 rfl rfl (Nat.le_of_ble_eq_true rfl) dX8_uses_16 rfl (fun z3 e_z3 => ?_)
    refine GG_if_ne hk 29 (pc' := 22) dX8_uses_19 rfl (by decide) (fun c4 => ?_) (fun c4 => ?_)
    · refine GG_iload_n hk (pc' := 30) 2 dX8_uses_29 rfl rfl rfl ?_
      refine GG_if_ne hk 39 (pc' := 33) dX8_uses_30 rfl (by decide) (fun c5 => ?_) (fun c5 => ?_)
      · refine GG_iconst hk (pc' := 40) 0 dX8_uses_39 rfl rfl ?_
        refine GG_istore_n hk (pc' := 41) [(3, .int 0), (0, .ref (kh k + 163)), (1, .int l1), (2, .int l2)] dX8_uses_40 rfl rfl (by decide) rfl ?_
        refine GG_iconst hk (pc' := 42) 0 dX8_uses_41 rfl rfl ?_
        refine GG_istore hk (pc' := 44) [(4, .int 0), (3, .int 0), (0, .ref (kh k + 163)), (1, .int l1), (2, .int l2)] dX8_uses_42 rfl (by decide) rfl ?_
        refine GG_sub (L' := [(0, .ref (kh k + 163)), (1, .int l1), (3, .int 0), (4, .int 0)]) [2, 3, 1, 0] rfl ?_
        exact m_X8_uses_44 hk hq  1000 z3.2 l1 0 0 
      · refine GG_aload_n hk (pc' := 34) 0 dX8_uses_33 rfl rfl rfl ?_
        refine GG_iload_n hk (pc' := 35) 1 dX8_uses_34 rfl rfl rfl ?_
        refine GG_callVi hk (st := []) (pc' := 38) mf_X8_usesOf mv_X8_usesOf LC8 rfl (c_X8_usesOf _ _ _ z3.2 l1 ) (by omega) tw_1111 rfl rfl rfl (Nat.le_of_ble_eq_true rfl) dX8_uses_35 rfl (fun z6 e_z6 => ?_)
        exact GG_iret hk hq dX8_uses_38
    · refine GG_aload_n hk (pc' := 23) 0 dX8_uses_22 rfl rfl rfl ?_
      refine GG_bipush hk (pc' := 25) (-2) dX8_uses_23 rfl rfl ?_
      refine GG_callVi hk (st := []) (pc' := 28) mf_X8_no mv_X8_no LC8 rfl (c_X8_no _ _ _ z3.2 (-2) ) (by omega) tw_938 rfl rfl rfl (Nat.le_of_ble_eq_true rfl) dX8_uses_25 rfl (fun z7 e_z7 => ?_)
      exact GG_iret hk hq dX8_uses_28
  · refine GG_aload_n hk (pc' := 8) 0 dX8_uses_7 rfl rfl rfl ?_
    refine GG_iconst hk (pc' := 9) (-1) dX8_uses_8 rfl rfl ?_
    refine GG_callVi hk (st := []) (pc' := 12) mf_X8_no mv_X8_no LC8 rfl (c_X8_no _ _ _ z1.2 (-1) ) (by omega) tw_938 rfl rfl rfl (Nat.le_of_ble_eq_true rfl) dX8_uses_9 rfl (fun z8 e_z8 => ?_)
    exact GG_iret hk hq dX8_uses_12
theorem c_X8_uses (l : Launch) (C : DD) (a : Nat) (M : Mem) (l1 : Int32) (l2 : Int32)  : CI l C (a) yX8_uses cX8_uses 5 .int 223 [.ref (a + 163), .int l1, .int l2] M (f_X8_uses M l1 l2) := by
  refine CI_of RX8 (by decide +kernel) rfl (Nat.le_of_ble_eq_true rfl) (fun k q hk hq e1 e2 e3 => ?_)
  subst e1; subst e2; subst e3
  exact m_X8_uses hk hq M l1 l2 

/-! SettingsInLayersModel.isSo(II)Z -/
noncomputable def f_X8_isSo (M : Mem) (l1 : Int32) (l2 : Int32) : Option (Int32 × Mem) :=
    Option.bind (f_X8_resolves M l1) fun z1 =>
    if ¬ l2 = 0 then
      if z1.1 = 0 then
        bret 0 z1.2
      else
        if l2 = 1 then
          bret 1 z1.2
        else
          Option.bind (rd 12 (z1.2 171) 0) fun v5 =>
          if ¬ v5 = 0 then
            bret 0 z1.2
          else
            bret 1 z1.2
    else
      if ¬ z1.1 = 0 then
        bret 0 z1.2
      else
        Option.bind (rd 80 (z1.2 180) ((z1.2 163 24) - 1)) fun v8 =>
        if ¬ v8 = 2 then
          bret 0 z1.2
        else
          Option.bind (rd 80 (z1.2 181) ((z1.2 163 24) - 1)) fun v10 =>
          if ¬ v10 = l1 then
            bret 0 z1.2
          else
            bret 1 z1.2
set_option maxRecDepth 20000 in
theorem m_X8_isSo {k : KT} {q : Int32 × Mem} (hk : CX k cX8_isSo RX8 4 (some .boolean) 222) (hq : RI k q) (M : Mem) (l1 : Int32) (l2 : Int32)  : GG k q (wM k M) 0 [(0, .ref (kh k + 163)), (1, .int l1), (2, .int l2)] [] (f_X8_isSo M l1 l2) := by
  unfold f_X8_isSo
  refine GG_aload_n hk (pc' := 1) 0 dX8_isSo_0 rfl rfl rfl ?_
  refine GG_iload_n hk (pc' := 2) 1 dX8_isSo_1 rfl rfl rfl ?_
  refine GG_callVi hk (st := []) (pc' := 5) mf_X8_resolves mv_X8_resolves LC8 rfl (c_X8_resolves _ _ _ M l1 ) (by omega) tw_1067 rfl rfl rfl (Nat.le_of_ble_eq_true rfl) dX8_isSo_2 rfl (fun z1 e_z1 => ?_)
  refine GG_istore_n hk (pc' := 6) [(3, .int z1.1), (0, .ref (kh k + 163)), (1, .int l1), (2, .int l2)] dX8_isSo_5 rfl rfl (by decide) rfl ?_
  refine GG_iload_n hk (pc' := 7) 3 dX8_isSo_6 rfl rfl rfl ?_
  refine GG_if_ne hk 52 (pc' := 10) dX8_isSo_7 rfl (by decide) (fun c2 => ?_) (fun c2 => ?_)
  · refine GG_iload_n hk (pc' := 53) 0 dX8_isSo_52 rfl rfl rfl ?_
    refine GG_if_eq hk 74 (pc' := 56) dX8_isSo_53 rfl (by decide) (fun c3 => ?_) (fun c3 => ?_)
    · refine GG_iconst hk (pc' := 75) 0 dX8_isSo_74 rfl rfl ?_
      exact GG_zret hk hq dX8_isSo_75
    · refine GG_iload_n hk (pc' := 57) 3 dX8_isSo_56 rfl rfl rfl ?_
      refine GG_iconst hk (pc' := 58) 1 dX8_isSo_57 rfl rfl ?_
      refine GG_icmp_eq hk 70 (pc' := 61) dX8_isSo_58 rfl (by decide) (fun c4 => ?_) (fun c4 => ?_)
      · refine GG_iconst hk (pc' := 71) 1 dX8_isSo_70 rfl rfl ?_
        refine GG_goto hk 75 dX8_isSo_71 (by decide) ?_
        exact GG_zret hk hq dX8_isSo_75
      · refine GG_aload_n hk (pc' := 62) 1 dX8_isSo_61 rfl rfl rfl ?_
        refine GG_get hk LC8 13 (v := .ref (kh k + 171)) (pc' := 65) tw_855 rfl rfl (by decide) rfl dX8_isSo_62 rfl ?_
        refine GG_iconst hk (pc' := 66) 0 dX8_isSo_65 rfl rfl ?_
        refine GG_iald hk (pc' := 67) rfl rfl dX8_isSo_66 rfl (fun v5 e_v5 => ?_)
        refine GG_if_ne hk 74 (pc' := 70) dX8_isSo_67 rfl (by decide) (fun c6 => ?_) (fun c6 => ?_)
        · refine GG_iconst hk (pc' := 75) 0 dX8_isSo_74 rfl rfl ?_
          exact GG_zret hk hq dX8_isSo_75
        · refine GG_iconst hk (pc' := 71) 1 dX8_isSo_70 rfl rfl ?_
          refine GG_goto hk 75 dX8_isSo_71 (by decide) ?_
          exact GG_zret hk hq dX8_isSo_75
  · refine GG_iload_n hk (pc' := 11) 0 dX8_isSo_10 rfl rfl rfl ?_
    refine GG_if_ne hk 48 (pc' := 14) dX8_isSo_11 rfl (by decide) (fun c7 => ?_) (fun c7 => ?_)
    · refine GG_iconst hk (pc' := 49) 0 dX8_isSo_48 rfl rfl ?_
      refine GG_goto hk 75 dX8_isSo_49 (by decide) ?_
      exact GG_zret hk hq dX8_isSo_75
    · refine GG_aload_n hk (pc' := 15) 1 dX8_isSo_14 rfl rfl rfl ?_
      refine GG_get hk LC8 22 (v := .ref (kh k + 180)) (pc' := 18) tw_864 rfl rfl (by decide) rfl dX8_isSo_15 rfl ?_
      refine GG_aload_n hk (pc' := 19) 1 dX8_isSo_18 rfl rfl rfl ?_
      refine GG_get hk LC8 24 (v := .int (z1.2 163 24)) (pc' := 22) tw_866 rfl rfl (by decide) rfl dX8_isSo_19 rfl ?_
      refine GG_iconst hk (pc' := 23) 1 dX8_isSo_22 rfl rfl ?_
      refine GG_isub hk (pc' := 24) dX8_isSo_23 rfl ?_
      refine GG_iald hk (pc' := 25) rfl rfl dX8_isSo_24 rfl (fun v8 e_v8 => ?_)
      refine GG_iconst hk (pc' := 26) 2 dX8_isSo_25 rfl rfl ?_
      refine GG_icmp_ne hk 48 (pc' := 29) dX8_isSo_26 rfl (by decide) (fun c9 => ?_) (fun c9 => ?_)
      · refine GG_iconst hk (pc' := 49) 0 dX8_isSo_48 rfl rfl ?_
        refine GG_goto hk 75 dX8_isSo_49 (by decide) ?_
        exact GG_zret hk hq dX8_isSo_75
      · refine GG_aload_n hk (pc' := 30) 1 dX8_isSo_29 rfl rfl rfl ?_
        refine GG_get hk LC8 23 (v := .ref (kh k + 181)) (pc' := 33) tw_865 rfl rfl (by decide) rfl dX8_isSo_30 rfl ?_
        refine GG_aload_n hk (pc' := 34) 1 dX8_isSo_33 rfl rfl rfl ?_
        refine GG_get hk LC8 24 (v := .int (z1.2 163 24)) (pc' := 37) tw_866 rfl rfl (by decide) rfl dX8_isSo_34 rfl ?_
        refine GG_iconst hk (pc' := 38) 1 dX8_isSo_37 rfl rfl ?_
        refine GG_isub hk (pc' := 39) dX8_isSo_38 rfl ?_
        refine GG_iald hk (pc' := 40) rfl rfl dX8_isSo_39 rfl (fun v10 e_v10 => ?_)
        refine GG_iload_n hk (pc' := 41) 2 dX8_isSo_40 rfl rfl rfl ?_
        refine GG_icmp_ne hk 48 (pc' := 44) dX8_isSo_41 rfl (by decide) (fun c11 => ?_) (fun c11 => ?_)
        · refine GG_iconst hk (pc' := 49) 0 dX8_isSo_48 rfl rfl ?_
          refine GG_goto hk 75 dX8_isSo_49 (by decide) ?_
          exact GG_zret hk hq dX8_isSo_75
        · refine GG_iconst hk (pc' := 45) 1 dX8_isSo_44 rfl rfl ?_
          refine GG_goto hk 75 dX8_isSo_45 (by decide) ?_
          exact GG_zret hk hq dX8_isSo_75
theorem c_X8_isSo (l : Launch) (C : DD) (a : Nat) (M : Mem) (l1 : Int32) (l2 : Int32)  : CI l C (a) yX8_isSo cX8_isSo 4 .boolean 222 [.ref (a + 163), .int l1, .int l2] M (f_X8_isSo M l1 l2) := by
  refine CI_of RX8 (by decide +kernel) rfl (Nat.le_of_ble_eq_true rfl) (fun k q hk hq e1 e2 e3 => ?_)
  subst e1; subst e2; subst e3
  exact m_X8_isSo hk hq M l1 l2 

/-! SettingsInLayersModel.allSo(I)I -/
noncomputable def f_X8_allSo_4  : Nat → Mem → Int32 → Int32 → Int32 → Option (Int32 × Mem)
  | 0, _, _, _, _ => none
  | n + 1, M, l1, l2, l3 =>
    if 8 ≤ l3 then
      some (l2, M)
    else
      Option.bind (f_X8_isSo M l3 l1) fun z2 =>
      if z2.1 = 0 then
        f_X8_allSo_4  n z2.2 l1 (l2 ||| 0) (l3 + 1)
      else
        Option.bind (some (l2 ||| (1 <<< (l3 &&& 31)))) fun v4 =>
        f_X8_allSo_4  n z2.2 l1 v4 (l3 + 1)
set_option maxRecDepth 20000 in
theorem m_X8_allSo_4 {k : KT} {q : Int32 × Mem} (hk : CX k cX8_allSo RX8 4 (some .int) 223) (hq : RI k q) : ∀ (n : Nat) (M : Mem) (l1 : Int32) (l2 : Int32) (l3 : Int32) , GG k q (wM k M) 4 [(0, .ref (kh k + 163)), (1, .int l1), (2, .int l2), (3, .int l3)] [] (f_X8_allSo_4  n M l1 l2 l3) := by
  intro n
  induction n with
  | zero => intros; exact GG_none
  | succ n ih =>
    intro M l1 l2 l3 
    rw [f_X8_allSo_4]
    refine GG_iload_n hk (pc' := 5) 3 dX8_allSo_4 rfl rfl rfl ?_
    refine GG_bipush hk (pc' := 7) 8 dX8_allSo_5 rfl rfl ?_
    refine GG_icmp_ge hk 35 (pc' := 10) dX8_allSo_7 rfl (by decide) (fun c1 => ?_) (fun c1 => ?_)
    · refine GG_iload_n hk (pc' := 36) 2 dX8_allSo_35 rfl rfl rfl ?_
      exact GG_iret hk hq dX8_allSo_36
    · refine GG_iload_n hk (pc' := 11) 2 dX8_allSo_10 rfl rfl rfl ?_
      refine GG_aload_n hk (pc' := 12) 0 dX8_allSo_11 rfl rfl rfl ?_
      refine GG_iload_n hk (pc' := 13) 3 dX8_allSo_12 rfl rfl rfl ?_
      refine GG_iload_n hk (pc' := 14) 1 dX8_allSo_13 rfl rfl rfl ?_
      refine GG_callVi hk (st := [.int l2]) (pc' := 17) mf_X8_isSo mv_X8_isSo LC8 rfl (c_X8_isSo _ _ _ M l3 l1 ) (by omega) tw_1123 rfl rfl rfl (Nat.le_of_ble_eq_true rfl) dX8_allSo_14 rfl (fun z2 e_z2 => ?_)
      refine GG_if_eq hk 26 (pc' := 20) dX8_allSo_17 rfl (by decide) (fun c3 => ?_) (fun c3 => ?_)
      · refine GG_iconst hk (pc' := 27) 0 dX8_allSo_26 rfl rfl ?_
        refine GG_ior hk (pc' := 28) dX8_allSo_27 rfl ?_
        refine GG_istore_n hk (pc' := 29) [(2, .int (l2 ||| 0)), (0, .ref (kh k + 163)), (1, .int l1), (3, .int l3)] dX8_allSo_28 rfl rfl (by decide) rfl ?_
        refine GG_iinc hk (pc' := 32) 3 (l3 + 1) [(3, .int (l3 + 1)), (2, .int (l2 ||| 0)), (0, .ref (kh k + 163)), (1, .int l1)] dX8_allSo_29 rfl rfl rfl (by decide) rfl ?_
        refine GG_goto hk 4 dX8_allSo_32 (by decide) ?_
        refine GG_sub (L' := [(0, .ref (kh k + 163)), (1, .int l1), (2, .int (l2 ||| 0)), (3, .int (l3 + 1))]) [2, 3, 1, 0] rfl ?_
        exact ih z2.2 l1 (l2 ||| 0) (l3 + 1) 
      · refine GG_iconst hk (pc' := 21) 1 dX8_allSo_20 rfl rfl ?_
        refine GG_iload_n hk (pc' := 22) 3 dX8_allSo_21 rfl rfl rfl ?_
        refine GG_ishl hk (pc' := 23) dX8_allSo_22 rfl ?_
        refine GG_goto hk 27 dX8_allSo_23 (by decide) ?_
        refine GG_ior hk (pc' := 28) dX8_allSo_27 rfl ?_
        refine GG_nm (fun v4 e_v4 => ?_)
        refine GG_istore_n hk (pc' := 29) [(2, .int v4), (0, .ref (kh k + 163)), (1, .int l1), (3, .int l3)] dX8_allSo_28 rfl rfl (by decide) rfl ?_
        refine GG_iinc hk (pc' := 32) 3 (l3 + 1) [(3, .int (l3 + 1)), (2, .int v4), (0, .ref (kh k + 163)), (1, .int l1)] dX8_allSo_29 rfl rfl rfl (by decide) rfl ?_
        refine GG_goto hk 4 dX8_allSo_32 (by decide) ?_
        refine GG_sub (L' := [(0, .ref (kh k + 163)), (1, .int l1), (2, .int v4), (3, .int (l3 + 1))]) [2, 3, 1, 0] rfl ?_
        exact ih z2.2 l1 v4 (l3 + 1) 
noncomputable def f_X8_allSo (M : Mem) (l1 : Int32) : Option (Int32 × Mem) :=
    f_X8_allSo_4  1000 M l1 0 0
set_option maxRecDepth 20000 in
theorem m_X8_allSo {k : KT} {q : Int32 × Mem} (hk : CX k cX8_allSo RX8 4 (some .int) 223) (hq : RI k q) (M : Mem) (l1 : Int32)  : GG k q (wM k M) 0 [(0, .ref (kh k + 163)), (1, .int l1)] [] (f_X8_allSo M l1) := by
  unfold f_X8_allSo
  refine GG_iconst hk (pc' := 1) 0 dX8_allSo_0 rfl rfl ?_
  refine GG_istore_n hk (pc' := 2) [(2, .int 0), (0, .ref (kh k + 163)), (1, .int l1)] dX8_allSo_1 rfl rfl (by decide) rfl ?_
  refine GG_iconst hk (pc' := 3) 0 dX8_allSo_2 rfl rfl ?_
  refine GG_istore_n hk (pc' := 4) [(3, .int 0), (2, .int 0), (0, .ref (kh k + 163)), (1, .int l1)] dX8_allSo_3 rfl rfl (by decide) rfl ?_
  refine GG_sub (L' := [(0, .ref (kh k + 163)), (1, .int l1), (2, .int 0), (3, .int 0)]) [2, 3, 1, 0] rfl ?_
  exact m_X8_allSo_4 hk hq  1000 M l1 0 0 
theorem c_X8_allSo (l : Launch) (C : DD) (a : Nat) (M : Mem) (l1 : Int32)  : CI l C (a) yX8_allSo cX8_allSo 4 .int 223 [.ref (a + 163), .int l1] M (f_X8_allSo M l1) := by
  refine CI_of RX8 (by decide +kernel) rfl (Nat.le_of_ble_eq_true rfl) (fun k q hk hq e1 e2 e3 => ?_)
  subst e1; subst e2; subst e3
  exact m_X8_allSo hk hq M l1 

/-! SettingsInLayersModel.all(I)I -/
noncomputable def f_X8_all (M : Mem) (l1 : Int32) : Option (Int32 × Mem) :=
    Option.bind (f_X8_isIn M l1 0 2) fun z1 =>
    if z1.1 = 0 then
      Option.bind (f_X8_no z1.2 (-2)) fun z3 =>
      some (z3.1, z3.2)
    else
      Option.bind (f_X8_allSo z1.2 l1) fun z4 =>
      some (z4.1, z4.2)
set_option maxRecDepth 20000 in
theorem m_X8_all {k : KT} {q : Int32 × Mem} (hk : CX k cX8_all RX8 2 (some .int) 224) (hq : RI k q) (M : Mem) (l1 : Int32)  : GG k q (wM k M) 0 [(0, .ref (kh k + 163)), (1, .int l1)] [] (f_X8_all M l1) := by
  unfold f_X8_all
  refine GG_iload_n hk (pc' := 1) 1 dX8_all_0 rfl rfl rfl ?_
  refine GG_iconst hk (pc' := 2) 0 dX8_all_1 rfl rfl ?_
  refine GG_iconst hk (pc' := 3) 2 dX8_all_2 rfl rfl ?_
  refine GG_callSi hk (st := []) (pc' := 6) mf_X8_isIn tw_936 (c_X8_isIn _ _ _ M l1 0 2 ) (by omega) tw_935 rfl rfl (Nat.le_of_ble_eq_true rfl) dX8_all_3 rfl (fun z1 e_z1 => ?_)
  refine GG_if_eq hk 17 (pc' := 9) dX8_all_6 rfl (by decide) (fun c2 => ?_) (fun c2 => ?_)
  · refine GG_aload_n hk (pc' := 18) 0 dX8_all_17 rfl rfl rfl ?_
    refine GG_bipush hk (pc' := 20) (-2) dX8_all_18 rfl rfl ?_
    refine GG_callVi hk (st := []) (pc' := 23) mf_X8_no mv_X8_no LC8 rfl (c_X8_no _ _ _ z1.2 (-2) ) (by omega) tw_938 rfl rfl rfl (Nat.le_of_ble_eq_true rfl) dX8_all_20 rfl (fun z3 e_z3 => ?_)
    exact GG_iret hk hq dX8_all_23
  · refine GG_aload_n hk (pc' := 10) 0 dX8_all_9 rfl rfl rfl ?_
    refine GG_iload_n hk (pc' := 11) 1 dX8_all_10 rfl rfl rfl ?_
    refine GG_callVi hk (st := []) (pc' := 14) mf_X8_allSo mv_X8_allSo LC8 rfl (c_X8_allSo _ _ _ z1.2 l1 ) (by omega) tw_1119 rfl rfl rfl (Nat.le_of_ble_eq_true rfl) dX8_all_11 rfl (fun z4 e_z4 => ?_)
    refine GG_goto hk 23 dX8_all_14 (by decide) ?_
    exact GG_iret hk hq dX8_all_23
theorem c_X8_all (l : Launch) (C : DD) (a : Nat) (M : Mem) (l1 : Int32)  : CI l C (a) yX8_all cX8_all 2 .int 224 [.ref (a + 163), .int l1] M (f_X8_all M l1) := by
  refine CI_of RX8 (by decide +kernel) rfl (Nat.le_of_ble_eq_true rfl) (fun k q hk hq e1 e2 e3 => ?_)
  subst e1; subst e2; subst e3
  exact m_X8_all hk hq M l1 

/-! SettingsInLayersModel.told(II)I -/
noncomputable def f_X8_told (M : Mem) (l1 : Int32) (l2 : Int32) : Option (Int32 × Mem) :=
    Option.bind (rd 880 (M 182) ((110 * l1) + l2)) fun v1 =>
    some (v1, M)
set_option maxRecDepth 20000 in
theorem m_X8_told {k : KT} {q : Int32 × Mem} (hk : CX k cX8_told RX8 3 (some .int) 1) (hq : RI k q) (M : Mem) (l1 : Int32) (l2 : Int32)  : GG k q (wM k M) 0 [(0, .ref (kh k + 163)), (1, .int l1), (2, .int l2)] [] (f_X8_told M l1 l2) := by
  unfold f_X8_told
  refine GG_aload_n hk (pc' := 1) 0 dX8_told_0 rfl rfl rfl ?_
  refine GG_get hk LC8 27 (v := .ref (kh k + 182)) (pc' := 4) tw_869 rfl rfl (by decide) rfl dX8_told_1 rfl ?_
  refine GG_bipush hk (pc' := 6) 110 dX8_told_4 rfl rfl ?_
  refine GG_iload_n hk (pc' := 7) 1 dX8_told_6 rfl rfl rfl ?_
  refine GG_imul hk (pc' := 8) dX8_told_7 rfl ?_
  refine GG_iload_n hk (pc' := 9) 2 dX8_told_8 rfl rfl rfl ?_
  refine GG_iadd hk (pc' := 10) dX8_told_9 rfl ?_
  refine GG_iald hk (pc' := 11) rfl rfl dX8_told_10 rfl (fun v1 e_v1 => ?_)
  exact GG_iret hk hq dX8_told_11
theorem c_X8_told (l : Launch) (C : DD) (a : Nat) (M : Mem) (l1 : Int32) (l2 : Int32)  : CI l C (a) yX8_told cX8_told 3 .int 1 [.ref (a + 163), .int l1, .int l2] M (f_X8_told M l1 l2) := by
  refine CI_of RX8 (by decide +kernel) rfl (Nat.le_of_ble_eq_true rfl) (fun k q hk hq e1 e2 e3 => ?_)
  subst e1; subst e2; subst e3
  exact m_X8_told hk hq M l1 l2 

/-! SettingsInLayersModel.tells(I)V -/
noncomputable def f_X8_tells_75  : Nat → Mem → Int32 → Int32 → Int32 → Option Mem
  | 0, _, _, _, _ => none
  | n + 1, M, l2, l3, l4 =>
    Option.bind (rd 880 (M 182) (l2 + 1)) fun v1 =>
    if v1 ≤ l4 then
      some M
    else
      if ¬ l3 = 0 then
        Option.bind (rd 12 (M 171) 0) fun v4 =>
        if ¬ v4 = 0 then
          Option.bind (rmI l4 2) fun v6 =>
          if ¬ v6 = 0 then
            Option.bind (dvI l4 2) fun v8 =>
            Option.bind (rd 120 (M 177) v8) fun v9 =>
            Option.bind (wra 880 M 182 ((l2 + 2) + l4) v9) fun M10 =>
            f_X8_tells_75  n M10 l2 l3 (l4 + 1)
          else
            Option.bind (dvI l4 2) fun v11 =>
            Option.bind (rd 120 (M 176) v11) fun v12 =>
            Option.bind (wra 880 M 182 ((l2 + 2) + l4) v12) fun M13 =>
            f_X8_tells_75  n M13 l2 l3 (l4 + 1)
        else
          Option.bind (rd 12 (M 172) 0) fun v14 =>
          Option.bind (wra 880 M 182 ((l2 + 2) + l4) v14) fun M15 =>
          f_X8_tells_75  n M15 l2 l3 (l4 + 1)
      else
        Option.bind (rd 80 (M 180) l4) fun v16 =>
        Option.bind (wra 880 M 182 ((l2 + 2) + l4) v16) fun M17 =>
        f_X8_tells_75  n M17 l2 l3 (l4 + 1)
set_option maxRecDepth 20000 in
theorem m_X8_tells_75 {k : KT} {q : Mem} (hk : CX k cX8_tells RX8 5 none 222) (hq : RV k q) : ∀ (n : Nat) (M : Mem) (l2 : Int32) (l3 : Int32) (l4 : Int32) , GG k q (wM k M) 75 [(0, .ref (kh k + 163)), (2, .int l2), (3, .int l3), (4, .int l4)] [] (f_X8_tells_75  n M l2 l3 l4) := by
  intro n
  induction n with
  | zero => intros; exact GG_none
  | succ n ih =>
    intro M l2 l3 l4 
    rw [f_X8_tells_75]
    refine GG_iload hk (pc' := 77) 3 dX8_tells_75 rfl rfl ?_
    refine GG_aload_n hk (pc' := 78) 0 dX8_tells_77 rfl rfl rfl ?_
    refine GG_get hk LC8 27 (v := .ref (kh k + 182)) (pc' := 81) tw_869 rfl rfl (by decide) rfl dX8_tells_78 rfl ?_
    refine GG_iload_n hk (pc' := 82) 1 dX8_tells_81 rfl rfl rfl ?_
    refine GG_iconst hk (pc' := 83) 1 dX8_tells_82 rfl rfl ?_
    refine GG_iadd hk (pc' := 84) dX8_tells_83 rfl ?_
    refine GG_iald hk (pc' := 85) rfl rfl dX8_tells_84 rfl (fun v1 e_v1 => ?_)
    refine GG_icmp_ge hk 165 (pc' := 88) dX8_tells_85 rfl (by decide) (fun c2 => ?_) (fun c2 => ?_)
    · exact GG_vret hk hq dX8_tells_165
    · refine GG_aload_n hk (pc' := 89) 0 dX8_tells_88 rfl rfl rfl ?_
      refine GG_get hk LC8 27 (v := .ref (kh k + 182)) (pc' := 92) tw_869 rfl rfl (by decide) rfl dX8_tells_89 rfl ?_
      refine GG_iload_n hk (pc' := 93) 1 dX8_tells_92 rfl rfl rfl ?_
      refine GG_iconst hk (pc' := 94) 2 dX8_tells_93 rfl rfl ?_
      refine GG_iadd hk (pc' := 95) dX8_tells_94 rfl ?_
      refine GG_iload hk (pc' := 97) 3 dX8_tells_95 rfl rfl ?_
      refine GG_iadd hk (pc' := 98) dX8_tells_97 rfl ?_
      refine GG_iload_n hk (pc' := 99) 2 dX8_tells_98 rfl rfl rfl ?_
      refine GG_if_ne hk 112 (pc' := 102) dX8_tells_99 rfl (by decide) (fun c3 => ?_) (fun c3 => ?_)
      · refine GG_aload_n hk (pc' := 113) 0 dX8_tells_112 rfl rfl rfl ?_
        refine GG_get hk LC8 13 (v := .ref (kh k + 171)) (pc' := 116) tw_855 rfl rfl (by decide) rfl dX8_tells_113 rfl ?_
        refine GG_iconst hk (pc' := 117) 0 dX8_tells_116 rfl rfl ?_
        refine GG_iald hk (pc' := 118) rfl rfl dX8_tells_117 rfl (fun v4 e_v4 => ?_)
        refine GG_if_ne hk 130 (pc' := 121) dX8_tells_118 rfl (by decide) (fun c5 => ?_) (fun c5 => ?_)
        · refine GG_iload hk (pc' := 132) 3 dX8_tells_130 rfl rfl ?_
          refine GG_iconst hk (pc' := 133) 2 dX8_tells_132 rfl rfl ?_
          refine GG_irem hk (pc' := 134) dX8_tells_133 rfl (fun v6 e_v6 => ?_)
          refine GG_if_ne hk 149 (pc' := 137) dX8_tells_134 rfl (by decide) (fun c7 => ?_) (fun c7 => ?_)
          · refine GG_aload_n hk (pc' := 150) 0 dX8_tells_149 rfl rfl rfl ?_
            refine GG_get hk LC8 19 (v := .ref (kh k + 177)) (pc' := 153) tw_861 rfl rfl (by decide) rfl dX8_tells_150 rfl ?_
            refine GG_iload hk (pc' := 155) 3 dX8_tells_153 rfl rfl ?_
            refine GG_iconst hk (pc' := 156) 2 dX8_tells_155 rfl rfl ?_
            refine GG_idiv hk (pc' := 157) dX8_tells_156 rfl (fun v8 e_v8 => ?_)
            refine GG_iald hk (pc' := 158) rfl rfl dX8_tells_157 rfl (fun v9 e_v9 => ?_)
            refine GG_iast hk (pc' := 159) rfl rfl dX8_tells_158 rfl (fun M10 e_M10 => ?_)
            refine GG_iinc hk (pc' := 162) 3 (l4 + 1) [(4, .int (l4 + 1)), (0, .ref (kh k + 163)), (2, .int l2), (3, .int l3)] dX8_tells_159 rfl rfl rfl (by decide) rfl ?_
            refine GG_goto hk 75 dX8_tells_162 (by decide) ?_
            refine GG_sub (L' := [(0, .ref (kh k + 163)), (2, .int l2), (3, .int l3), (4, .int (l4 + 1))]) [1, 2, 3, 0] rfl ?_
            exact ih M10 l2 l3 (l4 + 1) 
          · refine GG_aload_n hk (pc' := 138) 0 dX8_tells_137 rfl rfl rfl ?_
            refine GG_get hk LC8 18 (v := .ref (kh k + 176)) (pc' := 141) tw_860 rfl rfl (by decide) rfl dX8_tells_138 rfl ?_
            refine GG_iload hk (pc' := 143) 3 dX8_tells_141 rfl rfl ?_
            refine GG_iconst hk (pc' := 144) 2 dX8_tells_143 rfl rfl ?_
            refine GG_idiv hk (pc' := 145) dX8_tells_144 rfl (fun v11 e_v11 => ?_)
            refine GG_iald hk (pc' := 146) rfl rfl dX8_tells_145 rfl (fun v12 e_v12 => ?_)
            refine GG_goto hk 158 dX8_tells_146 (by decide) ?_
            refine GG_iast hk (pc' := 159) rfl rfl dX8_tells_158 rfl (fun M13 e_M13 => ?_)
            refine GG_iinc hk (pc' := 162) 3 (l4 + 1) [(4, .int (l4 + 1)), (0, .ref (kh k + 163)), (2, .int l2), (3, .int l3)] dX8_tells_159 rfl rfl rfl (by decide) rfl ?_
            refine GG_goto hk 75 dX8_tells_162 (by decide) ?_
            refine GG_sub (L' := [(0, .ref (kh k + 163)), (2, .int l2), (3, .int l3), (4, .int (l4 + 1))]) [1, 2, 3, 0] rfl ?_
            exact ih M13 l2 l3 (l4 + 1) 
        · refine GG_aload_n hk (pc' := 122) 0 dX8_tells_121 rfl rfl rfl ?_
          refine GG_get hk LC8 14 (v := .ref (kh k + 172)) (pc' := 125) tw_856 rfl rfl (by decide) rfl dX8_tells_122 rfl ?_
          refine GG_iconst hk (pc' := 126) 0 dX8_tells_125 rfl rfl ?_
          refine GG_iald hk (pc' := 127) rfl rfl dX8_tells_126 rfl (fun v14 e_v14 => ?_)
          refine GG_goto hk 158 dX8_tells_127 (by decide) ?_
          refine GG_iast hk (pc' := 159) rfl rfl dX8_tells_158 rfl (fun M15 e_M15 => ?_)
          refine GG_iinc hk (pc' := 162) 3 (l4 + 1) [(4, .int (l4 + 1)), (0, .ref (kh k + 163)), (2, .int l2), (3, .int l3)] dX8_tells_159 rfl rfl rfl (by decide) rfl ?_
          refine GG_goto hk 75 dX8_tells_162 (by decide) ?_
          refine GG_sub (L' := [(0, .ref (kh k + 163)), (2, .int l2), (3, .int l3), (4, .int (l4 + 1))]) [1, 2, 3, 0] rfl ?_
          exact ih M15 l2 l3 (l4 + 1) 
      · refine GG_aload_n hk (pc' := 103) 0 dX8_tells_102 rfl rfl rfl ?_
        refine GG_get hk LC8 22 (v := .ref (kh k + 180)) (pc' := 106) tw_864 rfl rfl (by decide) rfl dX8_tells_103 rfl ?_
        refine GG_iload hk (pc' := 108) 3 dX8_tells_106 rfl rfl ?_
        refine GG_iald hk (pc' := 109) rfl rfl dX8_tells_108 rfl (fun v16 e_v16 => ?_)
        refine GG_goto hk 158 dX8_tells_109 (by decide) ?_
        refine GG_iast hk (pc' := 159) rfl rfl dX8_tells_158 rfl (fun M17 e_M17 => ?_)
        refine GG_iinc hk (pc' := 162) 3 (l4 + 1) [(4, .int (l4 + 1)), (0, .ref (kh k + 163)), (2, .int l2), (3, .int l3)] dX8_tells_159 rfl rfl rfl (by decide) rfl ?_
        refine GG_goto hk 75 dX8_tells_162 (by decide) ?_
        refine GG_sub (L' := [(0, .ref (kh k + 163)), (2, .int l2), (3, .int l3), (4, .int (l4 + 1))]) [1, 2, 3, 0] rfl ?_
        exact ih M17 l2 l3 (l4 + 1) 
noncomputable def f_X8_tells_30  (M : Mem) (l2 : Int32) (l3 : Int32) (t0 : Int32) (t1 : Int32) : Option Mem :=
    Option.bind (wra 880 M 182 t1 t0) fun M1 =>
    if l3 = 0 then
      Option.bind (wra 880 M1 182 (l2 + 1) (M1 163 24)) fun M3 =>
      f_X8_tells_75  1000 M3 l2 l3 0
    else
      Option.bind (rd 12 (M1 171) 0) fun v4 =>
      if ¬ v4 = 1 then
        Option.bind (wra 880 M1 182 (l2 + 1) 1) fun M6 =>
        f_X8_tells_75  1000 M6 l2 l3 0
      else
        Option.bind (rd 12 (M1 173) 0) fun v7 =>
        Option.bind (wra 880 M1 182 (l2 + 1) (2 * v7)) fun M8 =>
        f_X8_tells_75  1000 M8 l2 l3 0
set_option maxRecDepth 20000 in
theorem m_X8_tells_30 {k : KT} {q : Mem} (hk : CX k cX8_tells RX8 5 none 222) (hq : RV k q) (M : Mem) (l2 : Int32) (l3 : Int32) (t0 : Int32) (t1 : Int32)  : GG k q (wM k M) 30 [(0, .ref (kh k + 163)), (2, .int l2), (3, .int l3)] [.int t0, .int t1, .ref (kh k + 182)] (f_X8_tells_30  M l2 l3 t0 t1) := by
  unfold f_X8_tells_30
  refine GG_iast hk (pc' := 31) rfl rfl dX8_tells_30 rfl (fun M1 e_M1 => ?_)
  refine GG_aload_n hk (pc' := 32) 0 dX8_tells_31 rfl rfl rfl ?_
  refine GG_get hk LC8 27 (v := .ref (kh k + 182)) (pc' := 35) tw_869 rfl rfl (by decide) rfl dX8_tells_32 rfl ?_
  refine GG_iload_n hk (pc' := 36) 1 dX8_tells_35 rfl rfl rfl ?_
  refine GG_iconst hk (pc' := 37) 1 dX8_tells_36 rfl rfl ?_
  refine GG_iadd hk (pc' := 38) dX8_tells_37 rfl ?_
  refine GG_iload_n hk (pc' := 39) 2 dX8_tells_38 rfl rfl rfl ?_
  refine GG_if_eq hk 67 (pc' := 42) dX8_tells_39 rfl (by decide) (fun c2 => ?_) (fun c2 => ?_)
  · refine GG_aload_n hk (pc' := 68) 0 dX8_tells_67 rfl rfl rfl ?_
    refine GG_get hk LC8 24 (v := .int (M1 163 24)) (pc' := 71) tw_866 rfl rfl (by decide) rfl dX8_tells_68 rfl ?_
    refine GG_iast hk (pc' := 72) rfl rfl dX8_tells_71 rfl (fun M3 e_M3 => ?_)
    refine GG_iconst hk (pc' := 73) 0 dX8_tells_72 rfl rfl ?_
    refine GG_istore hk (pc' := 75) [(4, .int 0), (0, .ref (kh k + 163)), (2, .int l2), (3, .int l3)] dX8_tells_73 rfl (by decide) rfl ?_
    refine GG_sub (L' := [(0, .ref (kh k + 163)), (2, .int l2), (3, .int l3), (4, .int 0)]) [1, 2, 3, 0] rfl ?_
    exact m_X8_tells_75 hk hq  1000 M3 l2 l3 0 
  · refine GG_aload_n hk (pc' := 43) 0 dX8_tells_42 rfl rfl rfl ?_
    refine GG_get hk LC8 13 (v := .ref (kh k + 171)) (pc' := 46) tw_855 rfl rfl (by decide) rfl dX8_tells_43 rfl ?_
    refine GG_iconst hk (pc' := 47) 0 dX8_tells_46 rfl rfl ?_
    refine GG_iald hk (pc' := 48) rfl rfl dX8_tells_47 rfl (fun v4 e_v4 => ?_)
    refine GG_iconst hk (pc' := 49) 1 dX8_tells_48 rfl rfl ?_
    refine GG_icmp_ne hk 63 (pc' := 52) dX8_tells_49 rfl (by decide) (fun c5 => ?_) (fun c5 => ?_)
    · refine GG_iconst hk (pc' := 64) 1 dX8_tells_63 rfl rfl ?_
      refine GG_goto hk 71 dX8_tells_64 (by decide) ?_
      refine GG_iast hk (pc' := 72) rfl rfl dX8_tells_71 rfl (fun M6 e_M6 => ?_)
      refine GG_iconst hk (pc' := 73) 0 dX8_tells_72 rfl rfl ?_
      refine GG_istore hk (pc' := 75) [(4, .int 0), (0, .ref (kh k + 163)), (2, .int l2), (3, .int l3)] dX8_tells_73 rfl (by decide) rfl ?_
      refine GG_sub (L' := [(0, .ref (kh k + 163)), (2, .int l2), (3, .int l3), (4, .int 0)]) [1, 2, 3, 0] rfl ?_
      exact m_X8_tells_75 hk hq  1000 M6 l2 l3 0 
    · refine GG_iconst hk (pc' := 53) 2 dX8_tells_52 rfl rfl ?_
      refine GG_aload_n hk (pc' := 54) 0 dX8_tells_53 rfl rfl rfl ?_
      refine GG_get hk LC8 15 (v := .ref (kh k + 173)) (pc' := 57) tw_857 rfl rfl (by decide) rfl dX8_tells_54 rfl ?_
      refine GG_iconst hk (pc' := 58) 0 dX8_tells_57 rfl rfl ?_
      refine GG_iald hk (pc' := 59) rfl rfl dX8_tells_58 rfl (fun v7 e_v7 => ?_)
      refine GG_imul hk (pc' := 60) dX8_tells_59 rfl ?_
      refine GG_goto hk 71 dX8_tells_60 (by decide) ?_
      refine GG_iast hk (pc' := 72) rfl rfl dX8_tells_71 rfl (fun M8 e_M8 => ?_)
      refine GG_iconst hk (pc' := 73) 0 dX8_tells_72 rfl rfl ?_
      refine GG_istore hk (pc' := 75) [(4, .int 0), (0, .ref (kh k + 163)), (2, .int l2), (3, .int l3)] dX8_tells_73 rfl (by decide) rfl ?_
      refine GG_sub (L' := [(0, .ref (kh k + 163)), (2, .int l2), (3, .int l3), (4, .int 0)]) [1, 2, 3, 0] rfl ?_
      exact m_X8_tells_75 hk hq  1000 M8 l2 l3 0 
noncomputable def f_X8_tells (M : Mem) (l1 : Int32) : Option Mem :=
    Option.bind (f_X8_resolves M l1) fun z1 =>
    if z1.1 = 0 then
      f_X8_tells_30  z1.2 (110 * l1) z1.1 2 (110 * l1)
    else
      Option.bind (rd 12 (z1.2 171) 0) fun v3 =>
      f_X8_tells_30  z1.2 (110 * l1) z1.1 v3 (110 * l1)
set_option maxRecDepth 20000 in
theorem m_X8_tells {k : KT} {q : Mem} (hk : CX k cX8_tells RX8 5 none 222) (hq : RV k q) (M : Mem) (l1 : Int32)  : GG k q (wM k M) 0 [(0, .ref (kh k + 163)), (1, .int l1)] [] (f_X8_tells M l1) := by
  unfold f_X8_tells
  refine GG_bipush hk (pc' := 2) 110 dX8_tells_0 rfl rfl ?_
  refine GG_iload_n hk (pc' := 3) 1 dX8_tells_2 rfl rfl rfl ?_
  refine GG_imul hk (pc' := 4) dX8_tells_3 rfl ?_
  refine GG_istore_n hk (pc' := 5) [(2, .int (110 * l1)), (0, .ref (kh k + 163)), (1, .int l1)] dX8_tells_4 rfl rfl (by decide) rfl ?_
  refine GG_aload_n hk (pc' := 6) 1 dX8_tells_5 rfl rfl rfl ?_
  refine GG_iload_n hk (pc' := 7) 2 dX8_tells_6 rfl rfl rfl ?_
  refine GG_callVi hk (st := []) (pc' := 10) mf_X8_resolves mv_X8_resolves LC8 rfl (c_X8_resolves _ _ _ M l1 ) (by omega) tw_1067 rfl rfl rfl (Nat.le_of_ble_eq_true rfl) dX8_tells_7 rfl (fun z1 e_z1 => ?_)
  refine GG_istore_n hk (pc' := 11) [(3, .int z1.1), (2, .int (110 * l1)), (0, .ref (kh k + 163)), (1, .int l1)] dX8_tells_10 rfl rfl (by decide) rfl ?_
  refine GG_aload_n hk (pc' := 12) 2 dX8_tells_11 rfl rfl rfl ?_
  refine GG_get hk LC8 27 (v := .ref (kh k + 182)) (pc' := 15) tw_869 rfl rfl (by decide) rfl dX8_tells_12 rfl ?_
  refine GG_iload_n hk (pc' := 16) 1 dX8_tells_15 rfl rfl rfl ?_
  refine GG_iload_n hk (pc' := 17) 0 dX8_tells_16 rfl rfl rfl ?_
  refine GG_if_eq hk 29 (pc' := 20) dX8_tells_17 rfl (by decide) (fun c2 => ?_) (fun c2 => ?_)
  · refine GG_iconst hk (pc' := 30) 2 dX8_tells_29 rfl rfl ?_
    refine GG_sub (L' := [(0, .ref (kh k + 163)), (2, .int (110 * l1)), (3, .int z1.1)]) [2, 1, 0] rfl ?_
    exact m_X8_tells_30 hk hq  z1.2 (110 * l1) z1.1 2 (110 * l1) 
  · refine GG_aload_n hk (pc' := 21) 2 dX8_tells_20 rfl rfl rfl ?_
    refine GG_get hk LC8 13 (v := .ref (kh k + 171)) (pc' := 24) tw_855 rfl rfl (by decide) rfl dX8_tells_21 rfl ?_
    refine GG_iconst hk (pc' := 25) 0 dX8_tells_24 rfl rfl ?_
    refine GG_iald hk (pc' := 26) rfl rfl dX8_tells_25 rfl (fun v3 e_v3 => ?_)
    refine GG_goto hk 30 dX8_tells_26 (by decide) ?_
    refine GG_sub (L' := [(0, .ref (kh k + 163)), (2, .int (110 * l1)), (3, .int z1.1)]) [2, 1, 0] rfl ?_
    exact m_X8_tells_30 hk hq  z1.2 (110 * l1) z1.1 v3 (110 * l1) 
theorem c_X8_tells (l : Launch) (C : DD) (a : Nat) (M : Mem) (l1 : Int32)  : CV l C (a) yX8_tells cX8_tells 5 222 [.ref (a + 163), .int l1] M (f_X8_tells M l1) := by
  refine CV_of RX8 (by decide +kernel) rfl (Nat.le_of_ble_eq_true rfl) (fun k q hk hq e1 e2 e3 => ?_)
  subst e1; subst e2; subst e3
  exact m_X8_tells hk hq M l1 

/-! SettingsInLayersModel.isLike(I)Z -/
noncomputable def f_X8_isLike_141  (k75 : Mem → Int32 → Int32 → Int32 → Option (Int32 × Mem)) (M : Mem) (l1 : Int32) (l2 : Int32) (l3 : Int32) (t0 : Int32) : Option (Int32 × Mem) :=
    Option.bind (f_X8_told M l1 (2 + l3)) fun z1 =>
    if z1.1 = t0 then
      k75 z1.2 l1 l2 (l3 + 1)
    else
      bret 0 z1.2
set_option maxRecDepth 20000 in
theorem m_X8_isLike_141 {k : KT} {q : Int32 × Mem} (hk : CX k cX8_isLike RX8 5 (some .boolean) 222) (hq : RI k q) (k75 : Mem → Int32 → Int32 → Int32 → Option (Int32 × Mem)) (hk75 : ∀ (M : Mem) (l1 : Int32) (l2 : Int32) (l3 : Int32) , GG k q (wM k M) 75 [(0, .ref (kh k + 163)), (1, .int l1), (2, .int l2), (3, .int l3)] [] (k75 M l1 l2 l3)) (M : Mem) (l1 : Int32) (l2 : Int32) (l3 : Int32) (t0 : Int32)  : GG k q (wM k M) 141 [(0, .ref (kh k + 163)), (1, .int l1), (2, .int l2), (3, .int l3)] [.int t0] (f_X8_isLike_141 k75 M l1 l2 l3 t0) := by
  unfold f_X8_isLike_141
  refine GG_istore hk (pc' := 143) [(4, .int t0), (0, .ref (kh k + 163)), (1, .int l1), (2, .int l2), (3, .int l3)] dX8_isLike_141 rfl (by decide) rfl ?_
  refine GG_aload_n hk (pc' := 144) 1 dX8_isLike_143 rfl rfl rfl ?_
  refine GG_iload_n hk (pc' := 145) 2 dX8_isLike_144 rfl rfl rfl ?_
  refine GG_iconst hk (pc' := 146) 2 dX8_isLike_145 rfl rfl ?_
  refine GG_iload_n hk (pc' := 147) 4 dX8_isLike_146 rfl rfl rfl ?_
  refine GG_iadd hk (pc' := 148) dX8_isLike_147 rfl ?_
  refine GG_callVi hk (st := []) (pc' := 151) mf_X8_told mv_X8_told LC8 rfl (c_X8_told _ _ _ M l1 (2 + l3) ) (by omega) tw_1139 rfl rfl rfl (Nat.le_of_ble_eq_true rfl) dX8_isLike_148 rfl (fun z1 e_z1 => ?_)
  refine GG_iload hk (pc' := 153) 0 dX8_isLike_151 rfl rfl ?_
  refine GG_icmp_eq hk 158 (pc' := 156) dX8_isLike_153 rfl (by decide) (fun c2 => ?_) (fun c2 => ?_)
  · refine GG_iinc hk (pc' := 161) 4 (l3 + 1) [(3, .int (l3 + 1)), (4, .int t0), (0, .ref (kh k + 163)), (1, .int l1), (2, .int l2)] dX8_isLike_158 rfl rfl rfl (by decide) rfl ?_
    refine GG_goto hk 75 dX8_isLike_161 (by decide) ?_
    refine GG_sub (L' := [(0, .ref (kh k + 163)), (1, .int l1), (2, .int l2), (3, .int (l3 + 1))]) [2, 3, 4, 0] rfl ?_
    exact hk75 z1.2 l1 l2 (l3 + 1) 
  · refine GG_iconst hk (pc' := 157) 0 dX8_isLike_156 rfl rfl ?_
    exact GG_zret hk hq dX8_isLike_157
noncomputable def f_X8_isLike_75  : Nat → Mem → Int32 → Int32 → Int32 → Option (Int32 × Mem)
  | 0, _, _, _, _ => none
  | n + 1, M, l1, l2, l3 =>
    Option.bind (f_X8_told M l1 1) fun z1 =>
    if z1.1 ≤ l3 then
      bret 1 z1.2
    else
      if ¬ l2 = 0 then
        Option.bind (rd 12 (z1.2 171) 0) fun v4 =>
        if ¬ v4 = 0 then
          Option.bind (rmI l3 2) fun v6 =>
          if ¬ v6 = 0 then
            Option.bind (dvI l3 2) fun v8 =>
            Option.bind (rd 120 (z1.2 177) v8) fun v9 =>
            f_X8_isLike_141 (f_X8_isLike_75  n) z1.2 l1 l2 l3 v9
          else
            Option.bind (dvI l3 2) fun v10 =>
            Option.bind (rd 120 (z1.2 176) v10) fun v11 =>
            f_X8_isLike_141 (f_X8_isLike_75  n) z1.2 l1 l2 l3 v11
        else
          Option.bind (rd 12 (z1.2 172) 0) fun v12 =>
          f_X8_isLike_141 (f_X8_isLike_75  n) z1.2 l1 l2 l3 v12
      else
        Option.bind (rd 80 (z1.2 180) l3) fun v13 =>
        f_X8_isLike_141 (f_X8_isLike_75  n) z1.2 l1 l2 l3 v13
set_option maxRecDepth 20000 in
theorem m_X8_isLike_75 {k : KT} {q : Int32 × Mem} (hk : CX k cX8_isLike RX8 5 (some .boolean) 222) (hq : RI k q) : ∀ (n : Nat) (M : Mem) (l1 : Int32) (l2 : Int32) (l3 : Int32) , GG k q (wM k M) 75 [(0, .ref (kh k + 163)), (1, .int l1), (2, .int l2), (3, .int l3)] [] (f_X8_isLike_75  n M l1 l2 l3) := by
  intro n
  induction n with
  | zero => intros; exact GG_none
  | succ n ih =>
    intro M l1 l2 l3 
    rw [f_X8_isLike_75]
    refine GG_iload_n hk (pc' := 76) 3 dX8_isLike_75 rfl rfl rfl ?_
    refine GG_aload_n hk (pc' := 77) 0 dX8_isLike_76 rfl rfl rfl ?_
    refine GG_iload_n hk (pc' := 78) 1 dX8_isLike_77 rfl rfl rfl ?_
    refine GG_iconst hk (pc' := 79) 1 dX8_isLike_78 rfl rfl ?_
    refine GG_callVi hk (st := [.int l3]) (pc' := 82) mf_X8_told mv_X8_told LC8 rfl (c_X8_told _ _ _ M l1 1 ) (by omega) tw_1139 rfl rfl rfl (Nat.le_of_ble_eq_true rfl) dX8_isLike_79 rfl (fun z1 e_z1 => ?_)
    refine GG_icmp_ge hk 164 (pc' := 85) dX8_isLike_82 rfl (by decide) (fun c2 => ?_) (fun c2 => ?_)
    · refine GG_iconst hk (pc' := 165) 1 dX8_isLike_164 rfl rfl ?_
      exact GG_zret hk hq dX8_isLike_165
    · refine GG_iload_n hk (pc' := 86) 2 dX8_isLike_85 rfl rfl rfl ?_
      refine GG_if_ne hk 98 (pc' := 89) dX8_isLike_86 rfl (by decide) (fun c3 => ?_) (fun c3 => ?_)
      · refine GG_aload_n hk (pc' := 99) 0 dX8_isLike_98 rfl rfl rfl ?_
        refine GG_get hk LC8 13 (v := .ref (kh k + 171)) (pc' := 102) tw_855 rfl rfl (by decide) rfl dX8_isLike_99 rfl ?_
        refine GG_iconst hk (pc' := 103) 0 dX8_isLike_102 rfl rfl ?_
        refine GG_iald hk (pc' := 104) rfl rfl dX8_isLike_103 rfl (fun v4 e_v4 => ?_)
        refine GG_if_ne hk 116 (pc' := 107) dX8_isLike_104 rfl (by decide) (fun c5 => ?_) (fun c5 => ?_)
        · refine GG_iload_n hk (pc' := 117) 3 dX8_isLike_116 rfl rfl rfl ?_
          refine GG_iconst hk (pc' := 118) 2 dX8_isLike_117 rfl rfl ?_
          refine GG_irem hk (pc' := 119) dX8_isLike_118 rfl (fun v6 e_v6 => ?_)
          refine GG_if_ne hk 133 (pc' := 122) dX8_isLike_119 rfl (by decide) (fun c7 => ?_) (fun c7 => ?_)
          · refine GG_aload_n hk (pc' := 134) 0 dX8_isLike_133 rfl rfl rfl ?_
            refine GG_get hk LC8 19 (v := .ref (kh k + 177)) (pc' := 137) tw_861 rfl rfl (by decide) rfl dX8_isLike_134 rfl ?_
            refine GG_iload_n hk (pc' := 138) 3 dX8_isLike_137 rfl rfl rfl ?_
            refine GG_iconst hk (pc' := 139) 2 dX8_isLike_138 rfl rfl ?_
            refine GG_idiv hk (pc' := 140) dX8_isLike_139 rfl (fun v8 e_v8 => ?_)
            refine GG_iald hk (pc' := 141) rfl rfl dX8_isLike_140 rfl (fun v9 e_v9 => ?_)
            exact m_X8_isLike_141 hk hq (f_X8_isLike_75  n) ih z1.2 l1 l2 l3 v9 
          · refine GG_aload_n hk (pc' := 123) 0 dX8_isLike_122 rfl rfl rfl ?_
            refine GG_get hk LC8 18 (v := .ref (kh k + 176)) (pc' := 126) tw_860 rfl rfl (by decide) rfl dX8_isLike_123 rfl ?_
            refine GG_iload_n hk (pc' := 127) 3 dX8_isLike_126 rfl rfl rfl ?_
            refine GG_iconst hk (pc' := 128) 2 dX8_isLike_127 rfl rfl ?_
            refine GG_idiv hk (pc' := 129) dX8_isLike_128 rfl (fun v10 e_v10 => ?_)
            refine GG_iald hk (pc' := 130) rfl rfl dX8_isLike_129 rfl (fun v11 e_v11 => ?_)
            refine GG_goto hk 141 dX8_isLike_130 (by decide) ?_
            exact m_X8_isLike_141 hk hq (f_X8_isLike_75  n) ih z1.2 l1 l2 l3 v11 
        · refine GG_aload_n hk (pc' := 108) 0 dX8_isLike_107 rfl rfl rfl ?_
          refine GG_get hk LC8 14 (v := .ref (kh k + 172)) (pc' := 111) tw_856 rfl rfl (by decide) rfl dX8_isLike_108 rfl ?_
          refine GG_iconst hk (pc' := 112) 0 dX8_isLike_111 rfl rfl ?_
          refine GG_iald hk (pc' := 113) rfl rfl dX8_isLike_112 rfl (fun v12 e_v12 => ?_)
          refine GG_goto hk 141 dX8_isLike_113 (by decide) ?_
          exact m_X8_isLike_141 hk hq (f_X8_isLike_75  n) ih z1.2 l1 l2 l3 v12 
      · refine GG_aload_n hk (pc' := 90) 0 dX8_isLike_89 rfl rfl rfl ?_
        refine GG_get hk LC8 22 (v := .ref (kh k + 180)) (pc' := 93) tw_864 rfl rfl (by decide) rfl dX8_isLike_90 rfl ?_
        refine GG_iload_n hk (pc' := 94) 3 dX8_isLike_93 rfl rfl rfl ?_
        refine GG_iald hk (pc' := 95) rfl rfl dX8_isLike_94 rfl (fun v13 e_v13 => ?_)
        refine GG_goto hk 141 dX8_isLike_95 (by decide) ?_
        exact m_X8_isLike_141 hk hq (f_X8_isLike_75  n) ih z1.2 l1 l2 l3 v13 
noncomputable def f_X8_isLike_68  (M : Mem) (l1 : Int32) (l2 : Int32) (t0 : Int32) (t1 : Int32) : Option (Int32 × Mem) :=
    if t1 = t0 then
      f_X8_isLike_75  1000 M l1 l2 0
    else
      bret 0 M
set_option maxRecDepth 20000 in
theorem m_X8_isLike_68 {k : KT} {q : Int32 × Mem} (hk : CX k cX8_isLike RX8 5 (some .boolean) 222) (hq : RI k q) (M : Mem) (l1 : Int32) (l2 : Int32) (t0 : Int32) (t1 : Int32)  : GG k q (wM k M) 68 [(0, .ref (kh k + 163)), (1, .int l1), (2, .int l2)] [.int t0, .int t1] (f_X8_isLike_68  M l1 l2 t0 t1) := by
  unfold f_X8_isLike_68
  refine GG_icmp_eq hk 73 (pc' := 71) dX8_isLike_68 rfl (by decide) (fun c1 => ?_) (fun c1 => ?_)
  · refine GG_iconst hk (pc' := 74) 0 dX8_isLike_73 rfl rfl ?_
    refine GG_istore_n hk (pc' := 75) [(3, .int 0), (0, .ref (kh k + 163)), (1, .int l1), (2, .int l2)] dX8_isLike_74 rfl rfl (by decide) rfl ?_
    refine GG_sub (L' := [(0, .ref (kh k + 163)), (1, .int l1), (2, .int l2), (3, .int 0)]) [1, 2, 3, 0] rfl ?_
    exact m_X8_isLike_75 hk hq  1000 M l1 l2 0 
  · refine GG_iconst hk (pc' := 72) 0 dX8_isLike_71 rfl rfl ?_
    exact GG_zret hk hq dX8_isLike_72
noncomputable def f_X8_isLike_26  (M : Mem) (l1 : Int32) (l2 : Int32) (t0 : Int32) (t1 : Int32) : Option (Int32 × Mem) :=
    if ¬ t1 = t0 then
      bret 0 M
    else
      Option.bind (f_X8_told M l1 1) fun z2 =>
      if l2 = 0 then
        f_X8_isLike_68  z2.2 l1 l2 (z2.2 163 24) z2.1
      else
        Option.bind (rd 12 (z2.2 171) 0) fun v4 =>
        if ¬ v4 = 1 then
          f_X8_isLike_68  z2.2 l1 l2 1 z2.1
        else
          Option.bind (rd 12 (z2.2 173) 0) fun v6 =>
          f_X8_isLike_68  z2.2 l1 l2 (2 * v6) z2.1
set_option maxRecDepth 20000 in
theorem m_X8_isLike_26 {k : KT} {q : Int32 × Mem} (hk : CX k cX8_isLike RX8 5 (some .boolean) 222) (hq : RI k q) (M : Mem) (l1 : Int32) (l2 : Int32) (t0 : Int32) (t1 : Int32)  : GG k q (wM k M) 26 [(0, .ref (kh k + 163)), (1, .int l1), (2, .int l2)] [.int t0, .int t1] (f_X8_isLike_26  M l1 l2 t0 t1) := by
  unfold f_X8_isLike_26
  refine GG_icmp_ne hk 71 (pc' := 29) dX8_isLike_26 rfl (by decide) (fun c1 => ?_) (fun c1 => ?_)
  · refine GG_iconst hk (pc' := 72) 0 dX8_isLike_71 rfl rfl ?_
    exact GG_zret hk hq dX8_isLike_72
  · refine GG_aload_n hk (pc' := 30) 0 dX8_isLike_29 rfl rfl rfl ?_
    refine GG_iload_n hk (pc' := 31) 1 dX8_isLike_30 rfl rfl rfl ?_
    refine GG_iconst hk (pc' := 32) 1 dX8_isLike_31 rfl rfl ?_
    refine GG_callVi hk (st := []) (pc' := 35) mf_X8_told mv_X8_told LC8 rfl (c_X8_told _ _ _ M l1 1 ) (by omega) tw_1139 rfl rfl rfl (Nat.le_of_ble_eq_true rfl) dX8_isLike_32 rfl (fun z2 e_z2 => ?_)
    refine GG_iload_n hk (pc' := 36) 2 dX8_isLike_35 rfl rfl rfl ?_
    refine GG_if_eq hk 64 (pc' := 39) dX8_isLike_36 rfl (by decide) (fun c3 => ?_) (fun c3 => ?_)
    · refine GG_aload_n hk (pc' := 65) 0 dX8_isLike_64 rfl rfl rfl ?_
      refine GG_get hk LC8 24 (v := .int (z2.2 163 24)) (pc' := 68) tw_866 rfl rfl (by decide) rfl dX8_isLike_65 rfl ?_
      exact m_X8_isLike_68 hk hq  z2.2 l1 l2 (z2.2 163 24) z2.1 
    · refine GG_aload_n hk (pc' := 40) 0 dX8_isLike_39 rfl rfl rfl ?_
      refine GG_get hk LC8 13 (v := .ref (kh k + 171)) (pc' := 43) tw_855 rfl rfl (by decide) rfl dX8_isLike_40 rfl ?_
      refine GG_iconst hk (pc' := 44) 0 dX8_isLike_43 rfl rfl ?_
      refine GG_iald hk (pc' := 45) rfl rfl dX8_isLike_44 rfl (fun v4 e_v4 => ?_)
      refine GG_iconst hk (pc' := 46) 1 dX8_isLike_45 rfl rfl ?_
      refine GG_icmp_ne hk 60 (pc' := 49) dX8_isLike_46 rfl (by decide) (fun c5 => ?_) (fun c5 => ?_)
      · refine GG_iconst hk (pc' := 61) 1 dX8_isLike_60 rfl rfl ?_
        refine GG_goto hk 68 dX8_isLike_61 (by decide) ?_
        exact m_X8_isLike_68 hk hq  z2.2 l1 l2 1 z2.1 
      · refine GG_iconst hk (pc' := 50) 2 dX8_isLike_49 rfl rfl ?_
        refine GG_aload_n hk (pc' := 51) 0 dX8_isLike_50 rfl rfl rfl ?_
        refine GG_get hk LC8 15 (v := .ref (kh k + 173)) (pc' := 54) tw_857 rfl rfl (by decide) rfl dX8_isLike_51 rfl ?_
        refine GG_iconst hk (pc' := 55) 0 dX8_isLike_54 rfl rfl ?_
        refine GG_iald hk (pc' := 56) rfl rfl dX8_isLike_55 rfl (fun v6 e_v6 => ?_)
        refine GG_imul hk (pc' := 57) dX8_isLike_56 rfl ?_
        refine GG_goto hk 68 dX8_isLike_57 (by decide) ?_
        exact m_X8_isLike_68 hk hq  z2.2 l1 l2 (2 * v6) z2.1 
noncomputable def f_X8_isLike (M : Mem) (l1 : Int32) : Option (Int32 × Mem) :=
    Option.bind (f_X8_resolves M l1) fun z1 =>
    Option.bind (f_X8_told z1.2 l1 0) fun z2 =>
    if z1.1 = 0 then
      f_X8_isLike_26  z2.2 l1 z1.1 2 z2.1
    else
      Option.bind (rd 12 (z2.2 171) 0) fun v4 =>
      f_X8_isLike_26  z2.2 l1 z1.1 v4 z2.1
set_option maxRecDepth 20000 in
theorem m_X8_isLike {k : KT} {q : Int32 × Mem} (hk : CX k cX8_isLike RX8 5 (some .boolean) 222) (hq : RI k q) (M : Mem) (l1 : Int32)  : GG k q (wM k M) 0 [(0, .ref (kh k + 163)), (1, .int l1)] [] (f_X8_isLike M l1) := by
  unfold f_X8_isLike
  refine GG_aload_n hk (pc' := 1) 0 dX8_isLike_0 rfl rfl rfl ?_
  refine GG_iload_n hk (pc' := 2) 1 dX8_isLike_1 rfl rfl rfl ?_
  refine GG_callVi hk (st := []) (pc' := 5) mf_X8_resolves mv_X8_resolves LC8 rfl (c_X8_resolves _ _ _ M l1 ) (by omega) tw_1067 rfl rfl rfl (Nat.le_of_ble_eq_true rfl) dX8_isLike_2 rfl (fun z1 e_z1 => ?_)
  refine GG_istore_n hk (pc' := 6) [(2, .int z1.1), (0, .ref (kh k + 163)), (1, .int l1)] dX8_isLike_5 rfl rfl (by decide) rfl ?_
  refine GG_aload_n hk (pc' := 7) 1 dX8_isLike_6 rfl rfl rfl ?_
  refine GG_iload_n hk (pc' := 8) 2 dX8_isLike_7 rfl rfl rfl ?_
  refine GG_iconst hk (pc' := 9) 0 dX8_isLike_8 rfl rfl ?_
  refine GG_callVi hk (st := []) (pc' := 12) mf_X8_told mv_X8_told LC8 rfl (c_X8_told _ _ _ z1.2 l1 0 ) (by omega) tw_1139 rfl rfl rfl (Nat.le_of_ble_eq_true rfl) dX8_isLike_9 rfl (fun z2 e_z2 => ?_)
  refine GG_iload_n hk (pc' := 13) 0 dX8_isLike_12 rfl rfl rfl ?_
  refine GG_if_eq hk 25 (pc' := 16) dX8_isLike_13 rfl (by decide) (fun c3 => ?_) (fun c3 => ?_)
  · refine GG_iconst hk (pc' := 26) 2 dX8_isLike_25 rfl rfl ?_
    refine GG_sub (L' := [(0, .ref (kh k + 163)), (1, .int l1), (2, .int z1.1)]) [1, 2, 0] rfl ?_
    exact m_X8_isLike_26 hk hq  z2.2 l1 z1.1 2 z2.1 
  · refine GG_aload_n hk (pc' := 17) 1 dX8_isLike_16 rfl rfl rfl ?_
    refine GG_get hk LC8 13 (v := .ref (kh k + 171)) (pc' := 20) tw_855 rfl rfl (by decide) rfl dX8_isLike_17 rfl ?_
    refine GG_iconst hk (pc' := 21) 0 dX8_isLike_20 rfl rfl ?_
    refine GG_iald hk (pc' := 22) rfl rfl dX8_isLike_21 rfl (fun v4 e_v4 => ?_)
    refine GG_goto hk 26 dX8_isLike_22 (by decide) ?_
    refine GG_sub (L' := [(0, .ref (kh k + 163)), (1, .int l1), (2, .int z1.1)]) [1, 2, 0] rfl ?_
    exact m_X8_isLike_26 hk hq  z2.2 l1 z1.1 v4 z2.1 
theorem c_X8_isLike (l : Launch) (C : DD) (a : Nat) (M : Mem) (l1 : Int32)  : CI l C (a) yX8_isLike cX8_isLike 5 .boolean 222 [.ref (a + 163), .int l1] M (f_X8_isLike M l1) := by
  refine CI_of RX8 (by decide +kernel) rfl (Nat.le_of_ble_eq_true rfl) (fun k q hk hq e1 e2 e3 => ?_)
  subst e1; subst e2; subst e3
  exact m_X8_isLike hk hq M l1 

/-! SettingsInLayersModel.hidden(I)I -/
noncomputable def f_X8_hidden_82  (k22 : Mem → Int32 → Int32 → Int32 → Option (Int32 × Mem)) (M : Mem) (l1 : Int32) (l3 : Int32) (l4 : Int32) (t0 : Int32) (t1 : Int32) : Option (Int32 × Mem) :=
    Option.bind (f_X8_entryAt M l3 l1) fun z1 =>
    Option.bind (wra 640 z1.2 164 (z1.1 + 0) l4) fun M2 =>
    k22 M2 l1 (t1 ||| t0) (l3 + 1)
set_option maxRecDepth 20000 in
theorem m_X8_hidden_82 {k : KT} {q : Int32 × Mem} (hk : CX k cX8_hidden RX8 5 (some .int) 223) (hq : RI k q) (k22 : Mem → Int32 → Int32 → Int32 → Option (Int32 × Mem)) (hk22 : ∀ (M : Mem) (l1 : Int32) (l2 : Int32) (l3 : Int32) , GG k q (wM k M) 22 [(0, .ref (kh k + 163)), (1, .int l1), (2, .int l2), (3, .int l3)] [] (k22 M l1 l2 l3)) (M : Mem) (l1 : Int32) (l3 : Int32) (l4 : Int32) (t0 : Int32) (t1 : Int32)  : GG k q (wM k M) 82 [(0, .ref (kh k + 163)), (1, .int l1), (3, .int l3), (4, .int l4)] [.int t0, .int t1] (f_X8_hidden_82 k22 M l1 l3 l4 t0 t1) := by
  unfold f_X8_hidden_82
  refine GG_ior hk (pc' := 83) dX8_hidden_82 rfl ?_
  refine GG_istore_n hk (pc' := 84) [(2, .int (t1 ||| t0)), (0, .ref (kh k + 163)), (1, .int l1), (3, .int l3), (4, .int l4)] dX8_hidden_83 rfl rfl (by decide) rfl ?_
  refine GG_aload_n hk (pc' := 85) 1 dX8_hidden_84 rfl rfl rfl ?_
  refine GG_get hk LC8 0 (v := .ref (kh k + 164)) (pc' := 88) tw_842 rfl rfl (by decide) rfl dX8_hidden_85 rfl ?_
  refine GG_iload_n hk (pc' := 89) 3 dX8_hidden_88 rfl rfl rfl ?_
  refine GG_iload_n hk (pc' := 90) 2 dX8_hidden_89 rfl rfl rfl ?_
  refine GG_callSi hk (st := [.ref (kh k + 164)]) (pc' := 93) mf_X8_entryAt tw_962 (c_X8_entryAt _ _ _ M l3 l1 ) (by omega) tw_961 rfl rfl (Nat.le_of_ble_eq_true rfl) dX8_hidden_90 rfl (fun z1 e_z1 => ?_)
  refine GG_iconst hk (pc' := 94) 0 dX8_hidden_93 rfl rfl ?_
  refine GG_iadd hk (pc' := 95) dX8_hidden_94 rfl ?_
  refine GG_iload hk (pc' := 97) 4 dX8_hidden_95 rfl rfl ?_
  refine GG_iast hk (pc' := 98) rfl rfl dX8_hidden_97 rfl (fun M2 e_M2 => ?_)
  refine GG_iinc hk (pc' := 101) 3 (l3 + 1) [(3, .int (l3 + 1)), (2, .int (t1 ||| t0)), (0, .ref (kh k + 163)), (1, .int l1), (4, .int l4)] dX8_hidden_98 rfl rfl rfl (by decide) rfl ?_
  refine GG_goto hk 22 dX8_hidden_101 (by decide) ?_
  refine GG_sub (L' := [(0, .ref (kh k + 163)), (1, .int l1), (2, .int (t1 ||| t0)), (3, .int (l3 + 1))]) [2, 3, 1, 0] rfl ?_
  exact hk22 M2 l1 (t1 ||| t0) (l3 + 1) 
noncomputable def f_X8_hidden_22  : Nat → Mem → Int32 → Int32 → Int32 → Option (Int32 × Mem)
  | 0, _, _, _, _ => none
  | n + 1, M, l1, l2, l3 =>
    if 6 ≤ l3 then
      some (l2, M)
    else
      Option.bind (f_X8_entryAt M l3 l1) fun z2 =>
      Option.bind (rd 640 (z2.2 164) (z2.1 + 0)) fun v3 =>
      if ¬ v3 = (-9) then
        Option.bind (f_X8_entryAt z2.2 l3 l1) fun z5 =>
        Option.bind (wra 640 z5.2 164 (z5.1 + 0) (-9)) fun M6 =>
        Option.bind (f_X8_isLike M6 l1) fun z7 =>
        if z7.1 = 0 then
          f_X8_hidden_82 (f_X8_hidden_22  n) z7.2 l1 l3 v3 0 l2
        else
          f_X8_hidden_82 (f_X8_hidden_22  n) z7.2 l1 l3 v3 (1 <<< (l3 &&& 31)) l2
      else
        f_X8_hidden_22  n z2.2 l1 l2 (l3 + 1)
set_option maxRecDepth 20000 in
theorem m_X8_hidden_22 {k : KT} {q : Int32 × Mem} (hk : CX k cX8_hidden RX8 5 (some .int) 223) (hq : RI k q) : ∀ (n : Nat) (M : Mem) (l1 : Int32) (l2 : Int32) (l3 : Int32) , GG k q (wM k M) 22 [(0, .ref (kh k + 163)), (1, .int l1), (2, .int l2), (3, .int l3)] [] (f_X8_hidden_22  n M l1 l2 l3) := by
  intro n
  induction n with
  | zero => intros; exact GG_none
  | succ n ih =>
    intro M l1 l2 l3 
    rw [f_X8_hidden_22]
    refine GG_iload_n hk (pc' := 23) 3 dX8_hidden_22 rfl rfl rfl ?_
    refine GG_bipush hk (pc' := 25) 6 dX8_hidden_23 rfl rfl ?_
    refine GG_icmp_ge hk 104 (pc' := 28) dX8_hidden_25 rfl (by decide) (fun c1 => ?_) (fun c1 => ?_)
    · refine GG_iload_n hk (pc' := 105) 2 dX8_hidden_104 rfl rfl rfl ?_
      exact GG_iret hk hq dX8_hidden_105
    · refine GG_aload_n hk (pc' := 29) 0 dX8_hidden_28 rfl rfl rfl ?_
      refine GG_get hk LC8 0 (v := .ref (kh k + 164)) (pc' := 32) tw_842 rfl rfl (by decide) rfl dX8_hidden_29 rfl ?_
      refine GG_iload_n hk (pc' := 33) 3 dX8_hidden_32 rfl rfl rfl ?_
      refine GG_iload_n hk (pc' := 34) 1 dX8_hidden_33 rfl rfl rfl ?_
      refine GG_callSi hk (st := [.ref (kh k + 164)]) (pc' := 37) mf_X8_entryAt tw_962 (c_X8_entryAt _ _ _ M l3 l1 ) (by omega) tw_961 rfl rfl (Nat.le_of_ble_eq_true rfl) dX8_hidden_34 rfl (fun z2 e_z2 => ?_)
      refine GG_iconst hk (pc' := 38) 0 dX8_hidden_37 rfl rfl ?_
      refine GG_iadd hk (pc' := 39) dX8_hidden_38 rfl ?_
      refine GG_iald hk (pc' := 40) rfl rfl dX8_hidden_39 rfl (fun v3 e_v3 => ?_)
      refine GG_istore hk (pc' := 42) [(4, .int v3), (0, .ref (kh k + 163)), (1, .int l1), (2, .int l2), (3, .int l3)] dX8_hidden_40 rfl (by decide) rfl ?_
      refine GG_iload hk (pc' := 44) 0 dX8_hidden_42 rfl rfl ?_
      refine GG_bipush hk (pc' := 46) (-9) dX8_hidden_44 rfl rfl ?_
      refine GG_icmp_ne hk 52 (pc' := 49) dX8_hidden_46 rfl (by decide) (fun c4 => ?_) (fun c4 => ?_)
      · refine GG_aload_n hk (pc' := 53) 1 dX8_hidden_52 rfl rfl rfl ?_
        refine GG_get hk LC8 0 (v := .ref (kh k + 164)) (pc' := 56) tw_842 rfl rfl (by decide) rfl dX8_hidden_53 rfl ?_
        refine GG_iload_n hk (pc' := 57) 4 dX8_hidden_56 rfl rfl rfl ?_
        refine GG_iload_n hk (pc' := 58) 2 dX8_hidden_57 rfl rfl rfl ?_
        refine GG_callSi hk (st := [.ref (kh k + 164)]) (pc' := 61) mf_X8_entryAt tw_962 (c_X8_entryAt _ _ _ z2.2 l3 l1 ) (by omega) tw_961 rfl rfl (Nat.le_of_ble_eq_true rfl) dX8_hidden_58 rfl (fun z5 e_z5 => ?_)
        refine GG_iconst hk (pc' := 62) 0 dX8_hidden_61 rfl rfl ?_
        refine GG_iadd hk (pc' := 63) dX8_hidden_62 rfl ?_
        refine GG_bipush hk (pc' := 65) (-9) dX8_hidden_63 rfl rfl ?_
        refine GG_iast hk (pc' := 66) rfl rfl dX8_hidden_65 rfl (fun M6 e_M6 => ?_)
        refine GG_iload_n hk (pc' := 67) 3 dX8_hidden_66 rfl rfl rfl ?_
        refine GG_aload_n hk (pc' := 68) 1 dX8_hidden_67 rfl rfl rfl ?_
        refine GG_iload_n hk (pc' := 69) 2 dX8_hidden_68 rfl rfl rfl ?_
        refine GG_callVi hk (st := [.int l2]) (pc' := 72) mf_X8_isLike mv_X8_isLike LC8 rfl (c_X8_isLike _ _ _ M6 l1 ) (by omega) tw_1135 rfl rfl rfl (Nat.le_of_ble_eq_true rfl) dX8_hidden_69 rfl (fun z7 e_z7 => ?_)
        refine GG_if_eq hk 81 (pc' := 75) dX8_hidden_72 rfl (by decide) (fun c8 => ?_) (fun c8 => ?_)
        · refine GG_iconst hk (pc' := 82) 0 dX8_hidden_81 rfl rfl ?_
          refine GG_sub (L' := [(0, .ref (kh k + 163)), (1, .int l1), (3, .int l3), (4, .int v3)]) [1, 2, 4, 0] rfl ?_
          exact m_X8_hidden_82 hk hq (f_X8_hidden_22  n) ih z7.2 l1 l3 v3 0 l2 
        · refine GG_iconst hk (pc' := 76) 1 dX8_hidden_75 rfl rfl ?_
          refine GG_iload_n hk (pc' := 77) 4 dX8_hidden_76 rfl rfl rfl ?_
          refine GG_ishl hk (pc' := 78) dX8_hidden_77 rfl ?_
          refine GG_goto hk 82 dX8_hidden_78 (by decide) ?_
          refine GG_sub (L' := [(0, .ref (kh k + 163)), (1, .int l1), (3, .int l3), (4, .int v3)]) [1, 2, 4, 0] rfl ?_
          exact m_X8_hidden_82 hk hq (f_X8_hidden_22  n) ih z7.2 l1 l3 v3 (1 <<< (l3 &&& 31)) l2 
      · refine GG_goto hk 98 dX8_hidden_49 (by decide) ?_
        refine GG_iinc hk (pc' := 101) 4 (l3 + 1) [(3, .int (l3 + 1)), (4, .int v3), (0, .ref (kh k + 163)), (1, .int l1), (2, .int l2)] dX8_hidden_98 rfl rfl rfl (by decide) rfl ?_
        refine GG_goto hk 22 dX8_hidden_101 (by decide) ?_
        refine GG_sub (L' := [(0, .ref (kh k + 163)), (1, .int l1), (2, .int l2), (3, .int (l3 + 1))]) [2, 3, 4, 0] rfl ?_
        exact ih z2.2 l1 l2 (l3 + 1) 
noncomputable def f_X8_hidden (M : Mem) (l1 : Int32) : Option (Int32 × Mem) :=
    Option.bind (f_X8_isKey M l1) fun z1 =>
    if ¬ z1.1 = 0 then
      Option.bind (f_X8_tells z1.2 l1) fun z3 =>
      f_X8_hidden_22  1000 z3 l1 0 0
    else
      Option.bind (f_X8_no z1.2 (-1)) fun z4 =>
      some (z4.1, z4.2)
set_option maxRecDepth 20000 in
theorem m_X8_hidden {k : KT} {q : Int32 × Mem} (hk : CX k cX8_hidden RX8 5 (some .int) 223) (hq : RI k q) (M : Mem) (l1 : Int32)  : GG k q (wM k M) 0 [(0, .ref (kh k + 163)), (1, .int l1)] [] (f_X8_hidden M l1) := by
  unfold f_X8_hidden
  refine GG_iload_n hk (pc' := 1) 1 dX8_hidden_0 rfl rfl rfl ?_
  refine GG_callSi hk (st := []) (pc' := 4) mf_X8_isKey tw_951 (c_X8_isKey _ _ _ M l1 ) (by omega) tw_950 rfl rfl (Nat.le_of_ble_eq_true rfl) dX8_hidden_1 rfl (fun z1 e_z1 => ?_)
  refine GG_if_ne hk 13 (pc' := 7) dX8_hidden_4 rfl (by decide) (fun c2 => ?_) (fun c2 => ?_)
  · refine GG_aload_n hk (pc' := 14) 0 dX8_hidden_13 rfl rfl rfl ?_
    refine GG_iload_n hk (pc' := 15) 1 dX8_hidden_14 rfl rfl rfl ?_
    refine GG_callVv hk (st := []) (pc' := 18) mf_X8_tells mv_X8_tells LC8 rfl (c_X8_tells _ _ _ z1.2 l1 ) (by omega) tw_1131 rfl rfl rfl (Nat.le_of_ble_eq_true rfl) dX8_hidden_15 rfl (fun z3 e_z3 => ?_)
    refine GG_iconst hk (pc' := 19) 0 dX8_hidden_18 rfl rfl ?_
    refine GG_istore_n hk (pc' := 20) [(2, .int 0), (0, .ref (kh k + 163)), (1, .int l1)] dX8_hidden_19 rfl rfl (by decide) rfl ?_
    refine GG_iconst hk (pc' := 21) 0 dX8_hidden_20 rfl rfl ?_
    refine GG_istore_n hk (pc' := 22) [(3, .int 0), (2, .int 0), (0, .ref (kh k + 163)), (1, .int l1)] dX8_hidden_21 rfl rfl (by decide) rfl ?_
    refine GG_sub (L' := [(0, .ref (kh k + 163)), (1, .int l1), (2, .int 0), (3, .int 0)]) [2, 3, 1, 0] rfl ?_
    exact m_X8_hidden_22 hk hq  1000 z3 l1 0 0 
  · refine GG_aload_n hk (pc' := 8) 0 dX8_hidden_7 rfl rfl rfl ?_
    refine GG_iconst hk (pc' := 9) (-1) dX8_hidden_8 rfl rfl ?_
    refine GG_callVi hk (st := []) (pc' := 12) mf_X8_no mv_X8_no LC8 rfl (c_X8_no _ _ _ z1.2 (-1) ) (by omega) tw_938 rfl rfl rfl (Nat.le_of_ble_eq_true rfl) dX8_hidden_9 rfl (fun z4 e_z4 => ?_)
    exact GG_iret hk hq dX8_hidden_12
theorem c_X8_hidden (l : Launch) (C : DD) (a : Nat) (M : Mem) (l1 : Int32)  : CI l C (a) yX8_hidden cX8_hidden 5 .int 223 [.ref (a + 163), .int l1] M (f_X8_hidden M l1) := by
  refine CI_of RX8 (by decide +kernel) rfl (Nat.le_of_ble_eq_true rfl) (fun k q hk hq e1 e2 e3 => ?_)
  subst e1; subst e2; subst e3
  exact m_X8_hidden hk hq M l1 

/-! SettingsInLayersModel.numberWith(III)I -/
noncomputable def f_X8_numberWith (M : Mem) (l1 : Int32) (l2 : Int32) (l3 : Int32) : Option (Int32 × Mem) :=
    Option.bind (rd 640 (M 164) ((3 * l1) + 0)) fun v1 =>
    Option.bind (wra 640 M 164 ((3 * l1) + 0) l2) fun M2 =>
    Option.bind (f_X8_numberOf M2 l3) fun z3 =>
    Option.bind (wra 640 z3.2 164 ((3 * l1) + 0) v1) fun M4 =>
    some (z3.1, M4)
set_option maxRecDepth 20000 in
theorem m_X8_numberWith {k : KT} {q : Int32 × Mem} (hk : CX k cX8_numberWith RX8 6 (some .int) 223) (hq : RI k q) (M : Mem) (l1 : Int32) (l2 : Int32) (l3 : Int32)  : GG k q (wM k M) 0 [(0, .ref (kh k + 163)), (1, .int l1), (2, .int l2), (3, .int l3)] [] (f_X8_numberWith M l1 l2 l3) := by
  unfold f_X8_numberWith
  refine GG_aload_n hk (pc' := 1) 0 dX8_numberWith_0 rfl rfl rfl ?_
  refine GG_get hk LC8 0 (v := .ref (kh k + 164)) (pc' := 4) tw_842 rfl rfl (by decide) rfl dX8_numberWith_1 rfl ?_
  refine GG_iconst hk (pc' := 5) 3 dX8_numberWith_4 rfl rfl ?_
  refine GG_iload_n hk (pc' := 6) 1 dX8_numberWith_5 rfl rfl rfl ?_
  refine GG_imul hk (pc' := 7) dX8_numberWith_6 rfl ?_
  refine GG_iconst hk (pc' := 8) 0 dX8_numberWith_7 rfl rfl ?_
  refine GG_iadd hk (pc' := 9) dX8_numberWith_8 rfl ?_
  refine GG_iald hk (pc' := 10) rfl rfl dX8_numberWith_9 rfl (fun v1 e_v1 => ?_)
  refine GG_istore hk (pc' := 12) [(4, .int v1), (0, .ref (kh k + 163)), (1, .int l1), (2, .int l2), (3, .int l3)] dX8_numberWith_10 rfl (by decide) rfl ?_
  refine GG_aload_n hk (pc' := 13) 1 dX8_numberWith_12 rfl rfl rfl ?_
  refine GG_get hk LC8 0 (v := .ref (kh k + 164)) (pc' := 16) tw_842 rfl rfl (by decide) rfl dX8_numberWith_13 rfl ?_
  refine GG_iconst hk (pc' := 17) 3 dX8_numberWith_16 rfl rfl ?_
  refine GG_iload_n hk (pc' := 18) 2 dX8_numberWith_17 rfl rfl rfl ?_
  refine GG_imul hk (pc' := 19) dX8_numberWith_18 rfl ?_
  refine GG_iconst hk (pc' := 20) 0 dX8_numberWith_19 rfl rfl ?_
  refine GG_iadd hk (pc' := 21) dX8_numberWith_20 rfl ?_
  refine GG_iload_n hk (pc' := 22) 3 dX8_numberWith_21 rfl rfl rfl ?_
  refine GG_iast hk (pc' := 23) rfl rfl dX8_numberWith_22 rfl (fun M2 e_M2 => ?_)
  refine GG_aload_n hk (pc' := 24) 1 dX8_numberWith_23 rfl rfl rfl ?_
  refine GG_iload_n hk (pc' := 25) 4 dX8_numberWith_24 rfl rfl rfl ?_
  refine GG_callVi hk (st := []) (pc' := 28) mf_X8_numberOf mv_X8_numberOf LC8 rfl (c_X8_numberOf _ _ _ M2 l3 ) (by omega) tw_1151 rfl rfl rfl (Nat.le_of_ble_eq_true rfl) dX8_numberWith_25 rfl (fun z3 e_z3 => ?_)
  refine GG_istore hk (pc' := 30) [(5, .int z3.1), (4, .int v1), (0, .ref (kh k + 163)), (1, .int l1), (2, .int l2), (3, .int l3)] dX8_numberWith_28 rfl (by decide) rfl ?_
  refine GG_aload_n hk (pc' := 31) 2 dX8_numberWith_30 rfl rfl rfl ?_
  refine GG_get hk LC8 0 (v := .ref (kh k + 164)) (pc' := 34) tw_842 rfl rfl (by decide) rfl dX8_numberWith_31 rfl ?_
  refine GG_iconst hk (pc' := 35) 3 dX8_numberWith_34 rfl rfl ?_
  refine GG_iload_n hk (pc' := 36) 3 dX8_numberWith_35 rfl rfl rfl ?_
  refine GG_imul hk (pc' := 37) dX8_numberWith_36 rfl ?_
  refine GG_iconst hk (pc' := 38) 0 dX8_numberWith_37 rfl rfl ?_
  refine GG_iadd hk (pc' := 39) dX8_numberWith_38 rfl ?_
  refine GG_iload hk (pc' := 41) 1 dX8_numberWith_39 rfl rfl ?_
  refine GG_iast hk (pc' := 42) rfl rfl dX8_numberWith_41 rfl (fun M4 e_M4 => ?_)
  refine GG_iload hk (pc' := 44) 0 dX8_numberWith_42 rfl rfl ?_
  exact GG_iret hk hq dX8_numberWith_44
theorem c_X8_numberWith (l : Launch) (C : DD) (a : Nat) (M : Mem) (l1 : Int32) (l2 : Int32) (l3 : Int32)  : CI l C (a) yX8_numberWith cX8_numberWith 6 .int 223 [.ref (a + 163), .int l1, .int l2, .int l3] M (f_X8_numberWith M l1 l2 l3) := by
  refine CI_of RX8 (by decide +kernel) rfl (Nat.le_of_ble_eq_true rfl) (fun k q hk hq e1 e2 e3 => ?_)
  subst e1; subst e2; subst e3
  exact m_X8_numberWith hk hq M l1 l2 l3 

/-! SettingsInLayersModel.without(II)I -/
noncomputable def f_X8_without (M : Mem) (l1 : Int32) (l2 : Int32) : Option (Int32 × Mem) :=
    Option.bind (f_X8_isLayer M l1) fun z1 =>
    if z1.1 = 0 then
      Option.bind (f_X8_no z1.2 (-1)) fun z3 =>
      some (z3.1, z3.2)
    else
      Option.bind (f_X8_isKey z1.2 l2) fun z4 =>
      if ¬ z4.1 = 0 then
        Option.bind (f_X8_numberWith z4.2 l1 0 l2) fun z6 =>
        some (z6.1, z6.2)
      else
        Option.bind (f_X8_no z4.2 (-1)) fun z7 =>
        some (z7.1, z7.2)
set_option maxRecDepth 20000 in
theorem m_X8_without {k : KT} {q : Int32 × Mem} (hk : CX k cX8_without RX8 3 (some .int) 224) (hq : RI k q) (M : Mem) (l1 : Int32) (l2 : Int32)  : GG k q (wM k M) 0 [(0, .ref (kh k + 163)), (1, .int l1), (2, .int l2)] [] (f_X8_without M l1 l2) := by
  unfold f_X8_without
  refine GG_iload_n hk (pc' := 1) 1 dX8_without_0 rfl rfl rfl ?_
  refine GG_callSi hk (st := []) (pc' := 4) mf_X8_isLayer tw_933 (c_X8_isLayer _ _ _ M l1 ) (by omega) tw_932 rfl rfl (Nat.le_of_ble_eq_true rfl) dX8_without_1 rfl (fun z1 e_z1 => ?_)
  refine GG_if_eq hk 14 (pc' := 7) dX8_without_4 rfl (by decide) (fun c2 => ?_) (fun c2 => ?_)
  · refine GG_aload_n hk (pc' := 15) 0 dX8_without_14 rfl rfl rfl ?_
    refine GG_iconst hk (pc' := 16) (-1) dX8_without_15 rfl rfl ?_
    refine GG_callVi hk (st := []) (pc' := 19) mf_X8_no mv_X8_no LC8 rfl (c_X8_no _ _ _ z1.2 (-1) ) (by omega) tw_938 rfl rfl rfl (Nat.le_of_ble_eq_true rfl) dX8_without_16 rfl (fun z3 e_z3 => ?_)
    refine GG_goto hk 29 dX8_without_19 (by decide) ?_
    exact GG_iret hk hq dX8_without_29
  · refine GG_iload_n hk (pc' := 8) 2 dX8_without_7 rfl rfl rfl ?_
    refine GG_callSi hk (st := []) (pc' := 11) mf_X8_isKey tw_951 (c_X8_isKey _ _ _ z1.2 l2 ) (by omega) tw_950 rfl rfl (Nat.le_of_ble_eq_true rfl) dX8_without_8 rfl (fun z4 e_z4 => ?_)
    refine GG_if_ne hk 22 (pc' := 14) dX8_without_11 rfl (by decide) (fun c5 => ?_) (fun c5 => ?_)
    · refine GG_aload_n hk (pc' := 23) 0 dX8_without_22 rfl rfl rfl ?_
      refine GG_iload_n hk (pc' := 24) 1 dX8_without_23 rfl rfl rfl ?_
      refine GG_iconst hk (pc' := 25) 0 dX8_without_24 rfl rfl ?_
      refine GG_iload_n hk (pc' := 26) 2 dX8_without_25 rfl rfl rfl ?_
      refine GG_callVi hk (st := []) (pc' := 29) mf_X8_numberWith mv_X8_numberWith LC8 rfl (c_X8_numberWith _ _ _ z4.2 l1 0 l2 ) (by omega) tw_1147 rfl rfl rfl (Nat.le_of_ble_eq_true rfl) dX8_without_26 rfl (fun z6 e_z6 => ?_)
      exact GG_iret hk hq dX8_without_29
    · refine GG_aload_n hk (pc' := 15) 0 dX8_without_14 rfl rfl rfl ?_
      refine GG_iconst hk (pc' := 16) (-1) dX8_without_15 rfl rfl ?_
      refine GG_callVi hk (st := []) (pc' := 19) mf_X8_no mv_X8_no LC8 rfl (c_X8_no _ _ _ z4.2 (-1) ) (by omega) tw_938 rfl rfl rfl (Nat.le_of_ble_eq_true rfl) dX8_without_16 rfl (fun z7 e_z7 => ?_)
      refine GG_goto hk 29 dX8_without_19 (by decide) ?_
      exact GG_iret hk hq dX8_without_29
theorem c_X8_without (l : Launch) (C : DD) (a : Nat) (M : Mem) (l1 : Int32) (l2 : Int32)  : CI l C (a) yX8_without cX8_without 3 .int 224 [.ref (a + 163), .int l1, .int l2] M (f_X8_without M l1 l2) := by
  refine CI_of RX8 (by decide +kernel) rfl (Nat.le_of_ble_eq_true rfl) (fun k q hk hq e1 e2 e3 => ?_)
  subst e1; subst e2; subst e3
  exact m_X8_without hk hq M l1 l2 

/-! SettingsInLayersModel.turn(II)I -/
noncomputable def f_X8_turn_52  : Nat → Mem → Int32 → Int32 → Int32 → Option (Int32 × Mem)
  | 0, _, _, _, _ => none
  | n + 1, M, l1, l2, l3 =>
    if 6 ≤ l3 then
      some ((-9), M)
    else
      Option.bind (rd 640 (M 164) ((3 * l3) + 0)) fun v2 =>
      Option.bind (f_X8_numberWith M l3 (1 - v2) l1) fun z3 =>
      if ¬ z3.1 = l2 then
        f_X8_turn_52  n z3.2 l1 l2 (l3 + 1)
      else
        some (l3, z3.2)
set_option maxRecDepth 20000 in
theorem m_X8_turn_52 {k : KT} {q : Int32 × Mem} (hk : CX k cX8_turn RX8 4 (some .int) 224) (hq : RI k q) : ∀ (n : Nat) (M : Mem) (l1 : Int32) (l2 : Int32) (l3 : Int32) , GG k q (wM k M) 52 [(0, .ref (kh k + 163)), (1, .int l1), (2, .int l2), (3, .int l3)] [] (f_X8_turn_52  n M l1 l2 l3) := by
  intro n
  induction n with
  | zero => intros; exact GG_none
  | succ n ih =>
    intro M l1 l2 l3 
    rw [f_X8_turn_52]
    refine GG_iload_n hk (pc' := 53) 3 dX8_turn_52 rfl rfl rfl ?_
    refine GG_bipush hk (pc' := 55) 6 dX8_turn_53 rfl rfl ?_
    refine GG_icmp_ge hk 88 (pc' := 58) dX8_turn_55 rfl (by decide) (fun c1 => ?_) (fun c1 => ?_)
    · refine GG_bipush hk (pc' := 90) (-9) dX8_turn_88 rfl rfl ?_
      exact GG_iret hk hq dX8_turn_90
    · refine GG_aload_n hk (pc' := 59) 0 dX8_turn_58 rfl rfl rfl ?_
      refine GG_iload_n hk (pc' := 60) 3 dX8_turn_59 rfl rfl rfl ?_
      refine GG_iconst hk (pc' := 61) 1 dX8_turn_60 rfl rfl ?_
      refine GG_aload_n hk (pc' := 62) 0 dX8_turn_61 rfl rfl rfl ?_
      refine GG_get hk LC8 0 (v := .ref (kh k + 164)) (pc' := 65) tw_842 rfl rfl (by decide) rfl dX8_turn_62 rfl ?_
      refine GG_iconst hk (pc' := 66) 3 dX8_turn_65 rfl rfl ?_
      refine GG_iload_n hk (pc' := 67) 3 dX8_turn_66 rfl rfl rfl ?_
      refine GG_imul hk (pc' := 68) dX8_turn_67 rfl ?_
      refine GG_iconst hk (pc' := 69) 0 dX8_turn_68 rfl rfl ?_
      refine GG_iadd hk (pc' := 70) dX8_turn_69 rfl ?_
      refine GG_iald hk (pc' := 71) rfl rfl dX8_turn_70 rfl (fun v2 e_v2 => ?_)
      refine GG_isub hk (pc' := 72) dX8_turn_71 rfl ?_
      refine GG_iload_n hk (pc' := 73) 1 dX8_turn_72 rfl rfl rfl ?_
      refine GG_callVi hk (st := []) (pc' := 76) mf_X8_numberWith mv_X8_numberWith LC8 rfl (c_X8_numberWith _ _ _ M l3 (1 - v2) l1 ) (by omega) tw_1147 rfl rfl rfl (Nat.le_of_ble_eq_true rfl) dX8_turn_73 rfl (fun z3 e_z3 => ?_)
      refine GG_iload_n hk (pc' := 77) 2 dX8_turn_76 rfl rfl rfl ?_
      refine GG_icmp_ne hk 82 (pc' := 80) dX8_turn_77 rfl (by decide) (fun c4 => ?_) (fun c4 => ?_)
      · refine GG_iinc hk (pc' := 85) 3 (l3 + 1) [(3, .int (l3 + 1)), (0, .ref (kh k + 163)), (1, .int l1), (2, .int l2)] dX8_turn_82 rfl rfl rfl (by decide) rfl ?_
        refine GG_goto hk 52 dX8_turn_85 (by decide) ?_
        refine GG_sub (L' := [(0, .ref (kh k + 163)), (1, .int l1), (2, .int l2), (3, .int (l3 + 1))]) [1, 2, 3, 0] rfl ?_
        exact ih z3.2 l1 l2 (l3 + 1) 
      · refine GG_iload_n hk (pc' := 81) 3 dX8_turn_80 rfl rfl rfl ?_
        exact GG_iret hk hq dX8_turn_81
noncomputable def f_X8_turn (M : Mem) (l1 : Int32) (l2 : Int32) : Option (Int32 × Mem) :=
    Option.bind (f_X8_isKey M l1) fun z1 =>
    if ¬ z1.1 = 0 then
      if 0 ≤ l2 then
        if l2 ≤ 999 then
          Option.bind (f_X8_numberOf z1.2 l1) fun z5 =>
          if ¬ z5.1 = l2 then
            f_X8_turn_52  1000 z5.2 l1 l2 0
          else
            some ((-9), z5.2)
        else
          Option.bind (f_X8_no z1.2 (-6)) fun z7 =>
          some (z7.1, z7.2)
      else
        Option.bind (f_X8_no z1.2 (-4)) fun z8 =>
        some (z8.1, z8.2)
    else
      Option.bind (f_X8_no z1.2 (-1)) fun z9 =>
      some (z9.1, z9.2)
set_option maxRecDepth 20000 in
theorem m_X8_turn {k : KT} {q : Int32 × Mem} (hk : CX k cX8_turn RX8 4 (some .int) 224) (hq : RI k q) (M : Mem) (l1 : Int32) (l2 : Int32)  : GG k q (wM k M) 0 [(0, .ref (kh k + 163)), (1, .int l1), (2, .int l2)] [] (f_X8_turn M l1 l2) := by
  unfold f_X8_turn
  refine GG_iload_n hk (pc' := 1) 1 dX8_turn_0 rfl rfl rfl ?_
  refine GG_callSi hk (st := []) (pc' := 4) mf_X8_isKey tw_951 (c_X8_isKey _ _ _ M l1 ) (by omega) tw_950 rfl rfl (Nat.le_of_ble_eq_true rfl) dX8_turn_1 rfl (fun z1 e_z1 => ?_)
  refine GG_if_ne hk 13 (pc' := 7) dX8_turn_4 rfl (by decide) (fun c2 => ?_) (fun c2 => ?_)
  · refine GG_iload_n hk (pc' := 14) 2 dX8_turn_13 rfl rfl rfl ?_
    refine GG_if_ge hk 24 (pc' := 17) dX8_turn_14 rfl (by decide) (fun c3 => ?_) (fun c3 => ?_)
    · refine GG_iload_n hk (pc' := 25) 2 dX8_turn_24 rfl rfl rfl ?_
      refine GG_sipush hk (pc' := 28) 999 dX8_turn_25 rfl rfl ?_
      refine GG_icmp_le hk 38 (pc' := 31) dX8_turn_28 rfl (by decide) (fun c4 => ?_) (fun c4 => ?_)
      · refine GG_aload_n hk (pc' := 39) 0 dX8_turn_38 rfl rfl rfl ?_
        refine GG_iload_n hk (pc' := 40) 1 dX8_turn_39 rfl rfl rfl ?_
        refine GG_callVi hk (st := []) (pc' := 43) mf_X8_numberOf mv_X8_numberOf LC8 rfl (c_X8_numberOf _ _ _ z1.2 l1 ) (by omega) tw_1151 rfl rfl rfl (Nat.le_of_ble_eq_true rfl) dX8_turn_40 rfl (fun z5 e_z5 => ?_)
        refine GG_iload_n hk (pc' := 44) 2 dX8_turn_43 rfl rfl rfl ?_
        refine GG_icmp_ne hk 50 (pc' := 47) dX8_turn_44 rfl (by decide) (fun c6 => ?_) (fun c6 => ?_)
        · refine GG_iconst hk (pc' := 51) 0 dX8_turn_50 rfl rfl ?_
          refine GG_istore_n hk (pc' := 52) [(3, .int 0), (0, .ref (kh k + 163)), (1, .int l1), (2, .int l2)] dX8_turn_51 rfl rfl (by decide) rfl ?_
          refine GG_sub (L' := [(0, .ref (kh k + 163)), (1, .int l1), (2, .int l2), (3, .int 0)]) [1, 2, 3, 0] rfl ?_
          exact m_X8_turn_52 hk hq  1000 z5.2 l1 l2 0 
        · refine GG_bipush hk (pc' := 49) (-9) dX8_turn_47 rfl rfl ?_
          exact GG_iret hk hq dX8_turn_49
      · refine GG_aload_n hk (pc' := 32) 0 dX8_turn_31 rfl rfl rfl ?_
        refine GG_bipush hk (pc' := 34) (-6) dX8_turn_32 rfl rfl ?_
        refine GG_callVi hk (st := []) (pc' := 37) mf_X8_no mv_X8_no LC8 rfl (c_X8_no _ _ _ z1.2 (-6) ) (by omega) tw_938 rfl rfl rfl (Nat.le_of_ble_eq_true rfl) dX8_turn_34 rfl (fun z7 e_z7 => ?_)
        exact GG_iret hk hq dX8_turn_37
    · refine GG_aload_n hk (pc' := 18) 0 dX8_turn_17 rfl rfl rfl ?_
      refine GG_bipush hk (pc' := 20) (-4) dX8_turn_18 rfl rfl ?_
      refine GG_callVi hk (st := []) (pc' := 23) mf_X8_no mv_X8_no LC8 rfl (c_X8_no _ _ _ z1.2 (-4) ) (by omega) tw_938 rfl rfl rfl (Nat.le_of_ble_eq_true rfl) dX8_turn_20 rfl (fun z8 e_z8 => ?_)
      exact GG_iret hk hq dX8_turn_23
  · refine GG_aload_n hk (pc' := 8) 0 dX8_turn_7 rfl rfl rfl ?_
    refine GG_iconst hk (pc' := 9) (-1) dX8_turn_8 rfl rfl ?_
    refine GG_callVi hk (st := []) (pc' := 12) mf_X8_no mv_X8_no LC8 rfl (c_X8_no _ _ _ z1.2 (-1) ) (by omega) tw_938 rfl rfl rfl (Nat.le_of_ble_eq_true rfl) dX8_turn_9 rfl (fun z9 e_z9 => ?_)
    exact GG_iret hk hq dX8_turn_12
theorem c_X8_turn (l : Launch) (C : DD) (a : Nat) (M : Mem) (l1 : Int32) (l2 : Int32)  : CI l C (a) yX8_turn cX8_turn 4 .int 224 [.ref (a + 163), .int l1, .int l2] M (f_X8_turn M l1 l2) := by
  refine CI_of RX8 (by decide +kernel) rfl (Nat.le_of_ble_eq_true rfl) (fun k q hk hq e1 e2 e3 => ?_)
  subst e1; subst e2; subst e3
  exact m_X8_turn hk hq M l1 l2 

/-! SettingsInLayersModel.set(IIII)I -/
noncomputable def f_X8_set_133  (M : Mem) (l5 : Int32) : Option (Int32 × Mem) :=
    Option.bind (f_X8_copies M 166 164) fun z1 =>
    some (l5, z1)
set_option maxRecDepth 20000 in
theorem m_X8_set_133 {k : KT} {q : Int32 × Mem} (hk : CX k cX8_set RX8 7 (some .int) 223) (hq : RI k q) (M : Mem) (l5 : Int32)  : GG k q (wM k M) 133 [(0, .ref (kh k + 163)), (5, .int l5)] [] (f_X8_set_133  M l5) := by
  unfold f_X8_set_133
  refine GG_aload_n hk (pc' := 134) 0 dX8_set_133 rfl rfl rfl ?_
  refine GG_get hk LC8 2 (v := .ref (kh k + 166)) (pc' := 137) tw_844 rfl rfl (by decide) rfl dX8_set_134 rfl ?_
  refine GG_aload_n hk (pc' := 138) 0 dX8_set_137 rfl rfl rfl ?_
  refine GG_get hk LC8 0 (v := .ref (kh k + 164)) (pc' := 141) tw_842 rfl rfl (by decide) rfl dX8_set_138 rfl ?_
  refine GG_callSv hk (st := []) (pc' := 144) mf_X8_copies tw_1033 (c_X8_copies _ _ _ M 166 164 rfl rfl) (by omega) tw_1032 rfl rfl (Nat.le_of_ble_eq_true rfl) dX8_set_141 rfl (fun z1 e_z1 => ?_)
  refine GG_iload hk (pc' := 146) 1 dX8_set_144 rfl rfl ?_
  exact GG_iret hk hq dX8_set_146
noncomputable def f_X8_set_83  : Nat → Mem → Int32 → Int32 → Int32 → Int32 → Int32 → Int32 → Option (Int32 × Mem)
  | 0, _, _, _, _, _, _, _ => none
  | n + 1, M, l1, l2, l3, l4, l5, l6 =>
    if 100 ≤ l6 then
      f_X8_set_133  M l5
    else
      if ¬ l5 = (-9) then
        f_X8_set_133  M l5
      else
        Option.bind (f_X8_tell M l1 l2 0 l6 0) fun z3 =>
        Option.bind (f_X8_numberOf z3.2 l3) fun z4 =>
        if ¬ z4.1 = l4 then
          f_X8_set_83  n z4.2 l1 l2 l3 l4 (-9) (l6 + 1)
        else
          f_X8_set_83  n z4.2 l1 l2 l3 l4 l6 (l6 + 1)
set_option maxRecDepth 20000 in
theorem m_X8_set_83 {k : KT} {q : Int32 × Mem} (hk : CX k cX8_set RX8 7 (some .int) 223) (hq : RI k q) : ∀ (n : Nat) (M : Mem) (l1 : Int32) (l2 : Int32) (l3 : Int32) (l4 : Int32) (l5 : Int32) (l6 : Int32) , GG k q (wM k M) 83 [(0, .ref (kh k + 163)), (1, .int l1), (2, .int l2), (3, .int l3), (4, .int l4), (5, .int l5), (6, .int l6)] [] (f_X8_set_83  n M l1 l2 l3 l4 l5 l6) := by
  intro n
  induction n with
  | zero => intros; exact GG_none
  | succ n ih =>
    intro M l1 l2 l3 l4 l5 l6 
    rw [f_X8_set_83]
    refine GG_iload hk (pc' := 85) 6 dX8_set_83 rfl rfl ?_
    refine GG_bipush hk (pc' := 87) 100 dX8_set_85 rfl rfl ?_
    refine GG_icmp_ge hk 133 (pc' := 90) dX8_set_87 rfl (by decide) (fun c1 => ?_) (fun c1 => ?_)
    · refine GG_sub (L' := [(0, .ref (kh k + 163)), (5, .int l5)]) [0, 5] rfl ?_
      exact m_X8_set_133 hk hq  M l5 
    · refine GG_iload hk (pc' := 92) 5 dX8_set_90 rfl rfl ?_
      refine GG_bipush hk (pc' := 94) (-9) dX8_set_92 rfl rfl ?_
      refine GG_icmp_ne hk 133 (pc' := 97) dX8_set_94 rfl (by decide) (fun c2 => ?_) (fun c2 => ?_)
      · refine GG_sub (L' := [(0, .ref (kh k + 163)), (5, .int l5)]) [0, 5] rfl ?_
        exact m_X8_set_133 hk hq  M l5 
      · refine GG_aload_n hk (pc' := 98) 0 dX8_set_97 rfl rfl rfl ?_
        refine GG_iload_n hk (pc' := 99) 1 dX8_set_98 rfl rfl rfl ?_
        refine GG_iload_n hk (pc' := 100) 2 dX8_set_99 rfl rfl rfl ?_
        refine GG_iconst hk (pc' := 101) 0 dX8_set_100 rfl rfl ?_
        refine GG_iload hk (pc' := 103) 6 dX8_set_101 rfl rfl ?_
        refine GG_iconst hk (pc' := 104) 0 dX8_set_103 rfl rfl ?_
        refine GG_callVi hk (st := []) (pc' := 107) mf_X8_tell mv_X8_tell LC8 rfl (c_X8_tell _ _ _ M l1 l2 0 l6 0 ) (by omega) tw_957 rfl rfl rfl (Nat.le_of_ble_eq_true rfl) dX8_set_104 rfl (fun z3 e_z3 => ?_)
        refine GG_pop hk (pc' := 108) dX8_set_107 rfl rfl ?_
        refine GG_aload_n hk (pc' := 109) 0 dX8_set_108 rfl rfl rfl ?_
        refine GG_iload_n hk (pc' := 110) 3 dX8_set_109 rfl rfl rfl ?_
        refine GG_callVi hk (st := []) (pc' := 113) mf_X8_numberOf mv_X8_numberOf LC8 rfl (c_X8_numberOf _ _ _ z3.2 l3 ) (by omega) tw_1151 rfl rfl rfl (Nat.le_of_ble_eq_true rfl) dX8_set_110 rfl (fun z4 e_z4 => ?_)
        refine GG_iload hk (pc' := 115) 4 dX8_set_113 rfl rfl ?_
        refine GG_icmp_ne hk 123 (pc' := 118) dX8_set_115 rfl (by decide) (fun c5 => ?_) (fun c5 => ?_)
        · refine GG_bipush hk (pc' := 125) (-9) dX8_set_123 rfl rfl ?_
          refine GG_istore hk (pc' := 127) [(5, .int (-9)), (0, .ref (kh k + 163)), (1, .int l1), (2, .int l2), (3, .int l3), (4, .int l4), (6, .int l6)] dX8_set_125 rfl (by decide) rfl ?_
          refine GG_iinc hk (pc' := 130) 6 (l6 + 1) [(6, .int (l6 + 1)), (5, .int (-9)), (0, .ref (kh k + 163)), (1, .int l1), (2, .int l2), (3, .int l3), (4, .int l4)] dX8_set_127 rfl rfl rfl (by decide) rfl ?_
          refine GG_goto hk 83 dX8_set_130 (by decide) ?_
          refine GG_sub (L' := [(0, .ref (kh k + 163)), (1, .int l1), (2, .int l2), (3, .int l3), (4, .int l4), (5, .int (-9)), (6, .int (l6 + 1))]) [2, 3, 4, 5, 6, 1, 0] rfl ?_
          exact ih z4.2 l1 l2 l3 l4 (-9) (l6 + 1) 
        · refine GG_iload hk (pc' := 120) 6 dX8_set_118 rfl rfl ?_
          refine GG_goto hk 125 dX8_set_120 (by decide) ?_
          refine GG_istore hk (pc' := 127) [(5, .int l6), (0, .ref (kh k + 163)), (1, .int l1), (2, .int l2), (3, .int l3), (4, .int l4), (6, .int l6)] dX8_set_125 rfl (by decide) rfl ?_
          refine GG_iinc hk (pc' := 130) 6 (l6 + 1) [(6, .int (l6 + 1)), (5, .int l6), (0, .ref (kh k + 163)), (1, .int l1), (2, .int l2), (3, .int l3), (4, .int l4)] dX8_set_127 rfl rfl rfl (by decide) rfl ?_
          refine GG_goto hk 83 dX8_set_130 (by decide) ?_
          refine GG_sub (L' := [(0, .ref (kh k + 163)), (1, .int l1), (2, .int l2), (3, .int l3), (4, .int l4), (5, .int l6), (6, .int (l6 + 1))]) [2, 3, 4, 5, 6, 1, 0] rfl ?_
          exact ih z4.2 l1 l2 l3 l4 l6 (l6 + 1) 
noncomputable def f_X8_set (M : Mem) (l1 : Int32) (l2 : Int32) (l3 : Int32) (l4 : Int32) : Option (Int32 × Mem) :=
    Option.bind (f_X8_isLayer M l1) fun z1 =>
    if z1.1 = 0 then
      Option.bind (f_X8_no z1.2 (-1)) fun z3 =>
      some (z3.1, z3.2)
    else
      Option.bind (f_X8_isKey z1.2 l2) fun z4 =>
      if z4.1 = 0 then
        Option.bind (f_X8_no z4.2 (-1)) fun z6 =>
        some (z6.1, z6.2)
      else
        Option.bind (f_X8_isKey z4.2 l3) fun z7 =>
        if ¬ z7.1 = 0 then
          if 0 ≤ l4 then
            if l4 ≤ 999 then
              Option.bind (f_X8_copies z7.2 164 166) fun z11 =>
              Option.bind (wra 640 z11 164 ((3 * l1) + 0) 1) fun M12 =>
              f_X8_set_83  1000 M12 l1 l2 l3 l4 (-9) 0
            else
              Option.bind (f_X8_no z7.2 (-6)) fun z13 =>
              some (z13.1, z13.2)
          else
            Option.bind (f_X8_no z7.2 (-4)) fun z14 =>
            some (z14.1, z14.2)
        else
          Option.bind (f_X8_no z7.2 (-1)) fun z15 =>
          some (z15.1, z15.2)
set_option maxRecDepth 20000 in
theorem m_X8_set {k : KT} {q : Int32 × Mem} (hk : CX k cX8_set RX8 7 (some .int) 223) (hq : RI k q) (M : Mem) (l1 : Int32) (l2 : Int32) (l3 : Int32) (l4 : Int32)  : GG k q (wM k M) 0 [(0, .ref (kh k + 163)), (1, .int l1), (2, .int l2), (3, .int l3), (4, .int l4)] [] (f_X8_set M l1 l2 l3 l4) := by
  unfold f_X8_set
  refine GG_iload_n hk (pc' := 1) 1 dX8_set_0 rfl rfl rfl ?_
  refine GG_callSi hk (st := []) (pc' := 4) mf_X8_isLayer tw_933 (c_X8_isLayer _ _ _ M l1 ) (by omega) tw_932 rfl rfl (Nat.le_of_ble_eq_true rfl) dX8_set_1 rfl (fun z1 e_z1 => ?_)
  refine GG_if_eq hk 21 (pc' := 7) dX8_set_4 rfl (by decide) (fun c2 => ?_) (fun c2 => ?_)
  · refine GG_aload_n hk (pc' := 22) 0 dX8_set_21 rfl rfl rfl ?_
    refine GG_iconst hk (pc' := 23) (-1) dX8_set_22 rfl rfl ?_
    refine GG_callVi hk (st := []) (pc' := 26) mf_X8_no mv_X8_no LC8 rfl (c_X8_no _ _ _ z1.2 (-1) ) (by omega) tw_938 rfl rfl rfl (Nat.le_of_ble_eq_true rfl) dX8_set_23 rfl (fun z3 e_z3 => ?_)
    exact GG_iret hk hq dX8_set_26
  · refine GG_iload_n hk (pc' := 8) 2 dX8_set_7 rfl rfl rfl ?_
    refine GG_callSi hk (st := []) (pc' := 11) mf_X8_isKey tw_951 (c_X8_isKey _ _ _ z1.2 l2 ) (by omega) tw_950 rfl rfl (Nat.le_of_ble_eq_true rfl) dX8_set_8 rfl (fun z4 e_z4 => ?_)
    refine GG_if_eq hk 21 (pc' := 14) dX8_set_11 rfl (by decide) (fun c5 => ?_) (fun c5 => ?_)
    · refine GG_aload_n hk (pc' := 22) 0 dX8_set_21 rfl rfl rfl ?_
      refine GG_iconst hk (pc' := 23) (-1) dX8_set_22 rfl rfl ?_
      refine GG_callVi hk (st := []) (pc' := 26) mf_X8_no mv_X8_no LC8 rfl (c_X8_no _ _ _ z4.2 (-1) ) (by omega) tw_938 rfl rfl rfl (Nat.le_of_ble_eq_true rfl) dX8_set_23 rfl (fun z6 e_z6 => ?_)
      exact GG_iret hk hq dX8_set_26
    · refine GG_iload_n hk (pc' := 15) 3 dX8_set_14 rfl rfl rfl ?_
      refine GG_callSi hk (st := []) (pc' := 18) mf_X8_isKey tw_951 (c_X8_isKey _ _ _ z4.2 l3 ) (by omega) tw_950 rfl rfl (Nat.le_of_ble_eq_true rfl) dX8_set_15 rfl (fun z7 e_z7 => ?_)
      refine GG_if_ne hk 27 (pc' := 21) dX8_set_18 rfl (by decide) (fun c8 => ?_) (fun c8 => ?_)
      · refine GG_iload hk (pc' := 29) 4 dX8_set_27 rfl rfl ?_
        refine GG_if_ge hk 39 (pc' := 32) dX8_set_29 rfl (by decide) (fun c9 => ?_) (fun c9 => ?_)
        · refine GG_iload hk (pc' := 41) 4 dX8_set_39 rfl rfl ?_
          refine GG_sipush hk (pc' := 44) 999 dX8_set_41 rfl rfl ?_
          refine GG_icmp_le hk 54 (pc' := 47) dX8_set_44 rfl (by decide) (fun c10 => ?_) (fun c10 => ?_)
          · refine GG_aload_n hk (pc' := 55) 0 dX8_set_54 rfl rfl rfl ?_
            refine GG_get hk LC8 0 (v := .ref (kh k + 164)) (pc' := 58) tw_842 rfl rfl (by decide) rfl dX8_set_55 rfl ?_
            refine GG_aload_n hk (pc' := 59) 0 dX8_set_58 rfl rfl rfl ?_
            refine GG_get hk LC8 2 (v := .ref (kh k + 166)) (pc' := 62) tw_844 rfl rfl (by decide) rfl dX8_set_59 rfl ?_
            refine GG_callSv hk (st := []) (pc' := 65) mf_X8_copies tw_1033 (c_X8_copies _ _ _ z7.2 164 166 rfl rfl) (by omega) tw_1032 rfl rfl (Nat.le_of_ble_eq_true rfl) dX8_set_62 rfl (fun z11 e_z11 => ?_)
            refine GG_bipush hk (pc' := 67) (-9) dX8_set_65 rfl rfl ?_
            refine GG_istore hk (pc' := 69) [(5, .int (-9)), (0, .ref (kh k + 163)), (1, .int l1), (2, .int l2), (3, .int l3), (4, .int l4)] dX8_set_67 rfl (by decide) rfl ?_
            refine GG_aload_n hk (pc' := 70) 1 dX8_set_69 rfl rfl rfl ?_
            refine GG_get hk LC8 0 (v := .ref (kh k + 164)) (pc' := 73) tw_842 rfl rfl (by decide) rfl dX8_set_70 rfl ?_
            refine GG_iconst hk (pc' := 74) 3 dX8_set_73 rfl rfl ?_
            refine GG_iload_n hk (pc' := 75) 2 dX8_set_74 rfl rfl rfl ?_
            refine GG_imul hk (pc' := 76) dX8_set_75 rfl ?_
            refine GG_iconst hk (pc' := 77) 0 dX8_set_76 rfl rfl ?_
            refine GG_iadd hk (pc' := 78) dX8_set_77 rfl ?_
            refine GG_iconst hk (pc' := 79) 1 dX8_set_78 rfl rfl ?_
            refine GG_iast hk (pc' := 80) rfl rfl dX8_set_79 rfl (fun M12 e_M12 => ?_)
            refine GG_iconst hk (pc' := 81) 0 dX8_set_80 rfl rfl ?_
            refine GG_istore hk (pc' := 83) [(6, .int 0), (5, .int (-9)), (0, .ref (kh k + 163)), (1, .int l1), (2, .int l2), (3, .int l3), (4, .int l4)] dX8_set_81 rfl (by decide) rfl ?_
            refine GG_sub (L' := [(0, .ref (kh k + 163)), (1, .int l1), (2, .int l2), (3, .int l3), (4, .int l4), (5, .int (-9)), (6, .int 0)]) [2, 3, 4, 5, 6, 1, 0] rfl ?_
            exact m_X8_set_83 hk hq  1000 M12 l1 l2 l3 l4 (-9) 0 
          · refine GG_aload_n hk (pc' := 48) 0 dX8_set_47 rfl rfl rfl ?_
            refine GG_bipush hk (pc' := 50) (-6) dX8_set_48 rfl rfl ?_
            refine GG_callVi hk (st := []) (pc' := 53) mf_X8_no mv_X8_no LC8 rfl (c_X8_no _ _ _ z7.2 (-6) ) (by omega) tw_938 rfl rfl rfl (Nat.le_of_ble_eq_true rfl) dX8_set_50 rfl (fun z13 e_z13 => ?_)
            exact GG_iret hk hq dX8_set_53
        · refine GG_aload_n hk (pc' := 33) 0 dX8_set_32 rfl rfl rfl ?_
          refine GG_bipush hk (pc' := 35) (-4) dX8_set_33 rfl rfl ?_
          refine GG_callVi hk (st := []) (pc' := 38) mf_X8_no mv_X8_no LC8 rfl (c_X8_no _ _ _ z7.2 (-4) ) (by omega) tw_938 rfl rfl rfl (Nat.le_of_ble_eq_true rfl) dX8_set_35 rfl (fun z14 e_z14 => ?_)
          exact GG_iret hk hq dX8_set_38
      · refine GG_aload_n hk (pc' := 22) 0 dX8_set_21 rfl rfl rfl ?_
        refine GG_iconst hk (pc' := 23) (-1) dX8_set_22 rfl rfl ?_
        refine GG_callVi hk (st := []) (pc' := 26) mf_X8_no mv_X8_no LC8 rfl (c_X8_no _ _ _ z7.2 (-1) ) (by omega) tw_938 rfl rfl rfl (Nat.le_of_ble_eq_true rfl) dX8_set_23 rfl (fun z15 e_z15 => ?_)
        exact GG_iret hk hq dX8_set_26
theorem c_X8_set (l : Launch) (C : DD) (a : Nat) (M : Mem) (l1 : Int32) (l2 : Int32) (l3 : Int32) (l4 : Int32)  : CI l C (a) yX8_set cX8_set 7 .int 223 [.ref (a + 163), .int l1, .int l2, .int l3, .int l4] M (f_X8_set M l1 l2 l3 l4) := by
  refine CI_of RX8 (by decide +kernel) rfl (Nat.le_of_ble_eq_true rfl) (fun k q hk hq e1 e2 e3 => ?_)
  subst e1; subst e2; subst e3
  exact m_X8_set hk hq M l1 l2 l3 l4 

/-! SettingsInLayersModel.byManner(II)I -/
noncomputable def f_X8_byManner_99  (M : Mem) (l1 : Int32) (l3 : Int32) (l4 : Int32) : Option (Int32 × Mem) :=
    Option.bind (wra 640 M 164 (20 + l1) l3) fun M1 =>
    some (l4, M1)
set_option maxRecDepth 20000 in
theorem m_X8_byManner_99 {k : KT} {q : Int32 × Mem} (hk : CX k cX8_byManner RX8 6 (some .int) 223) (hq : RI k q) (M : Mem) (l1 : Int32) (l3 : Int32) (l4 : Int32)  : GG k q (wM k M) 99 [(0, .ref (kh k + 163)), (1, .int l1), (3, .int l3), (4, .int l4)] [] (f_X8_byManner_99  M l1 l3 l4) := by
  unfold f_X8_byManner_99
  refine GG_aload_n hk (pc' := 100) 0 dX8_byManner_99 rfl rfl rfl ?_
  refine GG_get hk LC8 0 (v := .ref (kh k + 164)) (pc' := 103) tw_842 rfl rfl (by decide) rfl dX8_byManner_100 rfl ?_
  refine GG_bipush hk (pc' := 105) 20 dX8_byManner_103 rfl rfl ?_
  refine GG_iload_n hk (pc' := 106) 1 dX8_byManner_105 rfl rfl rfl ?_
  refine GG_iadd hk (pc' := 107) dX8_byManner_106 rfl ?_
  refine GG_iload_n hk (pc' := 108) 2 dX8_byManner_107 rfl rfl rfl ?_
  refine GG_iast hk (pc' := 109) rfl rfl dX8_byManner_108 rfl (fun M1 e_M1 => ?_)
  refine GG_iload hk (pc' := 111) 3 dX8_byManner_109 rfl rfl ?_
  exact GG_iret hk hq dX8_byManner_111
noncomputable def f_X8_byManner_54  : Nat → Mem → Int32 → Int32 → Int32 → Int32 → Int32 → Option (Int32 × Mem)
  | 0, _, _, _, _, _, _ => none
  | n + 1, M, l1, l2, l3, l4, l5 =>
    if 5 ≤ l5 then
      f_X8_byManner_99  M l1 l3 l4
    else
      Option.bind (wra 640 M 164 (20 + l1) l5) fun M2 =>
      Option.bind (f_X8_numberOf M2 l1) fun z3 =>
      if ¬ z3.1 = l2 then
        f_X8_byManner_54  n z3.2 l1 l2 l3 (l4 ||| 0) (l5 + 1)
      else
        Option.bind (some (l4 ||| (1 <<< (l5 &&& 31)))) fun v5 =>
        f_X8_byManner_54  n z3.2 l1 l2 l3 v5 (l5 + 1)
set_option maxRecDepth 20000 in
theorem m_X8_byManner_54 {k : KT} {q : Int32 × Mem} (hk : CX k cX8_byManner RX8 6 (some .int) 223) (hq : RI k q) : ∀ (n : Nat) (M : Mem) (l1 : Int32) (l2 : Int32) (l3 : Int32) (l4 : Int32) (l5 : Int32) , GG k q (wM k M) 54 [(0, .ref (kh k + 163)), (1, .int l1), (2, .int l2), (3, .int l3), (4, .int l4), (5, .int l5)] [] (f_X8_byManner_54  n M l1 l2 l3 l4 l5) := by
  intro n
  induction n with
  | zero => intros; exact GG_none
  | succ n ih =>
    intro M l1 l2 l3 l4 l5 
    rw [f_X8_byManner_54]
    refine GG_iload hk (pc' := 56) 5 dX8_byManner_54 rfl rfl ?_
    refine GG_iconst hk (pc' := 57) 5 dX8_byManner_56 rfl rfl ?_
    refine GG_icmp_ge hk 99 (pc' := 60) dX8_byManner_57 rfl (by decide) (fun c1 => ?_) (fun c1 => ?_)
    · refine GG_sub (L' := [(0, .ref (kh k + 163)), (1, .int l1), (3, .int l3), (4, .int l4)]) [0, 1, 3, 4] rfl ?_
      exact m_X8_byManner_99 hk hq  M l1 l3 l4 
    · refine GG_aload_n hk (pc' := 61) 0 dX8_byManner_60 rfl rfl rfl ?_
      refine GG_get hk LC8 0 (v := .ref (kh k + 164)) (pc' := 64) tw_842 rfl rfl (by decide) rfl dX8_byManner_61 rfl ?_
      refine GG_bipush hk (pc' := 66) 20 dX8_byManner_64 rfl rfl ?_
      refine GG_iload_n hk (pc' := 67) 1 dX8_byManner_66 rfl rfl rfl ?_
      refine GG_iadd hk (pc' := 68) dX8_byManner_67 rfl ?_
      refine GG_iload hk (pc' := 70) 5 dX8_byManner_68 rfl rfl ?_
      refine GG_iast hk (pc' := 71) rfl rfl dX8_byManner_70 rfl (fun M2 e_M2 => ?_)
      refine GG_iload hk (pc' := 73) 4 dX8_byManner_71 rfl rfl ?_
      refine GG_aload_n hk (pc' := 74) 0 dX8_byManner_73 rfl rfl rfl ?_
      refine GG_iload_n hk (pc' := 75) 1 dX8_byManner_74 rfl rfl rfl ?_
      refine GG_callVi hk (st := [.int l4]) (pc' := 78) mf_X8_numberOf mv_X8_numberOf LC8 rfl (c_X8_numberOf _ _ _ M2 l1 ) (by omega) tw_1151 rfl rfl rfl (Nat.le_of_ble_eq_true rfl) dX8_byManner_75 rfl (fun z3 e_z3 => ?_)
      refine GG_iload_n hk (pc' := 79) 2 dX8_byManner_78 rfl rfl rfl ?_
      refine GG_icmp_ne hk 89 (pc' := 82) dX8_byManner_79 rfl (by decide) (fun c4 => ?_) (fun c4 => ?_)
      · refine GG_iconst hk (pc' := 90) 0 dX8_byManner_89 rfl rfl ?_
        refine GG_ior hk (pc' := 91) dX8_byManner_90 rfl ?_
        refine GG_istore hk (pc' := 93) [(4, .int (l4 ||| 0)), (0, .ref (kh k + 163)), (1, .int l1), (2, .int l2), (3, .int l3), (5, .int l5)] dX8_byManner_91 rfl (by decide) rfl ?_
        refine GG_iinc hk (pc' := 96) 5 (l5 + 1) [(5, .int (l5 + 1)), (4, .int (l4 ||| 0)), (0, .ref (kh k + 163)), (1, .int l1), (2, .int l2), (3, .int l3)] dX8_byManner_93 rfl rfl rfl (by decide) rfl ?_
        refine GG_goto hk 54 dX8_byManner_96 (by decide) ?_
        refine GG_sub (L' := [(0, .ref (kh k + 163)), (1, .int l1), (2, .int l2), (3, .int l3), (4, .int (l4 ||| 0)), (5, .int (l5 + 1))]) [2, 3, 4, 5, 1, 0] rfl ?_
        exact ih z3.2 l1 l2 l3 (l4 ||| 0) (l5 + 1) 
      · refine GG_iconst hk (pc' := 83) 1 dX8_byManner_82 rfl rfl ?_
        refine GG_iload hk (pc' := 85) 5 dX8_byManner_83 rfl rfl ?_
        refine GG_ishl hk (pc' := 86) dX8_byManner_85 rfl ?_
        refine GG_goto hk 90 dX8_byManner_86 (by decide) ?_
        refine GG_ior hk (pc' := 91) dX8_byManner_90 rfl ?_
        refine GG_nm (fun v5 e_v5 => ?_)
        refine GG_istore hk (pc' := 93) [(4, .int v5), (0, .ref (kh k + 163)), (1, .int l1), (2, .int l2), (3, .int l3), (5, .int l5)] dX8_byManner_91 rfl (by decide) rfl ?_
        refine GG_iinc hk (pc' := 96) 5 (l5 + 1) [(5, .int (l5 + 1)), (4, .int v5), (0, .ref (kh k + 163)), (1, .int l1), (2, .int l2), (3, .int l3)] dX8_byManner_93 rfl rfl rfl (by decide) rfl ?_
        refine GG_goto hk 54 dX8_byManner_96 (by decide) ?_
        refine GG_sub (L' := [(0, .ref (kh k + 163)), (1, .int l1), (2, .int l2), (3, .int l3), (4, .int v5), (5, .int (l5 + 1))]) [2, 3, 4, 5, 1, 0] rfl ?_
        exact ih z3.2 l1 l2 l3 v5 (l5 + 1) 
noncomputable def f_X8_byManner (M : Mem) (l1 : Int32) (l2 : Int32) : Option (Int32 × Mem) :=
    Option.bind (f_X8_isKey M l1) fun z1 =>
    if ¬ z1.1 = 0 then
      if 0 ≤ l2 then
        if l2 ≤ 999 then
          Option.bind (rd 640 (z1.2 164) (20 + l1)) fun v5 =>
          f_X8_byManner_54  1000 z1.2 l1 l2 v5 0 0
        else
          Option.bind (f_X8_no z1.2 (-6)) fun z6 =>
          some (z6.1, z6.2)
      else
        Option.bind (f_X8_no z1.2 (-4)) fun z7 =>
        some (z7.1, z7.2)
    else
      Option.bind (f_X8_no z1.2 (-1)) fun z8 =>
      some (z8.1, z8.2)
set_option maxRecDepth 20000 in
theorem m_X8_byManner {k : KT} {q : Int32 × Mem} (hk : CX k cX8_byManner RX8 6 (some .int) 223) (hq : RI k q) (M : Mem) (l1 : Int32) (l2 : Int32)  : GG k q (wM k M) 0 [(0, .ref (kh k + 163)), (1, .int l1), (2, .int l2)] [] (f_X8_byManner M l1 l2) := by
  unfold f_X8_byManner
  refine GG_iload_n hk (pc' := 1) 1 dX8_byManner_0 rfl rfl rfl ?_
  refine GG_callSi hk (st := []) (pc' := 4) mf_X8_isKey tw_951 (c_X8_isKey _ _ _ M l1 ) (by omega) tw_950 rfl rfl (Nat.le_of_ble_eq_true rfl) dX8_byManner_1 rfl (fun z1 e_z1 => ?_)
  refine GG_if_ne hk 13 (pc' := 7) dX8_byManner_4 rfl (by decide) (fun c2 => ?_) (fun c2 => ?_)
  · refine GG_iload_n hk (pc' := 14) 2 dX8_byManner_13 rfl rfl rfl ?_
    refine GG_if_ge hk 24 (pc' := 17) dX8_byManner_14 rfl (by decide) (fun c3 => ?_) (fun c3 => ?_)
    · refine GG_iload_n hk (pc' := 25) 2 dX8_byManner_24 rfl rfl rfl ?_
      refine GG_sipush hk (pc' := 28) 999 dX8_byManner_25 rfl rfl ?_
      refine GG_icmp_le hk 38 (pc' := 31) dX8_byManner_28 rfl (by decide) (fun c4 => ?_) (fun c4 => ?_)
      · refine GG_aload_n hk (pc' := 39) 0 dX8_byManner_38 rfl rfl rfl ?_
        refine GG_get hk LC8 0 (v := .ref (kh k + 164)) (pc' := 42) tw_842 rfl rfl (by decide) rfl dX8_byManner_39 rfl ?_
        refine GG_bipush hk (pc' := 44) 20 dX8_byManner_42 rfl rfl ?_
        refine GG_iload_n hk (pc' := 45) 1 dX8_byManner_44 rfl rfl rfl ?_
        refine GG_iadd hk (pc' := 46) dX8_byManner_45 rfl ?_
        refine GG_iald hk (pc' := 47) rfl rfl dX8_byManner_46 rfl (fun v5 e_v5 => ?_)
        refine GG_istore_n hk (pc' := 48) [(3, .int v5), (0, .ref (kh k + 163)), (1, .int l1), (2, .int l2)] dX8_byManner_47 rfl rfl (by decide) rfl ?_
        refine GG_iconst hk (pc' := 49) 0 dX8_byManner_48 rfl rfl ?_
        refine GG_istore hk (pc' := 51) [(4, .int 0), (3, .int v5), (0, .ref (kh k + 163)), (1, .int l1), (2, .int l2)] dX8_byManner_49 rfl (by decide) rfl ?_
        refine GG_iconst hk (pc' := 52) 0 dX8_byManner_51 rfl rfl ?_
        refine GG_istore hk (pc' := 54) [(5, .int 0), (4, .int 0), (3, .int v5), (0, .ref (kh k + 163)), (1, .int l1), (2, .int l2)] dX8_byManner_52 rfl (by decide) rfl ?_
        refine GG_sub (L' := [(0, .ref (kh k + 163)), (1, .int l1), (2, .int l2), (3, .int v5), (4, .int 0), (5, .int 0)]) [3, 4, 5, 2, 1, 0] rfl ?_
        exact m_X8_byManner_54 hk hq  1000 z1.2 l1 l2 v5 0 0 
      · refine GG_aload_n hk (pc' := 32) 0 dX8_byManner_31 rfl rfl rfl ?_
        refine GG_bipush hk (pc' := 34) (-6) dX8_byManner_32 rfl rfl ?_
        refine GG_callVi hk (st := []) (pc' := 37) mf_X8_no mv_X8_no LC8 rfl (c_X8_no _ _ _ z1.2 (-6) ) (by omega) tw_938 rfl rfl rfl (Nat.le_of_ble_eq_true rfl) dX8_byManner_34 rfl (fun z6 e_z6 => ?_)
        exact GG_iret hk hq dX8_byManner_37
    · refine GG_aload_n hk (pc' := 18) 0 dX8_byManner_17 rfl rfl rfl ?_
      refine GG_bipush hk (pc' := 20) (-4) dX8_byManner_18 rfl rfl ?_
      refine GG_callVi hk (st := []) (pc' := 23) mf_X8_no mv_X8_no LC8 rfl (c_X8_no _ _ _ z1.2 (-4) ) (by omega) tw_938 rfl rfl rfl (Nat.le_of_ble_eq_true rfl) dX8_byManner_20 rfl (fun z7 e_z7 => ?_)
      exact GG_iret hk hq dX8_byManner_23
  · refine GG_aload_n hk (pc' := 8) 0 dX8_byManner_7 rfl rfl rfl ?_
    refine GG_iconst hk (pc' := 9) (-1) dX8_byManner_8 rfl rfl ?_
    refine GG_callVi hk (st := []) (pc' := 12) mf_X8_no mv_X8_no LC8 rfl (c_X8_no _ _ _ z1.2 (-1) ) (by omega) tw_938 rfl rfl rfl (Nat.le_of_ble_eq_true rfl) dX8_byManner_9 rfl (fun z8 e_z8 => ?_)
    exact GG_iret hk hq dX8_byManner_12
theorem c_X8_byManner (l : Launch) (C : DD) (a : Nat) (M : Mem) (l1 : Int32) (l2 : Int32)  : CI l C (a) yX8_byManner cX8_byManner 6 .int 223 [.ref (a + 163), .int l1, .int l2] M (f_X8_byManner M l1 l2) := by
  refine CI_of RX8 (by decide +kernel) rfl (Nat.le_of_ble_eq_true rfl) (fun k q hk hq e1 e2 e3 => ?_)
  subst e1; subst e2; subst e3
  exact m_X8_byManner hk hq M l1 l2 

/-! SettingsInLayersModel.turnsTo(I)V -/
noncomputable def f_X8_turnsTo_2  : Nat → Mem → Int32 → Int32 → Option Mem
  | 0, _, _, _ => none
  | n + 1, M, l1, l2 =>
    if 6 ≤ l2 then
      some M
    else
      Option.bind (wra 640 M 164 ((3 * l2) + 0) ((l1 >>> (l2 &&& 31)) &&& 1)) fun M2 =>
      f_X8_turnsTo_2  n M2 l1 (l2 + 1)
set_option maxRecDepth 20000 in
theorem m_X8_turnsTo_2 {k : KT} {q : Mem} (hk : CX k cX8_turnsTo RX8 3 none 1) (hq : RV k q) : ∀ (n : Nat) (M : Mem) (l1 : Int32) (l2 : Int32) , GG k q (wM k M) 2 [(0, .ref (kh k + 163)), (1, .int l1), (2, .int l2)] [] (f_X8_turnsTo_2  n M l1 l2) := by
  intro n
  induction n with
  | zero => intros; exact GG_none
  | succ n ih =>
    intro M l1 l2 
    rw [f_X8_turnsTo_2]
    refine GG_iload_n hk (pc' := 3) 2 dX8_turnsTo_2 rfl rfl rfl ?_
    refine GG_bipush hk (pc' := 5) 6 dX8_turnsTo_3 rfl rfl ?_
    refine GG_icmp_ge hk 29 (pc' := 8) dX8_turnsTo_5 rfl (by decide) (fun c1 => ?_) (fun c1 => ?_)
    · exact GG_vret hk hq dX8_turnsTo_29
    · refine GG_aload_n hk (pc' := 9) 0 dX8_turnsTo_8 rfl rfl rfl ?_
      refine GG_get hk LC8 0 (v := .ref (kh k + 164)) (pc' := 12) tw_842 rfl rfl (by decide) rfl dX8_turnsTo_9 rfl ?_
      refine GG_iconst hk (pc' := 13) 3 dX8_turnsTo_12 rfl rfl ?_
      refine GG_iload_n hk (pc' := 14) 2 dX8_turnsTo_13 rfl rfl rfl ?_
      refine GG_imul hk (pc' := 15) dX8_turnsTo_14 rfl ?_
      refine GG_iconst hk (pc' := 16) 0 dX8_turnsTo_15 rfl rfl ?_
      refine GG_iadd hk (pc' := 17) dX8_turnsTo_16 rfl ?_
      refine GG_iload_n hk (pc' := 18) 1 dX8_turnsTo_17 rfl rfl rfl ?_
      refine GG_iload_n hk (pc' := 19) 2 dX8_turnsTo_18 rfl rfl rfl ?_
      refine GG_ishr hk (pc' := 20) dX8_turnsTo_19 rfl ?_
      refine GG_iconst hk (pc' := 21) 1 dX8_turnsTo_20 rfl rfl ?_
      refine GG_iand hk (pc' := 22) dX8_turnsTo_21 rfl ?_
      refine GG_iast hk (pc' := 23) rfl rfl dX8_turnsTo_22 rfl (fun M2 e_M2 => ?_)
      refine GG_iinc hk (pc' := 26) 2 (l2 + 1) [(2, .int (l2 + 1)), (0, .ref (kh k + 163)), (1, .int l1)] dX8_turnsTo_23 rfl rfl rfl (by decide) rfl ?_
      refine GG_goto hk 2 dX8_turnsTo_26 (by decide) ?_
      refine GG_sub (L' := [(0, .ref (kh k + 163)), (1, .int l1), (2, .int (l2 + 1))]) [1, 2, 0] rfl ?_
      exact ih M2 l1 (l2 + 1) 
noncomputable def f_X8_turnsTo (M : Mem) (l1 : Int32) : Option Mem :=
    f_X8_turnsTo_2  1000 M l1 0
set_option maxRecDepth 20000 in
theorem m_X8_turnsTo {k : KT} {q : Mem} (hk : CX k cX8_turnsTo RX8 3 none 1) (hq : RV k q) (M : Mem) (l1 : Int32)  : GG k q (wM k M) 0 [(0, .ref (kh k + 163)), (1, .int l1)] [] (f_X8_turnsTo M l1) := by
  unfold f_X8_turnsTo
  refine GG_iconst hk (pc' := 1) 0 dX8_turnsTo_0 rfl rfl ?_
  refine GG_istore_n hk (pc' := 2) [(2, .int 0), (0, .ref (kh k + 163)), (1, .int l1)] dX8_turnsTo_1 rfl rfl (by decide) rfl ?_
  refine GG_sub (L' := [(0, .ref (kh k + 163)), (1, .int l1), (2, .int 0)]) [1, 2, 0] rfl ?_
  exact m_X8_turnsTo_2 hk hq  1000 M l1 0 
theorem c_X8_turnsTo (l : Launch) (C : DD) (a : Nat) (M : Mem) (l1 : Int32)  : CV l C (a) yX8_turnsTo cX8_turnsTo 3 1 [.ref (a + 163), .int l1] M (f_X8_turnsTo M l1) := by
  refine CV_of RX8 (by decide +kernel) rfl (Nat.le_of_ble_eq_true rfl) (fun k q hk hq e1 e2 e3 => ?_)
  subst e1; subst e2; subst e3
  exact m_X8_turnsTo hk hq M l1 

/-! SettingsInLayersModel.onNow()I -/
noncomputable def f_X8_onNow_4  : Nat → Mem → Int32 → Int32 → Option (Int32 × Mem)
  | 0, _, _, _ => none
  | n + 1, M, l1, l2 =>
    if 6 ≤ l2 then
      some (l1, M)
    else
      Option.bind (rd 640 (M 164) ((3 * l2) + 0)) fun v2 =>
      Option.bind (some (l1 ||| (v2 <<< (l2 &&& 31)))) fun v3 =>
      f_X8_onNow_4  n M v3 (l2 + 1)
set_option maxRecDepth 20000 in
theorem m_X8_onNow_4 {k : KT} {q : Int32 × Mem} (hk : CX k cX8_onNow RX8 3 (some .int) 1) (hq : RI k q) : ∀ (n : Nat) (M : Mem) (l1 : Int32) (l2 : Int32) , GG k q (wM k M) 4 [(0, .ref (kh k + 163)), (1, .int l1), (2, .int l2)] [] (f_X8_onNow_4  n M l1 l2) := by
  intro n
  induction n with
  | zero => intros; exact GG_none
  | succ n ih =>
    intro M l1 l2 
    rw [f_X8_onNow_4]
    refine GG_iload_n hk (pc' := 5) 2 dX8_onNow_4 rfl rfl rfl ?_
    refine GG_bipush hk (pc' := 7) 6 dX8_onNow_5 rfl rfl ?_
    refine GG_icmp_ge hk 31 (pc' := 10) dX8_onNow_7 rfl (by decide) (fun c1 => ?_) (fun c1 => ?_)
    · refine GG_iload_n hk (pc' := 32) 1 dX8_onNow_31 rfl rfl rfl ?_
      exact GG_iret hk hq dX8_onNow_32
    · refine GG_iload_n hk (pc' := 11) 1 dX8_onNow_10 rfl rfl rfl ?_
      refine GG_aload_n hk (pc' := 12) 0 dX8_onNow_11 rfl rfl rfl ?_
      refine GG_get hk LC8 0 (v := .ref (kh k + 164)) (pc' := 15) tw_842 rfl rfl (by decide) rfl dX8_onNow_12 rfl ?_
      refine GG_iconst hk (pc' := 16) 3 dX8_onNow_15 rfl rfl ?_
      refine GG_iload_n hk (pc' := 17) 2 dX8_onNow_16 rfl rfl rfl ?_
      refine GG_imul hk (pc' := 18) dX8_onNow_17 rfl ?_
      refine GG_iconst hk (pc' := 19) 0 dX8_onNow_18 rfl rfl ?_
      refine GG_iadd hk (pc' := 20) dX8_onNow_19 rfl ?_
      refine GG_iald hk (pc' := 21) rfl rfl dX8_onNow_20 rfl (fun v2 e_v2 => ?_)
      refine GG_iload_n hk (pc' := 22) 2 dX8_onNow_21 rfl rfl rfl ?_
      refine GG_ishl hk (pc' := 23) dX8_onNow_22 rfl ?_
      refine GG_ior hk (pc' := 24) dX8_onNow_23 rfl ?_
      refine GG_nm (fun v3 e_v3 => ?_)
      refine GG_istore_n hk (pc' := 25) [(1, .int v3), (0, .ref (kh k + 163)), (2, .int l2)] dX8_onNow_24 rfl rfl (by decide) rfl ?_
      refine GG_iinc hk (pc' := 28) 2 (l2 + 1) [(2, .int (l2 + 1)), (1, .int v3), (0, .ref (kh k + 163))] dX8_onNow_25 rfl rfl rfl (by decide) rfl ?_
      refine GG_goto hk 4 dX8_onNow_28 (by decide) ?_
      refine GG_sub (L' := [(0, .ref (kh k + 163)), (1, .int v3), (2, .int (l2 + 1))]) [2, 1, 0] rfl ?_
      exact ih M v3 (l2 + 1) 
noncomputable def f_X8_onNow (M : Mem)  : Option (Int32 × Mem) :=
    f_X8_onNow_4  1000 M 0 0
set_option maxRecDepth 20000 in
theorem m_X8_onNow {k : KT} {q : Int32 × Mem} (hk : CX k cX8_onNow RX8 3 (some .int) 1) (hq : RI k q) (M : Mem)   : GG k q (wM k M) 0 [(0, .ref (kh k + 163))] [] (f_X8_onNow M ) := by
  unfold f_X8_onNow
  refine GG_iconst hk (pc' := 1) 0 dX8_onNow_0 rfl rfl ?_
  refine GG_istore_n hk (pc' := 2) [(1, .int 0), (0, .ref (kh k + 163))] dX8_onNow_1 rfl rfl (by decide) rfl ?_
  refine GG_iconst hk (pc' := 3) 0 dX8_onNow_2 rfl rfl ?_
  refine GG_istore_n hk (pc' := 4) [(2, .int 0), (1, .int 0), (0, .ref (kh k + 163))] dX8_onNow_3 rfl rfl (by decide) rfl ?_
  refine GG_sub (L' := [(0, .ref (kh k + 163)), (1, .int 0), (2, .int 0)]) [2, 1, 0] rfl ?_
  exact m_X8_onNow_4 hk hq  1000 M 0 0 
theorem c_X8_onNow (l : Launch) (C : DD) (a : Nat) (M : Mem)   : CI l C (a) yX8_onNow cX8_onNow 3 .int 1 [.ref (a + 163)] M (f_X8_onNow M ) := by
  refine CI_of RX8 (by decide +kernel) rfl (Nat.le_of_ble_eq_true rfl) (fun k q hk hq e1 e2 e3 => ?_)
  subst e1; subst e2; subst e3
  exact m_X8_onNow hk hq M  

/-! SettingsInLayersModel.areLike()Z -/
noncomputable def f_X8_areLike_4  : Nat → Mem → Int32 → Int32 → Option (Int32 × Mem)
  | 0, _, _, _ => none
  | n + 1, M, l1, l2 =>
    if 8 ≤ l2 then
      bret l1 M
    else
      if l1 = 0 then
        bret l1 M
      else
        Option.bind (f_X8_isLike M l2) fun z3 =>
        f_X8_areLike_4  n z3.2 z3.1 (l2 + 1)
set_option maxRecDepth 20000 in
theorem m_X8_areLike_4 {k : KT} {q : Int32 × Mem} (hk : CX k cX8_areLike RX8 3 (some .boolean) 223) (hq : RI k q) : ∀ (n : Nat) (M : Mem) (l1 : Int32) (l2 : Int32) , GG k q (wM k M) 4 [(0, .ref (kh k + 163)), (1, .int l1), (2, .int l2)] [] (f_X8_areLike_4  n M l1 l2) := by
  intro n
  induction n with
  | zero => intros; exact GG_none
  | succ n ih =>
    intro M l1 l2 
    rw [f_X8_areLike_4]
    refine GG_iload_n hk (pc' := 5) 2 dX8_areLike_4 rfl rfl rfl ?_
    refine GG_bipush hk (pc' := 7) 8 dX8_areLike_5 rfl rfl ?_
    refine GG_icmp_ge hk 26 (pc' := 10) dX8_areLike_7 rfl (by decide) (fun c1 => ?_) (fun c1 => ?_)
    · refine GG_iload_n hk (pc' := 27) 1 dX8_areLike_26 rfl rfl rfl ?_
      exact GG_zret hk hq dX8_areLike_27
    · refine GG_iload_n hk (pc' := 11) 1 dX8_areLike_10 rfl rfl rfl ?_
      refine GG_if_eq hk 26 (pc' := 14) dX8_areLike_11 rfl (by decide) (fun c2 => ?_) (fun c2 => ?_)
      · refine GG_iload_n hk (pc' := 27) 1 dX8_areLike_26 rfl rfl rfl ?_
        exact GG_zret hk hq dX8_areLike_27
      · refine GG_aload_n hk (pc' := 15) 0 dX8_areLike_14 rfl rfl rfl ?_
        refine GG_iload_n hk (pc' := 16) 2 dX8_areLike_15 rfl rfl rfl ?_
        refine GG_callVi hk (st := []) (pc' := 19) mf_X8_isLike mv_X8_isLike LC8 rfl (c_X8_isLike _ _ _ M l2 ) (by omega) tw_1135 rfl rfl rfl (Nat.le_of_ble_eq_true rfl) dX8_areLike_16 rfl (fun z3 e_z3 => ?_)
        refine GG_istore_n hk (pc' := 20) [(1, .int z3.1), (0, .ref (kh k + 163)), (2, .int l2)] dX8_areLike_19 rfl rfl (by decide) rfl ?_
        refine GG_iinc hk (pc' := 23) 2 (l2 + 1) [(2, .int (l2 + 1)), (1, .int z3.1), (0, .ref (kh k + 163))] dX8_areLike_20 rfl rfl rfl (by decide) rfl ?_
        refine GG_goto hk 4 dX8_areLike_23 (by decide) ?_
        refine GG_sub (L' := [(0, .ref (kh k + 163)), (1, .int z3.1), (2, .int (l2 + 1))]) [2, 1, 0] rfl ?_
        exact ih z3.2 z3.1 (l2 + 1) 
noncomputable def f_X8_areLike (M : Mem)  : Option (Int32 × Mem) :=
    f_X8_areLike_4  1000 M 1 0
set_option maxRecDepth 20000 in
theorem m_X8_areLike {k : KT} {q : Int32 × Mem} (hk : CX k cX8_areLike RX8 3 (some .boolean) 223) (hq : RI k q) (M : Mem)   : GG k q (wM k M) 0 [(0, .ref (kh k + 163))] [] (f_X8_areLike M ) := by
  unfold f_X8_areLike
  refine GG_iconst hk (pc' := 1) 1 dX8_areLike_0 rfl rfl ?_
  refine GG_istore_n hk (pc' := 2) [(1, .int 1), (0, .ref (kh k + 163))] dX8_areLike_1 rfl rfl (by decide) rfl ?_
  refine GG_iconst hk (pc' := 3) 0 dX8_areLike_2 rfl rfl ?_
  refine GG_istore_n hk (pc' := 4) [(2, .int 0), (1, .int 1), (0, .ref (kh k + 163))] dX8_areLike_3 rfl rfl (by decide) rfl ?_
  refine GG_sub (L' := [(0, .ref (kh k + 163)), (1, .int 1), (2, .int 0)]) [2, 1, 0] rfl ?_
  exact m_X8_areLike_4 hk hq  1000 M 1 0 
theorem c_X8_areLike (l : Launch) (C : DD) (a : Nat) (M : Mem)   : CI l C (a) yX8_areLike cX8_areLike 3 .boolean 223 [.ref (a + 163)] M (f_X8_areLike M ) := by
  refine CI_of RX8 (by decide +kernel) rfl (Nat.le_of_ble_eq_true rfl) (fun k q hk hq e1 e2 e3 => ?_)
  subst e1; subst e2; subst e3
  exact m_X8_areLike hk hq M  

/-! SettingsInLayersModel.fewest()I -/
noncomputable def f_X8_fewest_29  : Nat → Mem → Int32 → Int32 → Int32 → Option (Int32 × Mem)
  | 0, _, _, _, _ => none
  | n + 1, M, l1, l2, l3 =>
    if l3 < 0 then
      Option.bind (f_X8_turnsTo M l1) fun z2 =>
      some (l2, z2)
    else
      Option.bind (f_X8_ones M l3) fun z3 =>
      Option.bind (f_X8_ones z3.2 l2) fun z4 =>
      if z3.1 ≤ z4.1 then
        Option.bind (f_X8_turnsTo z4.2 l3) fun z6 =>
        Option.bind (f_X8_areLike z6 ) fun z7 =>
        if z7.1 = 0 then
          f_X8_fewest_29  n z7.2 l1 l2 (l3 + (-1))
        else
          f_X8_fewest_29  n z7.2 l1 l3 (l3 + (-1))
      else
        f_X8_fewest_29  n z4.2 l1 l2 (l3 + (-1))
set_option maxRecDepth 20000 in
theorem m_X8_fewest_29 {k : KT} {q : Int32 × Mem} (hk : CX k cX8_fewest RX8 4 (some .int) 224) (hq : RI k q) : ∀ (n : Nat) (M : Mem) (l1 : Int32) (l2 : Int32) (l3 : Int32) , GG k q (wM k M) 29 [(0, .ref (kh k + 163)), (1, .int l1), (2, .int l2), (3, .int l3)] [] (f_X8_fewest_29  n M l1 l2 l3) := by
  intro n
  induction n with
  | zero => intros; exact GG_none
  | succ n ih =>
    intro M l1 l2 l3 
    rw [f_X8_fewest_29]
    refine GG_iload_n hk (pc' := 30) 3 dX8_fewest_29 rfl rfl rfl ?_
    refine GG_if_lt hk 71 (pc' := 33) dX8_fewest_30 rfl (by decide) (fun c1 => ?_) (fun c1 => ?_)
    · refine GG_aload_n hk (pc' := 72) 0 dX8_fewest_71 rfl rfl rfl ?_
      refine GG_iload_n hk (pc' := 73) 1 dX8_fewest_72 rfl rfl rfl ?_
      refine GG_callVv hk (st := []) (pc' := 76) mf_X8_turnsTo mv_X8_turnsTo LC8 rfl (c_X8_turnsTo _ _ _ M l1 ) (by omega) tw_1175 rfl rfl rfl (Nat.le_of_ble_eq_true rfl) dX8_fewest_73 rfl (fun z2 e_z2 => ?_)
      refine GG_iload_n hk (pc' := 77) 2 dX8_fewest_76 rfl rfl rfl ?_
      exact GG_iret hk hq dX8_fewest_77
    · refine GG_iload_n hk (pc' := 34) 3 dX8_fewest_33 rfl rfl rfl ?_
      refine GG_callSi hk (st := []) (pc' := 37) mf_X8_ones tw_998 (c_X8_ones _ _ _ M l3 ) (by omega) tw_997 rfl rfl (Nat.le_of_ble_eq_true rfl) dX8_fewest_34 rfl (fun z3 e_z3 => ?_)
      refine GG_iload_n hk (pc' := 38) 2 dX8_fewest_37 rfl rfl rfl ?_
      refine GG_callSi hk (st := [.int z3.1]) (pc' := 41) mf_X8_ones tw_998 (c_X8_ones _ _ _ z3.2 l2 ) (by omega) tw_997 rfl rfl (Nat.le_of_ble_eq_true rfl) dX8_fewest_38 rfl (fun z4 e_z4 => ?_)
      refine GG_icmp_le hk 47 (pc' := 44) dX8_fewest_41 rfl (by decide) (fun c5 => ?_) (fun c5 => ?_)
      · refine GG_aload_n hk (pc' := 48) 0 dX8_fewest_47 rfl rfl rfl ?_
        refine GG_iload_n hk (pc' := 49) 3 dX8_fewest_48 rfl rfl rfl ?_
        refine GG_callVv hk (st := []) (pc' := 52) mf_X8_turnsTo mv_X8_turnsTo LC8 rfl (c_X8_turnsTo _ _ _ z4.2 l3 ) (by omega) tw_1175 rfl rfl rfl (Nat.le_of_ble_eq_true rfl) dX8_fewest_49 rfl (fun z6 e_z6 => ?_)
        refine GG_aload_n hk (pc' := 53) 0 dX8_fewest_52 rfl rfl rfl ?_
        refine GG_callVi hk (st := []) (pc' := 56) mf_X8_areLike mv_X8_areLike LC8 rfl (c_X8_areLike _ _ _ z6  ) (by omega) tw_1179 rfl rfl rfl (Nat.le_of_ble_eq_true rfl) dX8_fewest_53 rfl (fun z7 e_z7 => ?_)
        refine GG_if_eq hk 63 (pc' := 59) dX8_fewest_56 rfl (by decide) (fun c8 => ?_) (fun c8 => ?_)
        · refine GG_iload_n hk (pc' := 64) 2 dX8_fewest_63 rfl rfl rfl ?_
          refine GG_istore_n hk (pc' := 65) [(2, .int l2), (0, .ref (kh k + 163)), (1, .int l1), (3, .int l3)] dX8_fewest_64 rfl rfl (by decide) rfl ?_
          refine GG_iinc hk (pc' := 68) 3 (l3 + (-1)) [(3, .int (l3 + (-1))), (2, .int l2), (0, .ref (kh k + 163)), (1, .int l1)] dX8_fewest_65 rfl rfl rfl (by decide) rfl ?_
          refine GG_goto hk 29 dX8_fewest_68 (by decide) ?_
          refine GG_sub (L' := [(0, .ref (kh k + 163)), (1, .int l1), (2, .int l2), (3, .int (l3 + (-1)))]) [2, 3, 1, 0] rfl ?_
          exact ih z7.2 l1 l2 (l3 + (-1)) 
        · refine GG_iload_n hk (pc' := 60) 3 dX8_fewest_59 rfl rfl rfl ?_
          refine GG_goto hk 64 dX8_fewest_60 (by decide) ?_
          refine GG_istore_n hk (pc' := 65) [(2, .int l3), (0, .ref (kh k + 163)), (1, .int l1), (3, .int l3)] dX8_fewest_64 rfl rfl (by decide) rfl ?_
          refine GG_iinc hk (pc' := 68) 3 (l3 + (-1)) [(3, .int (l3 + (-1))), (2, .int l3), (0, .ref (kh k + 163)), (1, .int l1)] dX8_fewest_65 rfl rfl rfl (by decide) rfl ?_
          refine GG_goto hk 29 dX8_fewest_68 (by decide) ?_
          refine GG_sub (L' := [(0, .ref (kh k + 163)), (1, .int l1), (2, .int l3), (3, .int (l3 + (-1)))]) [2, 3, 1, 0] rfl ?_
          exact ih z7.2 l1 l3 (l3 + (-1)) 
      · refine GG_goto hk 65 dX8_fewest_44 (by decide) ?_
        refine GG_iinc hk (pc' := 68) 3 (l3 + (-1)) [(3, .int (l3 + (-1))), (0, .ref (kh k + 163)), (1, .int l1), (2, .int l2)] dX8_fewest_65 rfl rfl rfl (by decide) rfl ?_
        refine GG_goto hk 29 dX8_fewest_68 (by decide) ?_
        refine GG_sub (L' := [(0, .ref (kh k + 163)), (1, .int l1), (2, .int l2), (3, .int (l3 + (-1)))]) [1, 2, 3, 0] rfl ?_
        exact ih z4.2 l1 l2 (l3 + (-1)) 
noncomputable def f_X8_fewest_2  : Nat → Mem → Int32 → Option (Int32 × Mem)
  | 0, _, _ => none
  | n + 1, M, l1 =>
    if 8 ≤ l1 then
      Option.bind (f_X8_onNow M ) fun z2 =>
      f_X8_fewest_29  1000 z2.2 z2.1 z2.1 63
    else
      Option.bind (f_X8_tells M l1) fun z3 =>
      f_X8_fewest_2  n z3 (l1 + 1)
set_option maxRecDepth 20000 in
theorem m_X8_fewest_2 {k : KT} {q : Int32 × Mem} (hk : CX k cX8_fewest RX8 4 (some .int) 224) (hq : RI k q) : ∀ (n : Nat) (M : Mem) (l1 : Int32) , GG k q (wM k M) 2 [(0, .ref (kh k + 163)), (1, .int l1)] [] (f_X8_fewest_2  n M l1) := by
  intro n
  induction n with
  | zero => intros; exact GG_none
  | succ n ih =>
    intro M l1 
    rw [f_X8_fewest_2]
    refine GG_iload_n hk (pc' := 3) 1 dX8_fewest_2 rfl rfl rfl ?_
    refine GG_bipush hk (pc' := 5) 8 dX8_fewest_3 rfl rfl ?_
    refine GG_icmp_ge hk 19 (pc' := 8) dX8_fewest_5 rfl (by decide) (fun c1 => ?_) (fun c1 => ?_)
    · refine GG_aload_n hk (pc' := 20) 0 dX8_fewest_19 rfl rfl rfl ?_
      refine GG_callVi hk (st := []) (pc' := 23) mf_X8_onNow mv_X8_onNow LC8 rfl (c_X8_onNow _ _ _ M  ) (by omega) tw_1171 rfl rfl rfl (Nat.le_of_ble_eq_true rfl) dX8_fewest_20 rfl (fun z2 e_z2 => ?_)
      refine GG_istore_n hk (pc' := 24) [(1, .int z2.1), (0, .ref (kh k + 163))] dX8_fewest_23 rfl rfl (by decide) rfl ?_
      refine GG_iload_n hk (pc' := 25) 0 dX8_fewest_24 rfl rfl rfl ?_
      refine GG_istore_n hk (pc' := 26) [(2, .int z2.1), (1, .int z2.1), (0, .ref (kh k + 163))] dX8_fewest_25 rfl rfl (by decide) rfl ?_
      refine GG_bipush hk (pc' := 28) 63 dX8_fewest_26 rfl rfl ?_
      refine GG_istore_n hk (pc' := 29) [(3, .int 63), (2, .int z2.1), (1, .int z2.1), (0, .ref (kh k + 163))] dX8_fewest_28 rfl rfl (by decide) rfl ?_
      refine GG_sub (L' := [(0, .ref (kh k + 163)), (1, .int z2.1), (2, .int z2.1), (3, .int 63)]) [3, 2, 1, 0] rfl ?_
      exact m_X8_fewest_29 hk hq  1000 z2.2 z2.1 z2.1 63 
    · refine GG_aload_n hk (pc' := 9) 0 dX8_fewest_8 rfl rfl rfl ?_
      refine GG_iload_n hk (pc' := 10) 1 dX8_fewest_9 rfl rfl rfl ?_
      refine GG_callVv hk (st := []) (pc' := 13) mf_X8_tells mv_X8_tells LC8 rfl (c_X8_tells _ _ _ M l1 ) (by omega) tw_1131 rfl rfl rfl (Nat.le_of_ble_eq_true rfl) dX8_fewest_10 rfl (fun z3 e_z3 => ?_)
      refine GG_iinc hk (pc' := 16) 1 (l1 + 1) [(1, .int (l1 + 1)), (0, .ref (kh k + 163))] dX8_fewest_13 rfl rfl rfl (by decide) rfl ?_
      refine GG_goto hk 2 dX8_fewest_16 (by decide) ?_
      refine GG_sub (L' := [(0, .ref (kh k + 163)), (1, .int (l1 + 1))]) [1, 0] rfl ?_
      exact ih z3 (l1 + 1) 
noncomputable def f_X8_fewest (M : Mem)  : Option (Int32 × Mem) :=
    f_X8_fewest_2  1000 M 0
set_option maxRecDepth 20000 in
theorem m_X8_fewest {k : KT} {q : Int32 × Mem} (hk : CX k cX8_fewest RX8 4 (some .int) 224) (hq : RI k q) (M : Mem)   : GG k q (wM k M) 0 [(0, .ref (kh k + 163))] [] (f_X8_fewest M ) := by
  unfold f_X8_fewest
  refine GG_iconst hk (pc' := 1) 0 dX8_fewest_0 rfl rfl ?_
  refine GG_istore_n hk (pc' := 2) [(1, .int 0), (0, .ref (kh k + 163))] dX8_fewest_1 rfl rfl (by decide) rfl ?_
  refine GG_sub (L' := [(0, .ref (kh k + 163)), (1, .int 0)]) [1, 0] rfl ?_
  exact m_X8_fewest_2 hk hq  1000 M 0 
theorem c_X8_fewest (l : Launch) (C : DD) (a : Nat) (M : Mem)   : CI l C (a) yX8_fewest cX8_fewest 4 .int 224 [.ref (a + 163)] M (f_X8_fewest M ) := by
  refine CI_of RX8 (by decide +kernel) rfl (Nat.le_of_ble_eq_true rfl) (fun k q hk hq e1 e2 e3 => ?_)
  subst e1; subst e2; subst e3
  exact m_X8_fewest hk hq M  

/-! SettingsInLayersModel.since()I -/
noncomputable def f_X8_since_70  : Nat → Mem → Int32 → Int32 → Option (Int32 × Mem)
  | 0, _, _, _ => none
  | n + 1, M, l1, l2 =>
    if 8 ≤ l2 then
      some (l1, M)
    else
      Option.bind (f_X8_isLike M l2) fun z2 =>
      if z2.1 = 0 then
        Option.bind (some (l1 ||| (1 <<< (l2 &&& 31)))) fun v4 =>
        f_X8_since_70  n z2.2 v4 (l2 + 1)
      else
        f_X8_since_70  n z2.2 (l1 ||| 0) (l2 + 1)
set_option maxRecDepth 20000 in
theorem m_X8_since_70 {k : KT} {q : Int32 × Mem} (hk : CX k cX8_since RX8 3 (some .int) 223) (hq : RI k q) : ∀ (n : Nat) (M : Mem) (l1 : Int32) (l2 : Int32) , GG k q (wM k M) 70 [(0, .ref (kh k + 163)), (1, .int l1), (2, .int l2)] [] (f_X8_since_70  n M l1 l2) := by
  intro n
  induction n with
  | zero => intros; exact GG_none
  | succ n ih =>
    intro M l1 l2 
    rw [f_X8_since_70]
    refine GG_iload_n hk (pc' := 71) 2 dX8_since_70 rfl rfl rfl ?_
    refine GG_bipush hk (pc' := 73) 8 dX8_since_71 rfl rfl ?_
    refine GG_icmp_ge hk 100 (pc' := 76) dX8_since_73 rfl (by decide) (fun c1 => ?_) (fun c1 => ?_)
    · refine GG_iload_n hk (pc' := 101) 1 dX8_since_100 rfl rfl rfl ?_
      exact GG_iret hk hq dX8_since_101
    · refine GG_iload_n hk (pc' := 77) 1 dX8_since_76 rfl rfl rfl ?_
      refine GG_aload_n hk (pc' := 78) 0 dX8_since_77 rfl rfl rfl ?_
      refine GG_iload_n hk (pc' := 79) 2 dX8_since_78 rfl rfl rfl ?_
      refine GG_callVi hk (st := [.int l1]) (pc' := 82) mf_X8_isLike mv_X8_isLike LC8 rfl (c_X8_isLike _ _ _ M l2 ) (by omega) tw_1135 rfl rfl rfl (Nat.le_of_ble_eq_true rfl) dX8_since_79 rfl (fun z2 e_z2 => ?_)
      refine GG_if_eq hk 89 (pc' := 85) dX8_since_82 rfl (by decide) (fun c3 => ?_) (fun c3 => ?_)
      · refine GG_iconst hk (pc' := 90) 1 dX8_since_89 rfl rfl ?_
        refine GG_iload_n hk (pc' := 91) 2 dX8_since_90 rfl rfl rfl ?_
        refine GG_ishl hk (pc' := 92) dX8_since_91 rfl ?_
        refine GG_ior hk (pc' := 93) dX8_since_92 rfl ?_
        refine GG_nm (fun v4 e_v4 => ?_)
        refine GG_istore_n hk (pc' := 94) [(1, .int v4), (0, .ref (kh k + 163)), (2, .int l2)] dX8_since_93 rfl rfl (by decide) rfl ?_
        refine GG_iinc hk (pc' := 97) 2 (l2 + 1) [(2, .int (l2 + 1)), (1, .int v4), (0, .ref (kh k + 163))] dX8_since_94 rfl rfl rfl (by decide) rfl ?_
        refine GG_goto hk 70 dX8_since_97 (by decide) ?_
        refine GG_sub (L' := [(0, .ref (kh k + 163)), (1, .int v4), (2, .int (l2 + 1))]) [2, 1, 0] rfl ?_
        exact ih z2.2 v4 (l2 + 1) 
      · refine GG_iconst hk (pc' := 86) 0 dX8_since_85 rfl rfl ?_
        refine GG_goto hk 92 dX8_since_86 (by decide) ?_
        refine GG_ior hk (pc' := 93) dX8_since_92 rfl ?_
        refine GG_istore_n hk (pc' := 94) [(1, .int (l1 ||| 0)), (0, .ref (kh k + 163)), (2, .int l2)] dX8_since_93 rfl rfl (by decide) rfl ?_
        refine GG_iinc hk (pc' := 97) 2 (l2 + 1) [(2, .int (l2 + 1)), (1, .int (l1 ||| 0)), (0, .ref (kh k + 163))] dX8_since_94 rfl rfl rfl (by decide) rfl ?_
        refine GG_goto hk 70 dX8_since_97 (by decide) ?_
        refine GG_sub (L' := [(0, .ref (kh k + 163)), (1, .int (l1 ||| 0)), (2, .int (l2 + 1))]) [2, 1, 0] rfl ?_
        exact ih z2.2 (l1 ||| 0) (l2 + 1) 
noncomputable def f_X8_since_55  (M : Mem)  : Option (Int32 × Mem) :=
    Option.bind (f_X8_copies M 166 164) fun z1 =>
    f_X8_since_70  1000 z1 0 0
set_option maxRecDepth 20000 in
theorem m_X8_since_55 {k : KT} {q : Int32 × Mem} (hk : CX k cX8_since RX8 3 (some .int) 223) (hq : RI k q) (M : Mem)   : GG k q (wM k M) 55 [(0, .ref (kh k + 163))] [] (f_X8_since_55  M ) := by
  unfold f_X8_since_55
  refine GG_aload_n hk (pc' := 56) 0 dX8_since_55 rfl rfl rfl ?_
  refine GG_get hk LC8 2 (v := .ref (kh k + 166)) (pc' := 59) tw_844 rfl rfl (by decide) rfl dX8_since_56 rfl ?_
  refine GG_aload_n hk (pc' := 60) 0 dX8_since_59 rfl rfl rfl ?_
  refine GG_get hk LC8 0 (v := .ref (kh k + 164)) (pc' := 63) tw_842 rfl rfl (by decide) rfl dX8_since_60 rfl ?_
  refine GG_callSv hk (st := []) (pc' := 66) mf_X8_copies tw_1033 (c_X8_copies _ _ _ M 166 164 rfl rfl) (by omega) tw_1032 rfl rfl (Nat.le_of_ble_eq_true rfl) dX8_since_63 rfl (fun z1 e_z1 => ?_)
  refine GG_iconst hk (pc' := 67) 0 dX8_since_66 rfl rfl ?_
  refine GG_istore_n hk (pc' := 68) [(1, .int 0), (0, .ref (kh k + 163))] dX8_since_67 rfl rfl (by decide) rfl ?_
  refine GG_iconst hk (pc' := 69) 0 dX8_since_68 rfl rfl ?_
  refine GG_istore_n hk (pc' := 70) [(2, .int 0), (1, .int 0), (0, .ref (kh k + 163))] dX8_since_69 rfl rfl (by decide) rfl ?_
  refine GG_sub (L' := [(0, .ref (kh k + 163)), (1, .int 0), (2, .int 0)]) [2, 1, 0] rfl ?_
  exact m_X8_since_70 hk hq  1000 z1 0 0 
noncomputable def f_X8_since_38  : Nat → Mem → Int32 → Option (Int32 × Mem)
  | 0, _, _ => none
  | n + 1, M, l1 =>
    if 8 ≤ l1 then
      f_X8_since_55  M 
    else
      Option.bind (f_X8_tells M l1) fun z2 =>
      f_X8_since_38  n z2 (l1 + 1)
set_option maxRecDepth 20000 in
theorem m_X8_since_38 {k : KT} {q : Int32 × Mem} (hk : CX k cX8_since RX8 3 (some .int) 223) (hq : RI k q) : ∀ (n : Nat) (M : Mem) (l1 : Int32) , GG k q (wM k M) 38 [(0, .ref (kh k + 163)), (1, .int l1)] [] (f_X8_since_38  n M l1) := by
  intro n
  induction n with
  | zero => intros; exact GG_none
  | succ n ih =>
    intro M l1 
    rw [f_X8_since_38]
    refine GG_iload_n hk (pc' := 39) 1 dX8_since_38 rfl rfl rfl ?_
    refine GG_bipush hk (pc' := 41) 8 dX8_since_39 rfl rfl ?_
    refine GG_icmp_ge hk 55 (pc' := 44) dX8_since_41 rfl (by decide) (fun c1 => ?_) (fun c1 => ?_)
    · refine GG_sub (L' := [(0, .ref (kh k + 163))]) [0] rfl ?_
      exact m_X8_since_55 hk hq  M  
    · refine GG_aload_n hk (pc' := 45) 0 dX8_since_44 rfl rfl rfl ?_
      refine GG_iload_n hk (pc' := 46) 1 dX8_since_45 rfl rfl rfl ?_
      refine GG_callVv hk (st := []) (pc' := 49) mf_X8_tells mv_X8_tells LC8 rfl (c_X8_tells _ _ _ M l1 ) (by omega) tw_1131 rfl rfl rfl (Nat.le_of_ble_eq_true rfl) dX8_since_46 rfl (fun z2 e_z2 => ?_)
      refine GG_iinc hk (pc' := 52) 1 (l1 + 1) [(1, .int (l1 + 1)), (0, .ref (kh k + 163))] dX8_since_49 rfl rfl rfl (by decide) rfl ?_
      refine GG_goto hk 38 dX8_since_52 (by decide) ?_
      refine GG_sub (L' := [(0, .ref (kh k + 163)), (1, .int (l1 + 1))]) [1, 0] rfl ?_
      exact ih z2 (l1 + 1) 
noncomputable def f_X8_since (M : Mem)  : Option (Int32 × Mem) :=
    if ¬ (M 163 12) = 0 then
      Option.bind (f_X8_copies M 164 166) fun z2 =>
      Option.bind (f_X8_copies z2 165 164) fun z3 =>
      f_X8_since_38  1000 z3 0
    else
      Option.bind (f_X8_no M (-3)) fun z4 =>
      some (z4.1, z4.2)
set_option maxRecDepth 20000 in
theorem m_X8_since {k : KT} {q : Int32 × Mem} (hk : CX k cX8_since RX8 3 (some .int) 223) (hq : RI k q) (M : Mem)   : GG k q (wM k M) 0 [(0, .ref (kh k + 163))] [] (f_X8_since M ) := by
  unfold f_X8_since
  refine GG_aload_n hk (pc' := 1) 0 dX8_since_0 rfl rfl rfl ?_
  refine GG_get hk LC8 12 (v := .int (M 163 12)) (pc' := 4) tw_854 rfl rfl (by decide) rfl dX8_since_1 rfl ?_
  refine GG_if_ne hk 14 (pc' := 7) dX8_since_4 rfl (by decide) (fun c1 => ?_) (fun c1 => ?_)
  · refine GG_aload_n hk (pc' := 15) 0 dX8_since_14 rfl rfl rfl ?_
    refine GG_get hk LC8 0 (v := .ref (kh k + 164)) (pc' := 18) tw_842 rfl rfl (by decide) rfl dX8_since_15 rfl ?_
    refine GG_aload_n hk (pc' := 19) 0 dX8_since_18 rfl rfl rfl ?_
    refine GG_get hk LC8 2 (v := .ref (kh k + 166)) (pc' := 22) tw_844 rfl rfl (by decide) rfl dX8_since_19 rfl ?_
    refine GG_callSv hk (st := []) (pc' := 25) mf_X8_copies tw_1033 (c_X8_copies _ _ _ M 164 166 rfl rfl) (by omega) tw_1032 rfl rfl (Nat.le_of_ble_eq_true rfl) dX8_since_22 rfl (fun z2 e_z2 => ?_)
    refine GG_aload_n hk (pc' := 26) 0 dX8_since_25 rfl rfl rfl ?_
    refine GG_get hk LC8 1 (v := .ref (kh k + 165)) (pc' := 29) tw_843 rfl rfl (by decide) rfl dX8_since_26 rfl ?_
    refine GG_aload_n hk (pc' := 30) 0 dX8_since_29 rfl rfl rfl ?_
    refine GG_get hk LC8 0 (v := .ref (kh k + 164)) (pc' := 33) tw_842 rfl rfl (by decide) rfl dX8_since_30 rfl ?_
    refine GG_callSv hk (st := []) (pc' := 36) mf_X8_copies tw_1033 (c_X8_copies _ _ _ z2 165 164 rfl rfl) (by omega) tw_1032 rfl rfl (Nat.le_of_ble_eq_true rfl) dX8_since_33 rfl (fun z3 e_z3 => ?_)
    refine GG_iconst hk (pc' := 37) 0 dX8_since_36 rfl rfl ?_
    refine GG_istore_n hk (pc' := 38) [(1, .int 0), (0, .ref (kh k + 163))] dX8_since_37 rfl rfl (by decide) rfl ?_
    refine GG_sub (L' := [(0, .ref (kh k + 163)), (1, .int 0)]) [1, 0] rfl ?_
    exact m_X8_since_38 hk hq  1000 z3 0 
  · refine GG_aload_n hk (pc' := 8) 0 dX8_since_7 rfl rfl rfl ?_
    refine GG_bipush hk (pc' := 10) (-3) dX8_since_8 rfl rfl ?_
    refine GG_callVi hk (st := []) (pc' := 13) mf_X8_no mv_X8_no LC8 rfl (c_X8_no _ _ _ M (-3) ) (by omega) tw_938 rfl rfl rfl (Nat.le_of_ble_eq_true rfl) dX8_since_10 rfl (fun z4 e_z4 => ?_)
    exact GG_iret hk hq dX8_since_13
theorem c_X8_since (l : Launch) (C : DD) (a : Nat) (M : Mem)   : CI l C (a) yX8_since cX8_since 3 .int 223 [.ref (a + 163)] M (f_X8_since M ) := by
  refine CI_of RX8 (by decide +kernel) rfl (Nat.le_of_ble_eq_true rfl) (fun k q hk hq e1 e2 e3 => ?_)
  subst e1; subst e2; subst e3
  exact m_X8_since hk hq M  

/-! SettingsInLayersModel.common(JJ)J -/
noncomputable def f_X8_common_b (rs : Mem → Int64 → Int64 → Option (Int64 × Mem)) (M : Mem) (l0 : Int64) (l2 : Int64) : Option (Int64 × Mem) :=
    if ¬ (lg_cmp l2 0) = 0 then
      Option.bind (rmL l0 l2) fun v2 =>
      Option.bind (rs M l2 v2) fun z3 =>
      some (z3.1, z3.2)
    else
      some (l0, M)
noncomputable def f_X8_common : Nat → Mem → Int64 → Int64 → Option (Int64 × Mem)
  | 0 => fun _ _ _ => none
  | n + 1 => fun M l0 l2 => f_X8_common_b (f_X8_common n) M l0 l2
set_option maxRecDepth 20000 in
theorem m_X8_common {k : KT} {q : Int64 × Mem} (rs : Mem → Int64 → Int64 → Option (Int64 × Mem)) (hr : Nat) (hb : 10 ≤ hr) (hrs : ∀ (M : Mem) (x0 : Int64) (x1 : Int64), CL (kl k) (kC k) (kh k) yX8_common cX8_common 4 hr [.long x0, .long x1] M (rs M x0 x1)) (hk : CX k cX8_common RX8 4 (some .long) (hr + 10)) (hq : RL_ k q) (M : Mem) (l0 : Int64) (l2 : Int64)  : GG k q (wM k M) 0 [(0, .long l0), (2, .long l2)] [] (f_X8_common_b rs M l0 l2) := by
  unfold f_X8_common_b
  refine GG_lload_n hk (pc' := 1) 1 dX8_common_0 rfl rfl rfl ?_
  refine GG_lconst hk (pc' := 2) 0 dX8_common_1 rfl rfl ?_
  refine GG_lcmp hk (pc' := 3) dX8_common_2 rfl ?_
  refine GG_if_ne hk 10 (pc' := 6) dX8_common_3 rfl (by decide) (fun c1 => ?_) (fun c1 => ?_)
  · refine GG_lload_n hk (pc' := 11) 1 dX8_common_10 rfl rfl rfl ?_
    refine GG_lload_n hk (pc' := 12) 0 dX8_common_11 rfl rfl rfl ?_
    refine GG_lload_n hk (pc' := 13) 1 dX8_common_12 rfl rfl rfl ?_
    refine GG_lrem hk (pc' := 14) dX8_common_13 rfl (fun v2 e_v2 => ?_)
    refine GG_callSl hk (st := []) (pc' := 17) mf_X8_common tw_1200 (hrs M l2 v2) (by omega) tw_1199 rfl rfl (Nat.le_of_ble_eq_true rfl) dX8_common_14 rfl (fun z3 e_z3 => ?_)
    exact GG_lret hk hq dX8_common_17
  · refine GG_lload_n hk (pc' := 7) 0 dX8_common_6 rfl rfl rfl ?_
    refine GG_goto hk 17 dX8_common_7 (by decide) ?_
    exact GG_lret hk hq dX8_common_17
theorem hx_X8_common {k : KT} {n : Nat} (hk : CX k cX8_common RX8 4 (some .long) (10 * (n + 1) + 10)) : CX k cX8_common RX8 4 (some .long) (10 * n + 10 + 10) := by
  have e : 10 * (n + 1) + 10 = 10 * n + 10 + 10 := by omega
  rw [e] at hk
  exact hk
theorem c_X8_common (l : Launch) (C : DD) (a : Nat) : ∀ (n : Nat) (M : Mem) (l0 : Int64) (l2 : Int64), CL l C (a) yX8_common cX8_common 4 (10 * n + 10) [.long l0, .long l2] M (f_X8_common n M l0 l2) := by
  intro n
  induction n with
  | zero => intro M l0 l2 q e; exact absurd e (fun e => nomatch e)
  | succ n ih =>
    intro M l0 l2
    refine CL_of RX8 (by decide +kernel) rfl (Nat.le_of_ble_eq_true rfl) (fun k q hk hq e1 e2 e3 => ?_)
    subst e1; subst e2; subst e3
    exact m_X8_common (f_X8_common n) (10 * n + 10) (by omega) ih (hx_X8_common hk) hq M l0 l2

/-! SettingsInLayersModel.part(JJI)J -/
noncomputable def f_X8_part (M : Mem) (l0 : Int64) (l2 : Int64) (l4 : Int32) : Option (Int64 × Mem) :=
    if ¬ l4 = 0 then
      Option.bind (f_X8_common 60 M l0 l2) fun z2 =>
      Option.bind (dvL l2 z2.1) fun v3 =>
      some (v3, z2.2)
    else
      Option.bind (f_X8_common 60 M l0 l2) fun z4 =>
      Option.bind (dvL l0 z4.1) fun v5 =>
      some (v5, z4.2)
set_option maxRecDepth 20000 in
theorem m_X8_part {k : KT} {q : Int64 × Mem} (hk : CX k cX8_part RX8 5 (some .long) 611) (hq : RL_ k q) (M : Mem) (l0 : Int64) (l2 : Int64) (l4 : Int32)  : GG k q (wM k M) 0 [(0, .long l0), (2, .long l2), (4, .int l4)] [] (f_X8_part M l0 l2 l4) := by
  unfold f_X8_part
  refine GG_iload hk (pc' := 2) 2 dX8_part_0 rfl rfl ?_
  refine GG_if_ne hk 9 (pc' := 5) dX8_part_2 rfl (by decide) (fun c1 => ?_) (fun c1 => ?_)
  · refine GG_lload_n hk (pc' := 10) 1 dX8_part_9 rfl rfl rfl ?_
    refine GG_lload_n hk (pc' := 11) 0 dX8_part_10 rfl rfl rfl ?_
    refine GG_lload_n hk (pc' := 12) 1 dX8_part_11 rfl rfl rfl ?_
    refine GG_callSl hk (st := [.long l2]) (pc' := 15) mf_X8_common tw_1200 (c_X8_common _ _ _ 60 M l0 l2) (by omega) tw_1199 rfl rfl (Nat.le_of_ble_eq_true rfl) dX8_part_12 rfl (fun z2 e_z2 => ?_)
    refine GG_ldiv hk (pc' := 16) dX8_part_15 rfl (fun v3 e_v3 => ?_)
    exact GG_lret hk hq dX8_part_16
  · refine GG_lload_n hk (pc' := 6) 0 dX8_part_5 rfl rfl rfl ?_
    refine GG_goto hk 10 dX8_part_6 (by decide) ?_
    refine GG_lload_n hk (pc' := 11) 0 dX8_part_10 rfl rfl rfl ?_
    refine GG_lload_n hk (pc' := 12) 1 dX8_part_11 rfl rfl rfl ?_
    refine GG_callSl hk (st := [.long l0]) (pc' := 15) mf_X8_common tw_1200 (c_X8_common _ _ _ 60 M l0 l2) (by omega) tw_1199 rfl rfl (Nat.le_of_ble_eq_true rfl) dX8_part_12 rfl (fun z4 e_z4 => ?_)
    refine GG_ldiv hk (pc' := 16) dX8_part_15 rfl (fun v5 e_v5 => ?_)
    exact GG_lret hk hq dX8_part_16
theorem c_X8_part (l : Launch) (C : DD) (a : Nat) (M : Mem) (l0 : Int64) (l2 : Int64) (l4 : Int32)  : CL l C (a) yX8_part cX8_part 5 611 [.long l0, .long l2, .int l4] M (f_X8_part M l0 l2 l4) := by
  refine CL_of RX8 (by decide +kernel) rfl (Nat.le_of_ble_eq_true rfl) (fun k q hk hq e1 e2 e3 => ?_)
  subst e1; subst e2; subst e3
  exact m_X8_part hk hq M l0 l2 l4 

/-! SettingsInLayersModel.missing(IIII)J -/
noncomputable def f_X8_missing_188  (k119 : Mem → Int32 → Int32 → Int32 → Int32 → Int32 → Int64 → Int64 → Int32 → Option (Int64 × Mem)) (M : Mem) (l1 : Int32) (l2 : Int32) (l3 : Int32) (l4 : Int32) (l5 : Int32) (l6 : Int64) (l8 : Int64) (l10 : Int32) (l11 : Int64) : Option (Int64 × Mem) :=
    Option.bind (f_X8_numberOf M l1) fun z1 =>
    if ¬ z1.1 = l2 then
      k119 z1.2 l1 l2 l3 l4 l5 (l6 + 0) l8 (l10 + 1)
    else
      k119 z1.2 l1 l2 l3 l4 l5 (l6 + l11) l8 (l10 + 1)
set_option maxRecDepth 20000 in
theorem m_X8_missing_188 {k : KT} {q : Int64 × Mem} (hk : CX k cX8_missing RX8 14 (some .long) 612) (hq : RL_ k q) (k119 : Mem → Int32 → Int32 → Int32 → Int32 → Int32 → Int64 → Int64 → Int32 → Option (Int64 × Mem)) (hk119 : ∀ (M : Mem) (l1 : Int32) (l2 : Int32) (l3 : Int32) (l4 : Int32) (l5 : Int32) (l6 : Int64) (l8 : Int64) (l10 : Int32) , GG k q (wM k M) 119 [(0, .ref (kh k + 163)), (1, .int l1), (2, .int l2), (3, .int l3), (4, .int l4), (5, .int l5), (6, .long l6), (8, .long l8), (10, .int l10)] [] (k119 M l1 l2 l3 l4 l5 l6 l8 l10)) (M : Mem) (l1 : Int32) (l2 : Int32) (l3 : Int32) (l4 : Int32) (l5 : Int32) (l6 : Int64) (l8 : Int64) (l10 : Int32) (l11 : Int64)  : GG k q (wM k M) 188 [(0, .ref (kh k + 163)), (1, .int l1), (2, .int l2), (3, .int l3), (4, .int l4), (5, .int l5), (6, .long l6), (8, .long l8), (10, .int l10), (11, .long l11)] [] (f_X8_missing_188 k119 M l1 l2 l3 l4 l5 l6 l8 l10 l11) := by
  unfold f_X8_missing_188
  refine GG_lload hk (pc' := 190) 6 dX8_missing_188 rfl rfl ?_
  refine GG_aload_n hk (pc' := 191) 0 dX8_missing_190 rfl rfl rfl ?_
  refine GG_iload_n hk (pc' := 192) 1 dX8_missing_191 rfl rfl rfl ?_
  refine GG_callVi hk (st := [.long l6]) (pc' := 195) mf_X8_numberOf mv_X8_numberOf LC8 rfl (c_X8_numberOf _ _ _ M l1 ) (by omega) tw_1151 rfl rfl rfl (Nat.le_of_ble_eq_true rfl) dX8_missing_192 rfl (fun z1 e_z1 => ?_)
  refine GG_iload_n hk (pc' := 196) 2 dX8_missing_195 rfl rfl rfl ?_
  refine GG_icmp_ne hk 204 (pc' := 199) dX8_missing_196 rfl (by decide) (fun c2 => ?_) (fun c2 => ?_)
  · refine GG_lconst hk (pc' := 205) 0 dX8_missing_204 rfl rfl ?_
    refine GG_ladd hk (pc' := 206) dX8_missing_205 rfl ?_
    refine GG_lstore hk (pc' := 208) [(6, .long (l6 + 0)), (0, .ref (kh k + 163)), (1, .int l1), (2, .int l2), (3, .int l3), (4, .int l4), (5, .int l5), (8, .long l8), (10, .int l10), (11, .long l11)] dX8_missing_206 rfl (by decide) rfl ?_
    refine GG_iinc hk (pc' := 211) 8 (l10 + 1) [(10, .int (l10 + 1)), (6, .long (l6 + 0)), (0, .ref (kh k + 163)), (1, .int l1), (2, .int l2), (3, .int l3), (4, .int l4), (5, .int l5), (8, .long l8), (11, .long l11)] dX8_missing_208 rfl rfl rfl (by decide) rfl ?_
    refine GG_goto hk 119 dX8_missing_211 (by decide) ?_
    refine GG_sub (L' := [(0, .ref (kh k + 163)), (1, .int l1), (2, .int l2), (3, .int l3), (4, .int l4), (5, .int l5), (6, .long (l6 + 0)), (8, .long l8), (10, .int (l10 + 1))]) [2, 3, 4, 5, 6, 7, 1, 8, 0] rfl ?_
    exact hk119 z1.2 l1 l2 l3 l4 l5 (l6 + 0) l8 (l10 + 1) 
  · refine GG_lload hk (pc' := 201) 9 dX8_missing_199 rfl rfl ?_
    refine GG_goto hk 205 dX8_missing_201 (by decide) ?_
    refine GG_ladd hk (pc' := 206) dX8_missing_205 rfl ?_
    refine GG_lstore hk (pc' := 208) [(6, .long (l6 + l11)), (0, .ref (kh k + 163)), (1, .int l1), (2, .int l2), (3, .int l3), (4, .int l4), (5, .int l5), (8, .long l8), (10, .int l10), (11, .long l11)] dX8_missing_206 rfl (by decide) rfl ?_
    refine GG_iinc hk (pc' := 211) 8 (l10 + 1) [(10, .int (l10 + 1)), (6, .long (l6 + l11)), (0, .ref (kh k + 163)), (1, .int l1), (2, .int l2), (3, .int l3), (4, .int l4), (5, .int l5), (8, .long l8), (11, .long l11)] dX8_missing_208 rfl rfl rfl (by decide) rfl ?_
    refine GG_goto hk 119 dX8_missing_211 (by decide) ?_
    refine GG_sub (L' := [(0, .ref (kh k + 163)), (1, .int l1), (2, .int l2), (3, .int l3), (4, .int l4), (5, .int l5), (6, .long (l6 + l11)), (8, .long l8), (10, .int (l10 + 1))]) [2, 3, 4, 5, 6, 7, 1, 8, 0] rfl ?_
    exact hk119 z1.2 l1 l2 l3 l4 l5 (l6 + l11) l8 (l10 + 1) 
noncomputable def f_X8_missing_151  (k119 : Mem → Int32 → Int32 → Int32 → Int32 → Int32 → Int64 → Int64 → Int32 → Option (Int64 × Mem)) : Nat → Mem → Int32 → Int32 → Int32 → Int32 → Int32 → Int64 → Int64 → Int32 → Int64 → Int32 → Option (Int64 × Mem)
  | 0, _, _, _, _, _, _, _, _, _, _, _ => none
  | n + 1, M, l1, l2, l3, l4, l5, l6, l8, l10, l11, l13 =>
    if 6 ≤ l13 then
      f_X8_missing_188 k119 M l1 l2 l3 l4 l5 l6 l8 l10 l11
    else
      if ¬ ((l10 >>> (l13 &&& 31)) &&& 1) = 1 then
        f_X8_missing_151 k119 n M l1 l2 l3 l4 l5 l6 l8 l10 (l11 * 1) (l13 + 1)
      else
        Option.bind (some (l11 * (Int32.toInt64 (l3 - 1)))) fun v3 =>
        f_X8_missing_151 k119 n M l1 l2 l3 l4 l5 l6 l8 l10 v3 (l13 + 1)
set_option maxRecDepth 20000 in
theorem m_X8_missing_151 {k : KT} {q : Int64 × Mem} (hk : CX k cX8_missing RX8 14 (some .long) 612) (hq : RL_ k q) (k119 : Mem → Int32 → Int32 → Int32 → Int32 → Int32 → Int64 → Int64 → Int32 → Option (Int64 × Mem)) (hk119 : ∀ (M : Mem) (l1 : Int32) (l2 : Int32) (l3 : Int32) (l4 : Int32) (l5 : Int32) (l6 : Int64) (l8 : Int64) (l10 : Int32) , GG k q (wM k M) 119 [(0, .ref (kh k + 163)), (1, .int l1), (2, .int l2), (3, .int l3), (4, .int l4), (5, .int l5), (6, .long l6), (8, .long l8), (10, .int l10)] [] (k119 M l1 l2 l3 l4 l5 l6 l8 l10)) : ∀ (n : Nat) (M : Mem) (l1 : Int32) (l2 : Int32) (l3 : Int32) (l4 : Int32) (l5 : Int32) (l6 : Int64) (l8 : Int64) (l10 : Int32) (l11 : Int64) (l13 : Int32) , GG k q (wM k M) 151 [(0, .ref (kh k + 163)), (1, .int l1), (2, .int l2), (3, .int l3), (4, .int l4), (5, .int l5), (6, .long l6), (8, .long l8), (10, .int l10), (11, .long l11), (13, .int l13)] [] (f_X8_missing_151 k119 n M l1 l2 l3 l4 l5 l6 l8 l10 l11 l13) := by
  intro n
  induction n with
  | zero => intros; exact GG_none
  | succ n ih =>
    intro M l1 l2 l3 l4 l5 l6 l8 l10 l11 l13 
    rw [f_X8_missing_151]
    refine GG_iload hk (pc' := 153) 10 dX8_missing_151 rfl rfl ?_
    refine GG_bipush hk (pc' := 155) 6 dX8_missing_153 rfl rfl ?_
    refine GG_icmp_ge hk 188 (pc' := 158) dX8_missing_155 rfl (by decide) (fun c1 => ?_) (fun c1 => ?_)
    · refine GG_sub (L' := [(0, .ref (kh k + 163)), (1, .int l1), (2, .int l2), (3, .int l3), (4, .int l4), (5, .int l5), (6, .long l6), (8, .long l8), (10, .int l10), (11, .long l11)]) [0, 1, 2, 3, 4, 5, 6, 7, 8, 9] rfl ?_
      exact m_X8_missing_188 hk hq k119 hk119 M l1 l2 l3 l4 l5 l6 l8 l10 l11 
    · refine GG_lload hk (pc' := 160) 9 dX8_missing_158 rfl rfl ?_
      refine GG_iload hk (pc' := 162) 8 dX8_missing_160 rfl rfl ?_
      refine GG_iload hk (pc' := 164) 10 dX8_missing_162 rfl rfl ?_
      refine GG_ishr hk (pc' := 165) dX8_missing_164 rfl ?_
      refine GG_iconst hk (pc' := 166) 1 dX8_missing_165 rfl rfl ?_
      refine GG_iand hk (pc' := 167) dX8_missing_166 rfl ?_
      refine GG_iconst hk (pc' := 168) 1 dX8_missing_167 rfl rfl ?_
      refine GG_icmp_ne hk 178 (pc' := 171) dX8_missing_168 rfl (by decide) (fun c2 => ?_) (fun c2 => ?_)
      · refine GG_lconst hk (pc' := 179) 1 dX8_missing_178 rfl rfl ?_
        refine GG_lmul hk (pc' := 180) dX8_missing_179 rfl ?_
        refine GG_lstore hk (pc' := 182) [(11, .long (l11 * 1)), (0, .ref (kh k + 163)), (1, .int l1), (2, .int l2), (3, .int l3), (4, .int l4), (5, .int l5), (6, .long l6), (8, .long l8), (10, .int l10), (13, .int l13)] dX8_missing_180 rfl (by decide) rfl ?_
        refine GG_iinc hk (pc' := 185) 10 (l13 + 1) [(13, .int (l13 + 1)), (11, .long (l11 * 1)), (0, .ref (kh k + 163)), (1, .int l1), (2, .int l2), (3, .int l3), (4, .int l4), (5, .int l5), (6, .long l6), (8, .long l8), (10, .int l10)] dX8_missing_182 rfl rfl rfl (by decide) rfl ?_
        refine GG_goto hk 151 dX8_missing_185 (by decide) ?_
        refine GG_sub (L' := [(0, .ref (kh k + 163)), (1, .int l1), (2, .int l2), (3, .int l3), (4, .int l4), (5, .int l5), (6, .long l6), (8, .long l8), (10, .int l10), (11, .long (l11 * 1)), (13, .int (l13 + 1))]) [2, 3, 4, 5, 6, 7, 8, 9, 10, 1, 0] rfl ?_
        exact ih M l1 l2 l3 l4 l5 l6 l8 l10 (l11 * 1) (l13 + 1) 
      · refine GG_iload_n hk (pc' := 172) 3 dX8_missing_171 rfl rfl rfl ?_
        refine GG_iconst hk (pc' := 173) 1 dX8_missing_172 rfl rfl ?_
        refine GG_isub hk (pc' := 174) dX8_missing_173 rfl ?_
        refine GG_i2l hk (pc' := 175) dX8_missing_174 rfl ?_
        refine GG_goto hk 179 dX8_missing_175 (by decide) ?_
        refine GG_lmul hk (pc' := 180) dX8_missing_179 rfl ?_
        refine GG_nml (fun v3 e_v3 => ?_)
        refine GG_lstore hk (pc' := 182) [(11, .long v3), (0, .ref (kh k + 163)), (1, .int l1), (2, .int l2), (3, .int l3), (4, .int l4), (5, .int l5), (6, .long l6), (8, .long l8), (10, .int l10), (13, .int l13)] dX8_missing_180 rfl (by decide) rfl ?_
        refine GG_iinc hk (pc' := 185) 10 (l13 + 1) [(13, .int (l13 + 1)), (11, .long v3), (0, .ref (kh k + 163)), (1, .int l1), (2, .int l2), (3, .int l3), (4, .int l4), (5, .int l5), (6, .long l6), (8, .long l8), (10, .int l10)] dX8_missing_182 rfl rfl rfl (by decide) rfl ?_
        refine GG_goto hk 151 dX8_missing_185 (by decide) ?_
        refine GG_sub (L' := [(0, .ref (kh k + 163)), (1, .int l1), (2, .int l2), (3, .int l3), (4, .int l4), (5, .int l5), (6, .long l6), (8, .long l8), (10, .int l10), (11, .long v3), (13, .int (l13 + 1))]) [2, 3, 4, 5, 6, 7, 8, 9, 10, 1, 0] rfl ?_
        exact ih M l1 l2 l3 l4 l5 l6 l8 l10 v3 (l13 + 1) 
noncomputable def f_X8_missing_119  : Nat → Mem → Int32 → Int32 → Int32 → Int32 → Int32 → Int64 → Int64 → Int32 → Option (Int64 × Mem)
  | 0, _, _, _, _, _, _, _, _, _ => none
  | n + 1, M, l1, l2, l3, l4, l5, l6, l8, l10 =>
    if 64 ≤ l10 then
      Option.bind (f_X8_turnsTo M l5) fun z2 =>
      Option.bind (f_X8_part z2 l6 l8 l4) fun z3 =>
      some (z3.1, z3.2)
    else
      if (l10 &&& (l5 ^^^ (-1))) = 0 then
        Option.bind (f_X8_turnsTo M l10) fun z5 =>
        f_X8_missing_151 (f_X8_missing_119  n) 1000 z5 l1 l2 l3 l4 l5 l6 l8 l10 1 0
      else
        f_X8_missing_119  n M l1 l2 l3 l4 l5 l6 l8 (l10 + 1)
set_option maxRecDepth 20000 in
theorem m_X8_missing_119 {k : KT} {q : Int64 × Mem} (hk : CX k cX8_missing RX8 14 (some .long) 612) (hq : RL_ k q) : ∀ (n : Nat) (M : Mem) (l1 : Int32) (l2 : Int32) (l3 : Int32) (l4 : Int32) (l5 : Int32) (l6 : Int64) (l8 : Int64) (l10 : Int32) , GG k q (wM k M) 119 [(0, .ref (kh k + 163)), (1, .int l1), (2, .int l2), (3, .int l3), (4, .int l4), (5, .int l5), (6, .long l6), (8, .long l8), (10, .int l10)] [] (f_X8_missing_119  n M l1 l2 l3 l4 l5 l6 l8 l10) := by
  intro n
  induction n with
  | zero => intros; exact GG_none
  | succ n ih =>
    intro M l1 l2 l3 l4 l5 l6 l8 l10 
    rw [f_X8_missing_119]
    refine GG_iload hk (pc' := 121) 8 dX8_missing_119 rfl rfl ?_
    refine GG_bipush hk (pc' := 123) 64 dX8_missing_121 rfl rfl ?_
    refine GG_icmp_ge hk 214 (pc' := 126) dX8_missing_123 rfl (by decide) (fun c1 => ?_) (fun c1 => ?_)
    · refine GG_aload_n hk (pc' := 215) 0 dX8_missing_214 rfl rfl rfl ?_
      refine GG_iload hk (pc' := 217) 5 dX8_missing_215 rfl rfl ?_
      refine GG_callVv hk (st := []) (pc' := 220) mf_X8_turnsTo mv_X8_turnsTo LC8 rfl (c_X8_turnsTo _ _ _ M l5 ) (by omega) tw_1175 rfl rfl rfl (Nat.le_of_ble_eq_true rfl) dX8_missing_217 rfl (fun z2 e_z2 => ?_)
      refine GG_lload hk (pc' := 222) 6 dX8_missing_220 rfl rfl ?_
      refine GG_lload hk (pc' := 224) 7 dX8_missing_222 rfl rfl ?_
      refine GG_iload hk (pc' := 226) 4 dX8_missing_224 rfl rfl ?_
      refine GG_callSl hk (st := []) (pc' := 229) mf_X8_part tw_1197 (c_X8_part _ _ _ z2 l6 l8 l4 ) (by omega) tw_1196 rfl rfl (Nat.le_of_ble_eq_true rfl) dX8_missing_226 rfl (fun z3 e_z3 => ?_)
      exact GG_lret hk hq dX8_missing_229
    · refine GG_iload hk (pc' := 128) 8 dX8_missing_126 rfl rfl ?_
      refine GG_iload hk (pc' := 130) 5 dX8_missing_128 rfl rfl ?_
      refine GG_iconst hk (pc' := 131) (-1) dX8_missing_130 rfl rfl ?_
      refine GG_ixor hk (pc' := 132) dX8_missing_131 rfl ?_
      refine GG_iand hk (pc' := 133) dX8_missing_132 rfl ?_
      refine GG_if_eq hk 139 (pc' := 136) dX8_missing_133 rfl (by decide) (fun c4 => ?_) (fun c4 => ?_)
      · refine GG_aload_n hk (pc' := 140) 0 dX8_missing_139 rfl rfl rfl ?_
        refine GG_iload hk (pc' := 142) 8 dX8_missing_140 rfl rfl ?_
        refine GG_callVv hk (st := []) (pc' := 145) mf_X8_turnsTo mv_X8_turnsTo LC8 rfl (c_X8_turnsTo _ _ _ M l10 ) (by omega) tw_1175 rfl rfl rfl (Nat.le_of_ble_eq_true rfl) dX8_missing_142 rfl (fun z5 e_z5 => ?_)
        refine GG_lconst hk (pc' := 146) 1 dX8_missing_145 rfl rfl ?_
        refine GG_lstore hk (pc' := 148) [(11, .long 1), (0, .ref (kh k + 163)), (1, .int l1), (2, .int l2), (3, .int l3), (4, .int l4), (5, .int l5), (6, .long l6), (8, .long l8), (10, .int l10)] dX8_missing_146 rfl (by decide) rfl ?_
        refine GG_iconst hk (pc' := 149) 0 dX8_missing_148 rfl rfl ?_
        refine GG_istore hk (pc' := 151) [(13, .int 0), (11, .long 1), (0, .ref (kh k + 163)), (1, .int l1), (2, .int l2), (3, .int l3), (4, .int l4), (5, .int l5), (6, .long l6), (8, .long l8), (10, .int l10)] dX8_missing_149 rfl (by decide) rfl ?_
        refine GG_sub (L' := [(0, .ref (kh k + 163)), (1, .int l1), (2, .int l2), (3, .int l3), (4, .int l4), (5, .int l5), (6, .long l6), (8, .long l8), (10, .int l10), (11, .long 1), (13, .int 0)]) [2, 3, 4, 5, 6, 7, 8, 9, 10, 1, 0] rfl ?_
        exact m_X8_missing_151 hk hq (f_X8_missing_119  n) ih 1000 z5 l1 l2 l3 l4 l5 l6 l8 l10 1 0 
      · refine GG_goto hk 208 dX8_missing_136 (by decide) ?_
        refine GG_iinc hk (pc' := 211) 8 (l10 + 1) [(10, .int (l10 + 1)), (0, .ref (kh k + 163)), (1, .int l1), (2, .int l2), (3, .int l3), (4, .int l4), (5, .int l5), (6, .long l6), (8, .long l8)] dX8_missing_208 rfl rfl rfl (by decide) rfl ?_
        refine GG_goto hk 119 dX8_missing_211 (by decide) ?_
        refine GG_sub (L' := [(0, .ref (kh k + 163)), (1, .int l1), (2, .int l2), (3, .int l3), (4, .int l4), (5, .int l5), (6, .long l6), (8, .long l8), (10, .int (l10 + 1))]) [1, 2, 3, 4, 5, 6, 7, 8, 0] rfl ?_
        exact ih M l1 l2 l3 l4 l5 l6 l8 (l10 + 1) 
noncomputable def f_X8_missing_81  : Nat → Mem → Int32 → Int32 → Int32 → Int32 → Int32 → Int64 → Int64 → Int32 → Option (Int64 × Mem)
  | 0, _, _, _, _, _, _, _, _, _ => none
  | n + 1, M, l1, l2, l3, l4, l5, l6, l8, l10 =>
    if 6 ≤ l10 then
      f_X8_missing_119  1000 M l1 l2 l3 l4 l5 l6 l8 0
    else
      if ¬ ((l5 >>> (l10 &&& 31)) &&& 1) = 1 then
        f_X8_missing_81  n M l1 l2 l3 l4 l5 l6 (l8 * 1) (l10 + 1)
      else
        Option.bind (some (l8 * (Int32.toInt64 l3))) fun v3 =>
        f_X8_missing_81  n M l1 l2 l3 l4 l5 l6 v3 (l10 + 1)
set_option maxRecDepth 20000 in
theorem m_X8_missing_81 {k : KT} {q : Int64 × Mem} (hk : CX k cX8_missing RX8 14 (some .long) 612) (hq : RL_ k q) : ∀ (n : Nat) (M : Mem) (l1 : Int32) (l2 : Int32) (l3 : Int32) (l4 : Int32) (l5 : Int32) (l6 : Int64) (l8 : Int64) (l10 : Int32) , GG k q (wM k M) 81 [(0, .ref (kh k + 163)), (1, .int l1), (2, .int l2), (3, .int l3), (4, .int l4), (5, .int l5), (6, .long l6), (8, .long l8), (10, .int l10)] [] (f_X8_missing_81  n M l1 l2 l3 l4 l5 l6 l8 l10) := by
  intro n
  induction n with
  | zero => intros; exact GG_none
  | succ n ih =>
    intro M l1 l2 l3 l4 l5 l6 l8 l10 
    rw [f_X8_missing_81]
    refine GG_iload hk (pc' := 83) 8 dX8_missing_81 rfl rfl ?_
    refine GG_bipush hk (pc' := 85) 6 dX8_missing_83 rfl rfl ?_
    refine GG_icmp_ge hk 116 (pc' := 88) dX8_missing_85 rfl (by decide) (fun c1 => ?_) (fun c1 => ?_)
    · refine GG_iconst hk (pc' := 117) 0 dX8_missing_116 rfl rfl ?_
      refine GG_istore hk (pc' := 119) [(10, .int 0), (0, .ref (kh k + 163)), (1, .int l1), (2, .int l2), (3, .int l3), (4, .int l4), (5, .int l5), (6, .long l6), (8, .long l8)] dX8_missing_117 rfl (by decide) rfl ?_
      refine GG_sub (L' := [(0, .ref (kh k + 163)), (1, .int l1), (2, .int l2), (3, .int l3), (4, .int l4), (5, .int l5), (6, .long l6), (8, .long l8), (10, .int 0)]) [1, 2, 3, 4, 5, 6, 7, 8, 0] rfl ?_
      exact m_X8_missing_119 hk hq  1000 M l1 l2 l3 l4 l5 l6 l8 0 
    · refine GG_lload hk (pc' := 90) 7 dX8_missing_88 rfl rfl ?_
      refine GG_iload hk (pc' := 92) 5 dX8_missing_90 rfl rfl ?_
      refine GG_iload hk (pc' := 94) 8 dX8_missing_92 rfl rfl ?_
      refine GG_ishr hk (pc' := 95) dX8_missing_94 rfl ?_
      refine GG_iconst hk (pc' := 96) 1 dX8_missing_95 rfl rfl ?_
      refine GG_iand hk (pc' := 97) dX8_missing_96 rfl ?_
      refine GG_iconst hk (pc' := 98) 1 dX8_missing_97 rfl rfl ?_
      refine GG_icmp_ne hk 106 (pc' := 101) dX8_missing_98 rfl (by decide) (fun c2 => ?_) (fun c2 => ?_)
      · refine GG_lconst hk (pc' := 107) 1 dX8_missing_106 rfl rfl ?_
        refine GG_lmul hk (pc' := 108) dX8_missing_107 rfl ?_
        refine GG_lstore hk (pc' := 110) [(8, .long (l8 * 1)), (0, .ref (kh k + 163)), (1, .int l1), (2, .int l2), (3, .int l3), (4, .int l4), (5, .int l5), (6, .long l6), (10, .int l10)] dX8_missing_108 rfl (by decide) rfl ?_
        refine GG_iinc hk (pc' := 113) 8 (l10 + 1) [(10, .int (l10 + 1)), (8, .long (l8 * 1)), (0, .ref (kh k + 163)), (1, .int l1), (2, .int l2), (3, .int l3), (4, .int l4), (5, .int l5), (6, .long l6)] dX8_missing_110 rfl rfl rfl (by decide) rfl ?_
        refine GG_goto hk 81 dX8_missing_113 (by decide) ?_
        refine GG_sub (L' := [(0, .ref (kh k + 163)), (1, .int l1), (2, .int l2), (3, .int l3), (4, .int l4), (5, .int l5), (6, .long l6), (8, .long (l8 * 1)), (10, .int (l10 + 1))]) [2, 3, 4, 5, 6, 7, 8, 1, 0] rfl ?_
        exact ih M l1 l2 l3 l4 l5 l6 (l8 * 1) (l10 + 1) 
      · refine GG_iload_n hk (pc' := 102) 3 dX8_missing_101 rfl rfl rfl ?_
        refine GG_i2l hk (pc' := 103) dX8_missing_102 rfl ?_
        refine GG_goto hk 107 dX8_missing_103 (by decide) ?_
        refine GG_lmul hk (pc' := 108) dX8_missing_107 rfl ?_
        refine GG_nml (fun v3 e_v3 => ?_)
        refine GG_lstore hk (pc' := 110) [(8, .long v3), (0, .ref (kh k + 163)), (1, .int l1), (2, .int l2), (3, .int l3), (4, .int l4), (5, .int l5), (6, .long l6), (10, .int l10)] dX8_missing_108 rfl (by decide) rfl ?_
        refine GG_iinc hk (pc' := 113) 8 (l10 + 1) [(10, .int (l10 + 1)), (8, .long v3), (0, .ref (kh k + 163)), (1, .int l1), (2, .int l2), (3, .int l3), (4, .int l4), (5, .int l5), (6, .long l6)] dX8_missing_110 rfl rfl rfl (by decide) rfl ?_
        refine GG_goto hk 81 dX8_missing_113 (by decide) ?_
        refine GG_sub (L' := [(0, .ref (kh k + 163)), (1, .int l1), (2, .int l2), (3, .int l3), (4, .int l4), (5, .int l5), (6, .long l6), (8, .long v3), (10, .int (l10 + 1))]) [2, 3, 4, 5, 6, 7, 8, 1, 0] rfl ?_
        exact ih M l1 l2 l3 l4 l5 l6 v3 (l10 + 1) 
noncomputable def f_X8_missing (M : Mem) (l1 : Int32) (l2 : Int32) (l3 : Int32) (l4 : Int32) : Option (Int64 × Mem) :=
    Option.bind (f_X8_isKey M l1) fun z1 =>
    if ¬ z1.1 = 0 then
      if l2 < 0 then
        Option.bind (f_X8_noLong z1.2 (-4)) fun z4 =>
        some (z4.1, z4.2)
      else
        if 2 ≤ l3 then
          if 999 < l2 then
            Option.bind (f_X8_noLong z1.2 (-6)) fun z7 =>
            some (z7.1, z7.2)
          else
            if l3 ≤ 20 then
              Option.bind (f_X8_isIn z1.2 l4 0 1) fun z9 =>
              if ¬ z9.1 = 0 then
                Option.bind (f_X8_onNow z9.2 ) fun z11 =>
                f_X8_missing_81  1000 z11.2 l1 l2 l3 l4 z11.1 0 1 0
              else
                Option.bind (f_X8_noLong z9.2 (-2)) fun z12 =>
                some (z12.1, z12.2)
            else
              Option.bind (f_X8_noLong z1.2 (-6)) fun z13 =>
              some (z13.1, z13.2)
        else
          Option.bind (f_X8_noLong z1.2 (-4)) fun z14 =>
          some (z14.1, z14.2)
    else
      Option.bind (f_X8_noLong z1.2 (-1)) fun z15 =>
      some (z15.1, z15.2)
set_option maxRecDepth 20000 in
theorem m_X8_missing {k : KT} {q : Int64 × Mem} (hk : CX k cX8_missing RX8 14 (some .long) 612) (hq : RL_ k q) (M : Mem) (l1 : Int32) (l2 : Int32) (l3 : Int32) (l4 : Int32)  : GG k q (wM k M) 0 [(0, .ref (kh k + 163)), (1, .int l1), (2, .int l2), (3, .int l3), (4, .int l4)] [] (f_X8_missing M l1 l2 l3 l4) := by
  unfold f_X8_missing
  refine GG_iload_n hk (pc' := 1) 1 dX8_missing_0 rfl rfl rfl ?_
  refine GG_callSi hk (st := []) (pc' := 4) mf_X8_isKey tw_951 (c_X8_isKey _ _ _ M l1 ) (by omega) tw_950 rfl rfl (Nat.le_of_ble_eq_true rfl) dX8_missing_1 rfl (fun z1 e_z1 => ?_)
  refine GG_if_ne hk 13 (pc' := 7) dX8_missing_4 rfl (by decide) (fun c2 => ?_) (fun c2 => ?_)
  · refine GG_iload_n hk (pc' := 14) 2 dX8_missing_13 rfl rfl rfl ?_
    refine GG_if_lt hk 22 (pc' := 17) dX8_missing_14 rfl (by decide) (fun c3 => ?_) (fun c3 => ?_)
    · refine GG_aload_n hk (pc' := 23) 0 dX8_missing_22 rfl rfl rfl ?_
      refine GG_bipush hk (pc' := 25) (-4) dX8_missing_23 rfl rfl ?_
      refine GG_callVl hk (st := []) (pc' := 28) mf_X8_noLong mv_X8_noLong LC8 rfl (c_X8_noLong _ _ _ z1.2 (-4) ) (by omega) tw_1191 rfl rfl rfl (Nat.le_of_ble_eq_true rfl) dX8_missing_25 rfl (fun z4 e_z4 => ?_)
      exact GG_lret hk hq dX8_missing_28
    · refine GG_iload_n hk (pc' := 18) 3 dX8_missing_17 rfl rfl rfl ?_
      refine GG_iconst hk (pc' := 19) 2 dX8_missing_18 rfl rfl ?_
      refine GG_icmp_ge hk 29 (pc' := 22) dX8_missing_19 rfl (by decide) (fun c5 => ?_) (fun c5 => ?_)
      · refine GG_iload_n hk (pc' := 30) 2 dX8_missing_29 rfl rfl rfl ?_
        refine GG_sipush hk (pc' := 33) 999 dX8_missing_30 rfl rfl ?_
        refine GG_icmp_gt hk 42 (pc' := 36) dX8_missing_33 rfl (by decide) (fun c6 => ?_) (fun c6 => ?_)
        · refine GG_aload_n hk (pc' := 43) 0 dX8_missing_42 rfl rfl rfl ?_
          refine GG_bipush hk (pc' := 45) (-6) dX8_missing_43 rfl rfl ?_
          refine GG_callVl hk (st := []) (pc' := 48) mf_X8_noLong mv_X8_noLong LC8 rfl (c_X8_noLong _ _ _ z1.2 (-6) ) (by omega) tw_1191 rfl rfl rfl (Nat.le_of_ble_eq_true rfl) dX8_missing_45 rfl (fun z7 e_z7 => ?_)
          exact GG_lret hk hq dX8_missing_48
        · refine GG_iload_n hk (pc' := 37) 3 dX8_missing_36 rfl rfl rfl ?_
          refine GG_bipush hk (pc' := 39) 20 dX8_missing_37 rfl rfl ?_
          refine GG_icmp_le hk 49 (pc' := 42) dX8_missing_39 rfl (by decide) (fun c8 => ?_) (fun c8 => ?_)
          · refine GG_iload hk (pc' := 51) 4 dX8_missing_49 rfl rfl ?_
            refine GG_iconst hk (pc' := 52) 0 dX8_missing_51 rfl rfl ?_
            refine GG_iconst hk (pc' := 53) 1 dX8_missing_52 rfl rfl ?_
            refine GG_callSi hk (st := []) (pc' := 56) mf_X8_isIn tw_936 (c_X8_isIn _ _ _ z1.2 l4 0 1 ) (by omega) tw_935 rfl rfl (Nat.le_of_ble_eq_true rfl) dX8_missing_53 rfl (fun z9 e_z9 => ?_)
            refine GG_if_ne hk 66 (pc' := 59) dX8_missing_56 rfl (by decide) (fun c10 => ?_) (fun c10 => ?_)
            · refine GG_aload_n hk (pc' := 67) 0 dX8_missing_66 rfl rfl rfl ?_
              refine GG_callVi hk (st := []) (pc' := 70) mf_X8_onNow mv_X8_onNow LC8 rfl (c_X8_onNow _ _ _ z9.2  ) (by omega) tw_1171 rfl rfl rfl (Nat.le_of_ble_eq_true rfl) dX8_missing_67 rfl (fun z11 e_z11 => ?_)
              refine GG_istore hk (pc' := 72) [(5, .int z11.1), (0, .ref (kh k + 163)), (1, .int l1), (2, .int l2), (3, .int l3), (4, .int l4)] dX8_missing_70 rfl (by decide) rfl ?_
              refine GG_lconst hk (pc' := 73) 0 dX8_missing_72 rfl rfl ?_
              refine GG_lstore hk (pc' := 75) [(6, .long 0), (5, .int z11.1), (0, .ref (kh k + 163)), (1, .int l1), (2, .int l2), (3, .int l3), (4, .int l4)] dX8_missing_73 rfl (by decide) rfl ?_
              refine GG_lconst hk (pc' := 76) 1 dX8_missing_75 rfl rfl ?_
              refine GG_lstore hk (pc' := 78) [(8, .long 1), (6, .long 0), (5, .int z11.1), (0, .ref (kh k + 163)), (1, .int l1), (2, .int l2), (3, .int l3), (4, .int l4)] dX8_missing_76 rfl (by decide) rfl ?_
              refine GG_iconst hk (pc' := 79) 0 dX8_missing_78 rfl rfl ?_
              refine GG_istore hk (pc' := 81) [(10, .int 0), (8, .long 1), (6, .long 0), (5, .int z11.1), (0, .ref (kh k + 163)), (1, .int l1), (2, .int l2), (3, .int l3), (4, .int l4)] dX8_missing_79 rfl (by decide) rfl ?_
              refine GG_sub (L' := [(0, .ref (kh k + 163)), (1, .int l1), (2, .int l2), (3, .int l3), (4, .int l4), (5, .int z11.1), (6, .long 0), (8, .long 1), (10, .int 0)]) [4, 5, 6, 7, 8, 3, 2, 1, 0] rfl ?_
              exact m_X8_missing_81 hk hq  1000 z11.2 l1 l2 l3 l4 z11.1 0 1 0 
            · refine GG_aload_n hk (pc' := 60) 0 dX8_missing_59 rfl rfl rfl ?_
              refine GG_bipush hk (pc' := 62) (-2) dX8_missing_60 rfl rfl ?_
              refine GG_callVl hk (st := []) (pc' := 65) mf_X8_noLong mv_X8_noLong LC8 rfl (c_X8_noLong _ _ _ z9.2 (-2) ) (by omega) tw_1191 rfl rfl rfl (Nat.le_of_ble_eq_true rfl) dX8_missing_62 rfl (fun z12 e_z12 => ?_)
              exact GG_lret hk hq dX8_missing_65
          · refine GG_aload_n hk (pc' := 43) 0 dX8_missing_42 rfl rfl rfl ?_
            refine GG_bipush hk (pc' := 45) (-6) dX8_missing_43 rfl rfl ?_
            refine GG_callVl hk (st := []) (pc' := 48) mf_X8_noLong mv_X8_noLong LC8 rfl (c_X8_noLong _ _ _ z1.2 (-6) ) (by omega) tw_1191 rfl rfl rfl (Nat.le_of_ble_eq_true rfl) dX8_missing_45 rfl (fun z13 e_z13 => ?_)
            exact GG_lret hk hq dX8_missing_48
      · refine GG_aload_n hk (pc' := 23) 0 dX8_missing_22 rfl rfl rfl ?_
        refine GG_bipush hk (pc' := 25) (-4) dX8_missing_23 rfl rfl ?_
        refine GG_callVl hk (st := []) (pc' := 28) mf_X8_noLong mv_X8_noLong LC8 rfl (c_X8_noLong _ _ _ z1.2 (-4) ) (by omega) tw_1191 rfl rfl rfl (Nat.le_of_ble_eq_true rfl) dX8_missing_25 rfl (fun z14 e_z14 => ?_)
        exact GG_lret hk hq dX8_missing_28
  · refine GG_aload_n hk (pc' := 8) 0 dX8_missing_7 rfl rfl rfl ?_
    refine GG_iconst hk (pc' := 9) (-1) dX8_missing_8 rfl rfl ?_
    refine GG_callVl hk (st := []) (pc' := 12) mf_X8_noLong mv_X8_noLong LC8 rfl (c_X8_noLong _ _ _ z1.2 (-1) ) (by omega) tw_1191 rfl rfl rfl (Nat.le_of_ble_eq_true rfl) dX8_missing_9 rfl (fun z15 e_z15 => ?_)
    exact GG_lret hk hq dX8_missing_12
theorem c_X8_missing (l : Launch) (C : DD) (a : Nat) (M : Mem) (l1 : Int32) (l2 : Int32) (l3 : Int32) (l4 : Int32)  : CL l C (a) yX8_missing cX8_missing 14 612 [.ref (a + 163), .int l1, .int l2, .int l3, .int l4] M (f_X8_missing M l1 l2 l3 l4) := by
  refine CL_of RX8 (by decide +kernel) rfl (Nat.le_of_ble_eq_true rfl) (fun k q hk hq e1 e2 e3 => ?_)
  subst e1; subst e2; subst e3
  exact m_X8_missing hk hq M l1 l2 l3 l4 

/-! SettingsInLayersModel.sum()I -/
noncomputable def f_X8_sum_4  : Nat → Mem → Int32 → Int32 → Option (Int32 × Mem)
  | 0, _, _, _ => none
  | n + 1, M, l1, l2 =>
    if 8 ≤ l2 then
      some (l1, M)
    else
      Option.bind (f_X8_numberOf M l2) fun z2 =>
      if ¬ z2.1 = (-9) then
        f_X8_sum_4  n z2.2 (l1 + z2.1) (l2 + 1)
      else
        f_X8_sum_4  n z2.2 (l1 + 0) (l2 + 1)
set_option maxRecDepth 20000 in
theorem m_X8_sum_4 {k : KT} {q : Int32 × Mem} (hk : CX k cX8_sum RX8 4 (some .int) 223) (hq : RI k q) : ∀ (n : Nat) (M : Mem) (l1 : Int32) (l2 : Int32) , GG k q (wM k M) 4 [(0, .ref (kh k + 163)), (1, .int l1), (2, .int l2)] [] (f_X8_sum_4  n M l1 l2) := by
  intro n
  induction n with
  | zero => intros; exact GG_none
  | succ n ih =>
    intro M l1 l2 
    rw [f_X8_sum_4]
    refine GG_iload_n hk (pc' := 5) 2 dX8_sum_4 rfl rfl rfl ?_
    refine GG_bipush hk (pc' := 7) 8 dX8_sum_5 rfl rfl ?_
    refine GG_icmp_ge hk 36 (pc' := 10) dX8_sum_7 rfl (by decide) (fun c1 => ?_) (fun c1 => ?_)
    · refine GG_iload_n hk (pc' := 37) 1 dX8_sum_36 rfl rfl rfl ?_
      exact GG_iret hk hq dX8_sum_37
    · refine GG_aload_n hk (pc' := 11) 0 dX8_sum_10 rfl rfl rfl ?_
      refine GG_iload_n hk (pc' := 12) 2 dX8_sum_11 rfl rfl rfl ?_
      refine GG_callVi hk (st := []) (pc' := 15) mf_X8_numberOf mv_X8_numberOf LC8 rfl (c_X8_numberOf _ _ _ M l2 ) (by omega) tw_1151 rfl rfl rfl (Nat.le_of_ble_eq_true rfl) dX8_sum_12 rfl (fun z2 e_z2 => ?_)
      refine GG_istore_n hk (pc' := 16) [(3, .int z2.1), (0, .ref (kh k + 163)), (1, .int l1), (2, .int l2)] dX8_sum_15 rfl rfl (by decide) rfl ?_
      refine GG_iload_n hk (pc' := 17) 2 dX8_sum_16 rfl rfl rfl ?_
      refine GG_iload_n hk (pc' := 18) 0 dX8_sum_17 rfl rfl rfl ?_
      refine GG_bipush hk (pc' := 20) (-9) dX8_sum_18 rfl rfl ?_
      refine GG_icmp_ne hk 27 (pc' := 23) dX8_sum_20 rfl (by decide) (fun c3 => ?_) (fun c3 => ?_)
      · refine GG_iload_n hk (pc' := 28) 0 dX8_sum_27 rfl rfl rfl ?_
        refine GG_iadd hk (pc' := 29) dX8_sum_28 rfl ?_
        refine GG_istore_n hk (pc' := 30) [(1, .int (l1 + z2.1)), (3, .int z2.1), (0, .ref (kh k + 163)), (2, .int l2)] dX8_sum_29 rfl rfl (by decide) rfl ?_
        refine GG_iinc hk (pc' := 33) 3 (l2 + 1) [(2, .int (l2 + 1)), (1, .int (l1 + z2.1)), (3, .int z2.1), (0, .ref (kh k + 163))] dX8_sum_30 rfl rfl rfl (by decide) rfl ?_
        refine GG_goto hk 4 dX8_sum_33 (by decide) ?_
        refine GG_sub (L' := [(0, .ref (kh k + 163)), (1, .int (l1 + z2.1)), (2, .int (l2 + 1))]) [3, 1, 0] rfl ?_
        exact ih z2.2 (l1 + z2.1) (l2 + 1) 
      · refine GG_iconst hk (pc' := 24) 0 dX8_sum_23 rfl rfl ?_
        refine GG_goto hk 28 dX8_sum_24 (by decide) ?_
        refine GG_iadd hk (pc' := 29) dX8_sum_28 rfl ?_
        refine GG_istore_n hk (pc' := 30) [(1, .int (l1 + 0)), (3, .int z2.1), (0, .ref (kh k + 163)), (2, .int l2)] dX8_sum_29 rfl rfl (by decide) rfl ?_
        refine GG_iinc hk (pc' := 33) 3 (l2 + 1) [(2, .int (l2 + 1)), (1, .int (l1 + 0)), (3, .int z2.1), (0, .ref (kh k + 163))] dX8_sum_30 rfl rfl rfl (by decide) rfl ?_
        refine GG_goto hk 4 dX8_sum_33 (by decide) ?_
        refine GG_sub (L' := [(0, .ref (kh k + 163)), (1, .int (l1 + 0)), (2, .int (l2 + 1))]) [3, 1, 0] rfl ?_
        exact ih z2.2 (l1 + 0) (l2 + 1) 
noncomputable def f_X8_sum (M : Mem)  : Option (Int32 × Mem) :=
    f_X8_sum_4  1000 M 0 0
set_option maxRecDepth 20000 in
theorem m_X8_sum {k : KT} {q : Int32 × Mem} (hk : CX k cX8_sum RX8 4 (some .int) 223) (hq : RI k q) (M : Mem)   : GG k q (wM k M) 0 [(0, .ref (kh k + 163))] [] (f_X8_sum M ) := by
  unfold f_X8_sum
  refine GG_iconst hk (pc' := 1) 0 dX8_sum_0 rfl rfl ?_
  refine GG_istore_n hk (pc' := 2) [(1, .int 0), (0, .ref (kh k + 163))] dX8_sum_1 rfl rfl (by decide) rfl ?_
  refine GG_iconst hk (pc' := 3) 0 dX8_sum_2 rfl rfl ?_
  refine GG_istore_n hk (pc' := 4) [(2, .int 0), (1, .int 0), (0, .ref (kh k + 163))] dX8_sum_3 rfl rfl (by decide) rfl ?_
  refine GG_sub (L' := [(0, .ref (kh k + 163)), (1, .int 0), (2, .int 0)]) [2, 1, 0] rfl ?_
  exact m_X8_sum_4 hk hq  1000 M 0 0 
theorem c_X8_sum (l : Launch) (C : DD) (a : Nat) (M : Mem)   : CI l C (a) yX8_sum cX8_sum 4 .int 223 [.ref (a + 163)] M (f_X8_sum M ) := by
  refine CI_of RX8 (by decide +kernel) rfl (Nat.le_of_ble_eq_true rfl) (fun k q hk hq e1 e2 e3 => ?_)
  subst e1; subst e2; subst e3
  exact m_X8_sum hk hq M  

/-! SettingsInLayersModel.mean(I)J -/
noncomputable def f_X8_mean (M : Mem) (l1 : Int32) : Option (Int64 × Mem) :=
    Option.bind (f_X8_isIn M l1 0 1) fun z1 =>
    if ¬ z1.1 = 0 then
      Option.bind (f_X8_allSo z1.2 2) fun z3 =>
      Option.bind (f_X8_ones z3.2 z3.1) fun z4 =>
      if ¬ z4.1 = 0 then
        Option.bind (f_X8_sum z4.2 ) fun z6 =>
        Option.bind (f_X8_part z6.2 (Int32.toInt64 z6.1) (Int32.toInt64 z4.1) l1) fun z7 =>
        some (z7.1, z7.2)
      else
        some ((Int32.toInt64 l1), z4.2)
    else
      Option.bind (f_X8_noLong z1.2 (-2)) fun z8 =>
      some (z8.1, z8.2)
set_option maxRecDepth 20000 in
theorem m_X8_mean {k : KT} {q : Int64 × Mem} (hk : CX k cX8_mean RX8 3 (some .long) 612) (hq : RL_ k q) (M : Mem) (l1 : Int32)  : GG k q (wM k M) 0 [(0, .ref (kh k + 163)), (1, .int l1)] [] (f_X8_mean M l1) := by
  unfold f_X8_mean
  refine GG_iload_n hk (pc' := 1) 1 dX8_mean_0 rfl rfl rfl ?_
  refine GG_iconst hk (pc' := 2) 0 dX8_mean_1 rfl rfl ?_
  refine GG_iconst hk (pc' := 3) 1 dX8_mean_2 rfl rfl ?_
  refine GG_callSi hk (st := []) (pc' := 6) mf_X8_isIn tw_936 (c_X8_isIn _ _ _ M l1 0 1 ) (by omega) tw_935 rfl rfl (Nat.le_of_ble_eq_true rfl) dX8_mean_3 rfl (fun z1 e_z1 => ?_)
  refine GG_if_ne hk 16 (pc' := 9) dX8_mean_6 rfl (by decide) (fun c2 => ?_) (fun c2 => ?_)
  · refine GG_aload_n hk (pc' := 17) 0 dX8_mean_16 rfl rfl rfl ?_
    refine GG_iconst hk (pc' := 18) 2 dX8_mean_17 rfl rfl ?_
    refine GG_callVi hk (st := []) (pc' := 21) mf_X8_allSo mv_X8_allSo LC8 rfl (c_X8_allSo _ _ _ z1.2 2 ) (by omega) tw_1119 rfl rfl rfl (Nat.le_of_ble_eq_true rfl) dX8_mean_18 rfl (fun z3 e_z3 => ?_)
    refine GG_callSi hk (st := []) (pc' := 24) mf_X8_ones tw_998 (c_X8_ones _ _ _ z3.2 z3.1 ) (by omega) tw_997 rfl rfl (Nat.le_of_ble_eq_true rfl) dX8_mean_21 rfl (fun z4 e_z4 => ?_)
    refine GG_istore_n hk (pc' := 25) [(2, .int z4.1), (0, .ref (kh k + 163)), (1, .int l1)] dX8_mean_24 rfl rfl (by decide) rfl ?_
    refine GG_iload_n hk (pc' := 26) 0 dX8_mean_25 rfl rfl rfl ?_
    refine GG_if_ne hk 34 (pc' := 29) dX8_mean_26 rfl (by decide) (fun c5 => ?_) (fun c5 => ?_)
    · refine GG_aload_n hk (pc' := 35) 1 dX8_mean_34 rfl rfl rfl ?_
      refine GG_callVi hk (st := []) (pc' := 38) mf_X8_sum mv_X8_sum LC8 rfl (c_X8_sum _ _ _ z4.2  ) (by omega) tw_1206 rfl rfl rfl (Nat.le_of_ble_eq_true rfl) dX8_mean_35 rfl (fun z6 e_z6 => ?_)
      refine GG_i2l hk (pc' := 39) dX8_mean_38 rfl ?_
      refine GG_iload_n hk (pc' := 40) 0 dX8_mean_39 rfl rfl rfl ?_
      refine GG_i2l hk (pc' := 41) dX8_mean_40 rfl ?_
      refine GG_iload_n hk (pc' := 42) 2 dX8_mean_41 rfl rfl rfl ?_
      refine GG_callSl hk (st := []) (pc' := 45) mf_X8_part tw_1197 (c_X8_part _ _ _ z6.2 (Int32.toInt64 z6.1) (Int32.toInt64 z4.1) l1 ) (by omega) tw_1196 rfl rfl (Nat.le_of_ble_eq_true rfl) dX8_mean_42 rfl (fun z7 e_z7 => ?_)
      exact GG_lret hk hq dX8_mean_45
    · refine GG_iload_n hk (pc' := 30) 2 dX8_mean_29 rfl rfl rfl ?_
      refine GG_i2l hk (pc' := 31) dX8_mean_30 rfl ?_
      refine GG_goto hk 45 dX8_mean_31 (by decide) ?_
      exact GG_lret hk hq dX8_mean_45
  · refine GG_aload_n hk (pc' := 10) 0 dX8_mean_9 rfl rfl rfl ?_
    refine GG_bipush hk (pc' := 12) (-2) dX8_mean_10 rfl rfl ?_
    refine GG_callVl hk (st := []) (pc' := 15) mf_X8_noLong mv_X8_noLong LC8 rfl (c_X8_noLong _ _ _ z1.2 (-2) ) (by omega) tw_1191 rfl rfl rfl (Nat.le_of_ble_eq_true rfl) dX8_mean_12 rfl (fun z8 e_z8 => ?_)
    exact GG_lret hk hq dX8_mean_15
theorem c_X8_mean (l : Launch) (C : DD) (a : Nat) (M : Mem) (l1 : Int32)  : CL l C (a) yX8_mean cX8_mean 3 612 [.ref (a + 163), .int l1] M (f_X8_mean M l1) := by
  refine CL_of RX8 (by decide +kernel) rfl (Nat.le_of_ble_eq_true rfl) (fun k q hk hq e1 e2 e3 => ?_)
  subst e1; subst e2; subst e3
  exact m_X8_mean hk hq M l1 

/-! SettingsInLayersModel.isTold(I)Z -/
noncomputable def f_X8_isTold (M : Mem) (l1 : Int32) : Option (Int32 × Mem) :=
    Option.bind (f_X8_numberOf M l1) fun z1 =>
    if ¬ z1.1 = (-9) then
      Option.bind (rd 8 (z1.2 170) l1) fun v3 =>
      if 100 ≤ v3 then
        bret 0 z1.2
      else
        Option.bind (rd 8 (z1.2 170) l1) fun v5 =>
        if ¬ v5 = z1.1 then
          bret 0 z1.2
        else
          bret 1 z1.2
    else
      Option.bind (rd 8 (z1.2 170) l1) fun v7 =>
      if ¬ v7 = 100 then
        bret 0 z1.2
      else
        bret 1 z1.2
set_option maxRecDepth 20000 in
theorem m_X8_isTold {k : KT} {q : Int32 × Mem} (hk : CX k cX8_isTold RX8 3 (some .boolean) 223) (hq : RI k q) (M : Mem) (l1 : Int32)  : GG k q (wM k M) 0 [(0, .ref (kh k + 163)), (1, .int l1)] [] (f_X8_isTold M l1) := by
  unfold f_X8_isTold
  refine GG_aload_n hk (pc' := 1) 0 dX8_isTold_0 rfl rfl rfl ?_
  refine GG_iload_n hk (pc' := 2) 1 dX8_isTold_1 rfl rfl rfl ?_
  refine GG_callVi hk (st := []) (pc' := 5) mf_X8_numberOf mv_X8_numberOf LC8 rfl (c_X8_numberOf _ _ _ M l1 ) (by omega) tw_1151 rfl rfl rfl (Nat.le_of_ble_eq_true rfl) dX8_isTold_2 rfl (fun z1 e_z1 => ?_)
  refine GG_istore_n hk (pc' := 6) [(2, .int z1.1), (0, .ref (kh k + 163)), (1, .int l1)] dX8_isTold_5 rfl rfl (by decide) rfl ?_
  refine GG_iload_n hk (pc' := 7) 0 dX8_isTold_6 rfl rfl rfl ?_
  refine GG_bipush hk (pc' := 9) (-9) dX8_isTold_7 rfl rfl ?_
  refine GG_icmp_ne hk 31 (pc' := 12) dX8_isTold_9 rfl (by decide) (fun c2 => ?_) (fun c2 => ?_)
  · refine GG_aload_n hk (pc' := 32) 1 dX8_isTold_31 rfl rfl rfl ?_
    refine GG_get hk LC8 6 (v := .ref (kh k + 170)) (pc' := 35) tw_848 rfl rfl (by decide) rfl dX8_isTold_32 rfl ?_
    refine GG_iload_n hk (pc' := 36) 2 dX8_isTold_35 rfl rfl rfl ?_
    refine GG_iald hk (pc' := 37) rfl rfl dX8_isTold_36 rfl (fun v3 e_v3 => ?_)
    refine GG_bipush hk (pc' := 39) 100 dX8_isTold_37 rfl rfl ?_
    refine GG_icmp_ge hk 56 (pc' := 42) dX8_isTold_39 rfl (by decide) (fun c4 => ?_) (fun c4 => ?_)
    · refine GG_iconst hk (pc' := 57) 0 dX8_isTold_56 rfl rfl ?_
      exact GG_zret hk hq dX8_isTold_57
    · refine GG_aload_n hk (pc' := 43) 1 dX8_isTold_42 rfl rfl rfl ?_
      refine GG_get hk LC8 6 (v := .ref (kh k + 170)) (pc' := 46) tw_848 rfl rfl (by decide) rfl dX8_isTold_43 rfl ?_
      refine GG_iload_n hk (pc' := 47) 2 dX8_isTold_46 rfl rfl rfl ?_
      refine GG_iald hk (pc' := 48) rfl rfl dX8_isTold_47 rfl (fun v5 e_v5 => ?_)
      refine GG_iload_n hk (pc' := 49) 0 dX8_isTold_48 rfl rfl rfl ?_
      refine GG_icmp_ne hk 56 (pc' := 52) dX8_isTold_49 rfl (by decide) (fun c6 => ?_) (fun c6 => ?_)
      · refine GG_iconst hk (pc' := 57) 0 dX8_isTold_56 rfl rfl ?_
        exact GG_zret hk hq dX8_isTold_57
      · refine GG_iconst hk (pc' := 53) 1 dX8_isTold_52 rfl rfl ?_
        refine GG_goto hk 57 dX8_isTold_53 (by decide) ?_
        exact GG_zret hk hq dX8_isTold_57
  · refine GG_aload_n hk (pc' := 13) 1 dX8_isTold_12 rfl rfl rfl ?_
    refine GG_get hk LC8 6 (v := .ref (kh k + 170)) (pc' := 16) tw_848 rfl rfl (by decide) rfl dX8_isTold_13 rfl ?_
    refine GG_iload_n hk (pc' := 17) 2 dX8_isTold_16 rfl rfl rfl ?_
    refine GG_iald hk (pc' := 18) rfl rfl dX8_isTold_17 rfl (fun v7 e_v7 => ?_)
    refine GG_bipush hk (pc' := 20) 100 dX8_isTold_18 rfl rfl ?_
    refine GG_icmp_ne hk 27 (pc' := 23) dX8_isTold_20 rfl (by decide) (fun c8 => ?_) (fun c8 => ?_)
    · refine GG_iconst hk (pc' := 28) 0 dX8_isTold_27 rfl rfl ?_
      refine GG_goto hk 57 dX8_isTold_28 (by decide) ?_
      exact GG_zret hk hq dX8_isTold_57
    · refine GG_iconst hk (pc' := 24) 1 dX8_isTold_23 rfl rfl ?_
      refine GG_goto hk 57 dX8_isTold_24 (by decide) ?_
      exact GG_zret hk hq dX8_isTold_57
theorem c_X8_isTold (l : Launch) (C : DD) (a : Nat) (M : Mem) (l1 : Int32)  : CI l C (a) yX8_isTold cX8_isTold 3 .boolean 223 [.ref (a + 163), .int l1] M (f_X8_isTold M l1) := by
  refine CI_of RX8 (by decide +kernel) rfl (Nat.le_of_ble_eq_true rfl) (fun k q hk hq e1 e2 e3 => ?_)
  subst e1; subst e2; subst e3
  exact m_X8_isTold hk hq M l1 

/-! SettingsInLayersModel.wrongInRow()I -/
noncomputable def f_X8_wrongInRow_2  : Nat → Mem → Int32 → Option (Int32 × Mem)
  | 0, _, _ => none
  | n + 1, M, l1 =>
    if (M 163 8) ≤ l1 then
      some ((-9), M)
    else
      Option.bind (f_X8_isTold M l1) fun z2 =>
      if ¬ z2.1 = 0 then
        f_X8_wrongInRow_2  n z2.2 (l1 + 1)
      else
        some (l1, z2.2)
set_option maxRecDepth 20000 in
theorem m_X8_wrongInRow_2 {k : KT} {q : Int32 × Mem} (hk : CX k cX8_wrongInRow RX8 2 (some .int) 224) (hq : RI k q) : ∀ (n : Nat) (M : Mem) (l1 : Int32) , GG k q (wM k M) 2 [(0, .ref (kh k + 163)), (1, .int l1)] [] (f_X8_wrongInRow_2  n M l1) := by
  intro n
  induction n with
  | zero => intros; exact GG_none
  | succ n ih =>
    intro M l1 
    rw [f_X8_wrongInRow_2]
    refine GG_iload_n hk (pc' := 3) 1 dX8_wrongInRow_2 rfl rfl rfl ?_
    refine GG_aload_n hk (pc' := 4) 0 dX8_wrongInRow_3 rfl rfl rfl ?_
    refine GG_get hk LC8 8 (v := .int (M 163 8)) (pc' := 7) tw_850 rfl rfl (by decide) rfl dX8_wrongInRow_4 rfl ?_
    refine GG_icmp_ge hk 26 (pc' := 10) dX8_wrongInRow_7 rfl (by decide) (fun c1 => ?_) (fun c1 => ?_)
    · refine GG_bipush hk (pc' := 28) (-9) dX8_wrongInRow_26 rfl rfl ?_
      exact GG_iret hk hq dX8_wrongInRow_28
    · refine GG_aload_n hk (pc' := 11) 0 dX8_wrongInRow_10 rfl rfl rfl ?_
      refine GG_iload_n hk (pc' := 12) 1 dX8_wrongInRow_11 rfl rfl rfl ?_
      refine GG_callVi hk (st := []) (pc' := 15) mf_X8_isTold mv_X8_isTold LC8 rfl (c_X8_isTold _ _ _ M l1 ) (by omega) tw_1218 rfl rfl rfl (Nat.le_of_ble_eq_true rfl) dX8_wrongInRow_12 rfl (fun z2 e_z2 => ?_)
      refine GG_if_ne hk 20 (pc' := 18) dX8_wrongInRow_15 rfl (by decide) (fun c3 => ?_) (fun c3 => ?_)
      · refine GG_iinc hk (pc' := 23) 1 (l1 + 1) [(1, .int (l1 + 1)), (0, .ref (kh k + 163))] dX8_wrongInRow_20 rfl rfl rfl (by decide) rfl ?_
        refine GG_goto hk 2 dX8_wrongInRow_23 (by decide) ?_
        refine GG_sub (L' := [(0, .ref (kh k + 163)), (1, .int (l1 + 1))]) [1, 0] rfl ?_
        exact ih z2.2 (l1 + 1) 
      · refine GG_iload_n hk (pc' := 19) 1 dX8_wrongInRow_18 rfl rfl rfl ?_
        exact GG_iret hk hq dX8_wrongInRow_19
noncomputable def f_X8_wrongInRow (M : Mem)  : Option (Int32 × Mem) :=
    f_X8_wrongInRow_2  1000 M 0
set_option maxRecDepth 20000 in
theorem m_X8_wrongInRow {k : KT} {q : Int32 × Mem} (hk : CX k cX8_wrongInRow RX8 2 (some .int) 224) (hq : RI k q) (M : Mem)   : GG k q (wM k M) 0 [(0, .ref (kh k + 163))] [] (f_X8_wrongInRow M ) := by
  unfold f_X8_wrongInRow
  refine GG_iconst hk (pc' := 1) 0 dX8_wrongInRow_0 rfl rfl ?_
  refine GG_istore_n hk (pc' := 2) [(1, .int 0), (0, .ref (kh k + 163))] dX8_wrongInRow_1 rfl rfl (by decide) rfl ?_
  refine GG_sub (L' := [(0, .ref (kh k + 163)), (1, .int 0)]) [1, 0] rfl ?_
  exact m_X8_wrongInRow_2 hk hq  1000 M 0 
theorem c_X8_wrongInRow (l : Launch) (C : DD) (a : Nat) (M : Mem)   : CI l C (a) yX8_wrongInRow cX8_wrongInRow 2 .int 224 [.ref (a + 163)] M (f_X8_wrongInRow M ) := by
  refine CI_of RX8 (by decide +kernel) rfl (Nat.le_of_ble_eq_true rfl) (fun k q hk hq e1 e2 e3 => ?_)
  subst e1; subst e2; subst e3
  exact m_X8_wrongInRow hk hq M  

/-! SettingsInLayersModel.whatIs(II)I -/
noncomputable def f_X8_whatIs_70  (k57 : Mem → Int32 → Int32 → Int32 → Int32 → Int32 → Option (Int32 × Mem)) (M : Mem) (l2 : Int32) (l3 : Int32) (l4 : Int32) (l5 : Int32) (l6 : Int32) (t0 : Int32) (t1 : Int32) : Option (Int32 × Mem) :=
    if t0 ≤ t1 then
      Option.bind (wra 640 M 164 l3 l4) fun M2 =>
      some (l5, M2)
    else
      Option.bind (wra 640 M 164 l3 l6) fun M3 =>
      Option.bind (f_X8_wrongInRow M3 ) fun z4 =>
      if ¬ z4.1 = (-9) then
        k57 z4.2 l2 l3 l4 (l5 ||| 0) (l6 + 1)
      else
        Option.bind (some (l5 ||| (1 <<< (l6 &&& 31)))) fun v6 =>
        k57 z4.2 l2 l3 l4 v6 (l6 + 1)
set_option maxRecDepth 20000 in
theorem m_X8_whatIs_70 {k : KT} {q : Int32 × Mem} (hk : CX k cX8_whatIs RX8 7 (some .int) 225) (hq : RI k q) (k57 : Mem → Int32 → Int32 → Int32 → Int32 → Int32 → Option (Int32 × Mem)) (hk57 : ∀ (M : Mem) (l2 : Int32) (l3 : Int32) (l4 : Int32) (l5 : Int32) (l6 : Int32) , GG k q (wM k M) 57 [(0, .ref (kh k + 163)), (2, .int l2), (3, .int l3), (4, .int l4), (5, .int l5), (6, .int l6)] [] (k57 M l2 l3 l4 l5 l6)) (M : Mem) (l2 : Int32) (l3 : Int32) (l4 : Int32) (l5 : Int32) (l6 : Int32) (t0 : Int32) (t1 : Int32)  : GG k q (wM k M) 70 [(0, .ref (kh k + 163)), (2, .int l2), (3, .int l3), (4, .int l4), (5, .int l5), (6, .int l6)] [.int t0, .int t1] (f_X8_whatIs_70 k57 M l2 l3 l4 l5 l6 t0 t1) := by
  unfold f_X8_whatIs_70
  refine GG_icmp_ge hk 109 (pc' := 73) dX8_whatIs_70 rfl (by decide) (fun c1 => ?_) (fun c1 => ?_)
  · refine GG_aload_n hk (pc' := 110) 0 dX8_whatIs_109 rfl rfl rfl ?_
    refine GG_get hk LC8 0 (v := .ref (kh k + 164)) (pc' := 113) tw_842 rfl rfl (by decide) rfl dX8_whatIs_110 rfl ?_
    refine GG_iload_n hk (pc' := 114) 2 dX8_whatIs_113 rfl rfl rfl ?_
    refine GG_iload hk (pc' := 116) 3 dX8_whatIs_114 rfl rfl ?_
    refine GG_iast hk (pc' := 117) rfl rfl dX8_whatIs_116 rfl (fun M2 e_M2 => ?_)
    refine GG_iload hk (pc' := 119) 4 dX8_whatIs_117 rfl rfl ?_
    exact GG_iret hk hq dX8_whatIs_119
  · refine GG_aload_n hk (pc' := 74) 0 dX8_whatIs_73 rfl rfl rfl ?_
    refine GG_get hk LC8 0 (v := .ref (kh k + 164)) (pc' := 77) tw_842 rfl rfl (by decide) rfl dX8_whatIs_74 rfl ?_
    refine GG_iload_n hk (pc' := 78) 2 dX8_whatIs_77 rfl rfl rfl ?_
    refine GG_iload hk (pc' := 80) 5 dX8_whatIs_78 rfl rfl ?_
    refine GG_iast hk (pc' := 81) rfl rfl dX8_whatIs_80 rfl (fun M3 e_M3 => ?_)
    refine GG_iload hk (pc' := 83) 4 dX8_whatIs_81 rfl rfl ?_
    refine GG_aload_n hk (pc' := 84) 0 dX8_whatIs_83 rfl rfl rfl ?_
    refine GG_callVi hk (st := [.int l5]) (pc' := 87) mf_X8_wrongInRow mv_X8_wrongInRow LC8 rfl (c_X8_wrongInRow _ _ _ M3  ) (by omega) tw_1214 rfl rfl rfl (Nat.le_of_ble_eq_true rfl) dX8_whatIs_84 rfl (fun z4 e_z4 => ?_)
    refine GG_bipush hk (pc' := 89) (-9) dX8_whatIs_87 rfl rfl ?_
    refine GG_icmp_ne hk 99 (pc' := 92) dX8_whatIs_89 rfl (by decide) (fun c5 => ?_) (fun c5 => ?_)
    · refine GG_iconst hk (pc' := 100) 0 dX8_whatIs_99 rfl rfl ?_
      refine GG_ior hk (pc' := 101) dX8_whatIs_100 rfl ?_
      refine GG_istore hk (pc' := 103) [(5, .int (l5 ||| 0)), (0, .ref (kh k + 163)), (2, .int l2), (3, .int l3), (4, .int l4), (6, .int l6)] dX8_whatIs_101 rfl (by decide) rfl ?_
      refine GG_iinc hk (pc' := 106) 5 (l6 + 1) [(6, .int (l6 + 1)), (5, .int (l5 ||| 0)), (0, .ref (kh k + 163)), (2, .int l2), (3, .int l3), (4, .int l4)] dX8_whatIs_103 rfl rfl rfl (by decide) rfl ?_
      refine GG_goto hk 57 dX8_whatIs_106 (by decide) ?_
      refine GG_sub (L' := [(0, .ref (kh k + 163)), (2, .int l2), (3, .int l3), (4, .int l4), (5, .int (l5 ||| 0)), (6, .int (l6 + 1))]) [2, 3, 4, 5, 1, 0] rfl ?_
      exact hk57 z4.2 l2 l3 l4 (l5 ||| 0) (l6 + 1) 
    · refine GG_iconst hk (pc' := 93) 1 dX8_whatIs_92 rfl rfl ?_
      refine GG_iload hk (pc' := 95) 5 dX8_whatIs_93 rfl rfl ?_
      refine GG_ishl hk (pc' := 96) dX8_whatIs_95 rfl ?_
      refine GG_goto hk 100 dX8_whatIs_96 (by decide) ?_
      refine GG_ior hk (pc' := 101) dX8_whatIs_100 rfl ?_
      refine GG_nm (fun v6 e_v6 => ?_)
      refine GG_istore hk (pc' := 103) [(5, .int v6), (0, .ref (kh k + 163)), (2, .int l2), (3, .int l3), (4, .int l4), (6, .int l6)] dX8_whatIs_101 rfl (by decide) rfl ?_
      refine GG_iinc hk (pc' := 106) 5 (l6 + 1) [(6, .int (l6 + 1)), (5, .int v6), (0, .ref (kh k + 163)), (2, .int l2), (3, .int l3), (4, .int l4)] dX8_whatIs_103 rfl rfl rfl (by decide) rfl ?_
      refine GG_goto hk 57 dX8_whatIs_106 (by decide) ?_
      refine GG_sub (L' := [(0, .ref (kh k + 163)), (2, .int l2), (3, .int l3), (4, .int l4), (5, .int v6), (6, .int (l6 + 1))]) [2, 3, 4, 5, 1, 0] rfl ?_
      exact hk57 z4.2 l2 l3 l4 v6 (l6 + 1) 
noncomputable def f_X8_whatIs_57  : Nat → Mem → Int32 → Int32 → Int32 → Int32 → Int32 → Option (Int32 × Mem)
  | 0, _, _, _, _, _, _ => none
  | n + 1, M, l2, l3, l4, l5, l6 =>
    if ¬ l2 = 0 then
      f_X8_whatIs_70 (f_X8_whatIs_57  n) M l2 l3 l4 l5 l6 10 l6
    else
      f_X8_whatIs_70 (f_X8_whatIs_57  n) M l2 l3 l4 l5 l6 6 l6
set_option maxRecDepth 20000 in
theorem m_X8_whatIs_57 {k : KT} {q : Int32 × Mem} (hk : CX k cX8_whatIs RX8 7 (some .int) 225) (hq : RI k q) : ∀ (n : Nat) (M : Mem) (l2 : Int32) (l3 : Int32) (l4 : Int32) (l5 : Int32) (l6 : Int32) , GG k q (wM k M) 57 [(0, .ref (kh k + 163)), (2, .int l2), (3, .int l3), (4, .int l4), (5, .int l5), (6, .int l6)] [] (f_X8_whatIs_57  n M l2 l3 l4 l5 l6) := by
  intro n
  induction n with
  | zero => intros; exact GG_none
  | succ n ih =>
    intro M l2 l3 l4 l5 l6 
    rw [f_X8_whatIs_57]
    refine GG_iload hk (pc' := 59) 5 dX8_whatIs_57 rfl rfl ?_
    refine GG_iload_n hk (pc' := 60) 1 dX8_whatIs_59 rfl rfl rfl ?_
    refine GG_if_ne hk 68 (pc' := 63) dX8_whatIs_60 rfl (by decide) (fun c1 => ?_) (fun c1 => ?_)
    · refine GG_bipush hk (pc' := 70) 10 dX8_whatIs_68 rfl rfl ?_
      exact m_X8_whatIs_70 hk hq (f_X8_whatIs_57  n) ih M l2 l3 l4 l5 l6 10 l6 
    · refine GG_bipush hk (pc' := 65) 6 dX8_whatIs_63 rfl rfl ?_
      refine GG_goto hk 70 dX8_whatIs_65 (by decide) ?_
      exact m_X8_whatIs_70 hk hq (f_X8_whatIs_57  n) ih M l2 l3 l4 l5 l6 6 l6 
noncomputable def f_X8_whatIs_41  (M : Mem) (l2 : Int32) (t0 : Int32) (t1 : Int32) : Option (Int32 × Mem) :=
    Option.bind (rd 640 (M 164) (t1 + t0)) fun v1 =>
    f_X8_whatIs_57  1000 M l2 (t1 + t0) v1 0 0
set_option maxRecDepth 20000 in
theorem m_X8_whatIs_41 {k : KT} {q : Int32 × Mem} (hk : CX k cX8_whatIs RX8 7 (some .int) 225) (hq : RI k q) (M : Mem) (l2 : Int32) (t0 : Int32) (t1 : Int32)  : GG k q (wM k M) 41 [(0, .ref (kh k + 163)), (2, .int l2)] [.int t0, .int t1] (f_X8_whatIs_41  M l2 t0 t1) := by
  unfold f_X8_whatIs_41
  refine GG_iadd hk (pc' := 42) dX8_whatIs_41 rfl ?_
  refine GG_istore_n hk (pc' := 43) [(3, .int (t1 + t0)), (0, .ref (kh k + 163)), (2, .int l2)] dX8_whatIs_42 rfl rfl (by decide) rfl ?_
  refine GG_aload_n hk (pc' := 44) 1 dX8_whatIs_43 rfl rfl rfl ?_
  refine GG_get hk LC8 0 (v := .ref (kh k + 164)) (pc' := 47) tw_842 rfl rfl (by decide) rfl dX8_whatIs_44 rfl ?_
  refine GG_iload_n hk (pc' := 48) 0 dX8_whatIs_47 rfl rfl rfl ?_
  refine GG_iald hk (pc' := 49) rfl rfl dX8_whatIs_48 rfl (fun v1 e_v1 => ?_)
  refine GG_istore hk (pc' := 51) [(4, .int v1), (3, .int (t1 + t0)), (0, .ref (kh k + 163)), (2, .int l2)] dX8_whatIs_49 rfl (by decide) rfl ?_
  refine GG_iconst hk (pc' := 52) 0 dX8_whatIs_51 rfl rfl ?_
  refine GG_istore hk (pc' := 54) [(5, .int 0), (4, .int v1), (3, .int (t1 + t0)), (0, .ref (kh k + 163)), (2, .int l2)] dX8_whatIs_52 rfl (by decide) rfl ?_
  refine GG_iconst hk (pc' := 55) 0 dX8_whatIs_54 rfl rfl ?_
  refine GG_istore hk (pc' := 57) [(6, .int 0), (5, .int 0), (4, .int v1), (3, .int (t1 + t0)), (0, .ref (kh k + 163)), (2, .int l2)] dX8_whatIs_55 rfl (by decide) rfl ?_
  refine GG_sub (L' := [(0, .ref (kh k + 163)), (2, .int l2), (3, .int (t1 + t0)), (4, .int v1), (5, .int 0), (6, .int 0)]) [4, 5, 3, 2, 1, 0] rfl ?_
  exact m_X8_whatIs_57 hk hq  1000 M l2 (t1 + t0) v1 0 0 
noncomputable def f_X8_whatIs (M : Mem) (l1 : Int32) (l2 : Int32) : Option (Int32 × Mem) :=
    Option.bind (f_X8_isLayer M l1) fun z1 =>
    if ¬ z1.1 = 0 then
      Option.bind (f_X8_isIn z1.2 l2 0 1) fun z3 =>
      if ¬ z3.1 = 0 then
        if ¬ l2 = 0 then
          f_X8_whatIs_41  z3.2 l2 2 (3 * l1)
        else
          f_X8_whatIs_41  z3.2 l2 1 (3 * l1)
      else
        Option.bind (f_X8_no z3.2 (-2)) fun z6 =>
        some (z6.1, z6.2)
    else
      Option.bind (f_X8_no z1.2 (-1)) fun z7 =>
      some (z7.1, z7.2)
set_option maxRecDepth 20000 in
theorem m_X8_whatIs {k : KT} {q : Int32 × Mem} (hk : CX k cX8_whatIs RX8 7 (some .int) 225) (hq : RI k q) (M : Mem) (l1 : Int32) (l2 : Int32)  : GG k q (wM k M) 0 [(0, .ref (kh k + 163)), (1, .int l1), (2, .int l2)] [] (f_X8_whatIs M l1 l2) := by
  unfold f_X8_whatIs
  refine GG_iload_n hk (pc' := 1) 1 dX8_whatIs_0 rfl rfl rfl ?_
  refine GG_callSi hk (st := []) (pc' := 4) mf_X8_isLayer tw_933 (c_X8_isLayer _ _ _ M l1 ) (by omega) tw_932 rfl rfl (Nat.le_of_ble_eq_true rfl) dX8_whatIs_1 rfl (fun z1 e_z1 => ?_)
  refine GG_if_ne hk 13 (pc' := 7) dX8_whatIs_4 rfl (by decide) (fun c2 => ?_) (fun c2 => ?_)
  · refine GG_iload_n hk (pc' := 14) 2 dX8_whatIs_13 rfl rfl rfl ?_
    refine GG_iconst hk (pc' := 15) 0 dX8_whatIs_14 rfl rfl ?_
    refine GG_iconst hk (pc' := 16) 1 dX8_whatIs_15 rfl rfl ?_
    refine GG_callSi hk (st := []) (pc' := 19) mf_X8_isIn tw_936 (c_X8_isIn _ _ _ z1.2 l2 0 1 ) (by omega) tw_935 rfl rfl (Nat.le_of_ble_eq_true rfl) dX8_whatIs_16 rfl (fun z3 e_z3 => ?_)
    refine GG_if_ne hk 29 (pc' := 22) dX8_whatIs_19 rfl (by decide) (fun c4 => ?_) (fun c4 => ?_)
    · refine GG_iconst hk (pc' := 30) 3 dX8_whatIs_29 rfl rfl ?_
      refine GG_iload_n hk (pc' := 31) 1 dX8_whatIs_30 rfl rfl rfl ?_
      refine GG_imul hk (pc' := 32) dX8_whatIs_31 rfl ?_
      refine GG_iload_n hk (pc' := 33) 2 dX8_whatIs_32 rfl rfl rfl ?_
      refine GG_if_ne hk 40 (pc' := 36) dX8_whatIs_33 rfl (by decide) (fun c5 => ?_) (fun c5 => ?_)
      · refine GG_iconst hk (pc' := 41) 2 dX8_whatIs_40 rfl rfl ?_
        refine GG_sub (L' := [(0, .ref (kh k + 163)), (2, .int l2)]) [0, 2] rfl ?_
        exact m_X8_whatIs_41 hk hq  z3.2 l2 2 (3 * l1) 
      · refine GG_iconst hk (pc' := 37) 1 dX8_whatIs_36 rfl rfl ?_
        refine GG_goto hk 41 dX8_whatIs_37 (by decide) ?_
        refine GG_sub (L' := [(0, .ref (kh k + 163)), (2, .int l2)]) [0, 2] rfl ?_
        exact m_X8_whatIs_41 hk hq  z3.2 l2 1 (3 * l1) 
    · refine GG_aload_n hk (pc' := 23) 0 dX8_whatIs_22 rfl rfl rfl ?_
      refine GG_bipush hk (pc' := 25) (-2) dX8_whatIs_23 rfl rfl ?_
      refine GG_callVi hk (st := []) (pc' := 28) mf_X8_no mv_X8_no LC8 rfl (c_X8_no _ _ _ z3.2 (-2) ) (by omega) tw_938 rfl rfl rfl (Nat.le_of_ble_eq_true rfl) dX8_whatIs_25 rfl (fun z6 e_z6 => ?_)
      exact GG_iret hk hq dX8_whatIs_28
  · refine GG_aload_n hk (pc' := 8) 0 dX8_whatIs_7 rfl rfl rfl ?_
    refine GG_iconst hk (pc' := 9) (-1) dX8_whatIs_8 rfl rfl ?_
    refine GG_callVi hk (st := []) (pc' := 12) mf_X8_no mv_X8_no LC8 rfl (c_X8_no _ _ _ z1.2 (-1) ) (by omega) tw_938 rfl rfl rfl (Nat.le_of_ble_eq_true rfl) dX8_whatIs_9 rfl (fun z7 e_z7 => ?_)
    exact GG_iret hk hq dX8_whatIs_12
theorem c_X8_whatIs (l : Launch) (C : DD) (a : Nat) (M : Mem) (l1 : Int32) (l2 : Int32)  : CI l C (a) yX8_whatIs cX8_whatIs 7 .int 225 [.ref (a + 163), .int l1, .int l2] M (f_X8_whatIs M l1 l2) := by
  refine CI_of RX8 (by decide +kernel) rfl (Nat.le_of_ble_eq_true rfl) (fun k q hk hq e1 e2 e3 => ?_)
  subst e1; subst e2; subst e3
  exact m_X8_whatIs hk hq M l1 l2 

/-! SettingsInLayersModel.row(I)I -/
noncomputable def f_X8_row (M : Mem) (l1 : Int32) : Option (Int32 × Mem) :=
    if 0 ≤ l1 then
      if 100 < l1 then
        Option.bind (f_X8_no M (-6)) fun z3 =>
        some (z3.1, z3.2)
      else
        if ¬ (M 163 8) = 8 then
          Option.bind (wra 8 M 170 (M 163 8) l1) fun M5 =>
          Option.bind (wrf M5 163 8 ((M5 163 8) + 1)) fun M6 =>
          some ((M6 163 8), M6)
        else
          Option.bind (f_X8_no M (-6)) fun z7 =>
          some (z7.1, z7.2)
    else
      Option.bind (f_X8_no M (-4)) fun z8 =>
      some (z8.1, z8.2)
set_option maxRecDepth 20000 in
theorem m_X8_row {k : KT} {q : Int32 × Mem} (hk : CX k cX8_row RX8 2 (some .int) 2) (hq : RI k q) (M : Mem) (l1 : Int32)  : GG k q (wM k M) 0 [(0, .ref (kh k + 163)), (1, .int l1)] [] (f_X8_row M l1) := by
  unfold f_X8_row
  refine GG_iload_n hk (pc' := 1) 1 dX8_row_0 rfl rfl rfl ?_
  refine GG_if_ge hk 11 (pc' := 4) dX8_row_1 rfl (by decide) (fun c1 => ?_) (fun c1 => ?_)
  · refine GG_iload_n hk (pc' := 12) 1 dX8_row_11 rfl rfl rfl ?_
    refine GG_bipush hk (pc' := 14) 100 dX8_row_12 rfl rfl ?_
    refine GG_icmp_gt hk 26 (pc' := 17) dX8_row_14 rfl (by decide) (fun c2 => ?_) (fun c2 => ?_)
    · refine GG_aload_n hk (pc' := 27) 0 dX8_row_26 rfl rfl rfl ?_
      refine GG_bipush hk (pc' := 29) (-6) dX8_row_27 rfl rfl ?_
      refine GG_callVi hk (st := []) (pc' := 32) mf_X8_no mv_X8_no LC8 rfl (c_X8_no _ _ _ M (-6) ) (by omega) tw_938 rfl rfl rfl (Nat.le_of_ble_eq_true rfl) dX8_row_29 rfl (fun z3 e_z3 => ?_)
      exact GG_iret hk hq dX8_row_32
    · refine GG_aload_n hk (pc' := 18) 0 dX8_row_17 rfl rfl rfl ?_
      refine GG_get hk LC8 8 (v := .int (M 163 8)) (pc' := 21) tw_850 rfl rfl (by decide) rfl dX8_row_18 rfl ?_
      refine GG_bipush hk (pc' := 23) 8 dX8_row_21 rfl rfl ?_
      refine GG_icmp_ne hk 33 (pc' := 26) dX8_row_23 rfl (by decide) (fun c4 => ?_) (fun c4 => ?_)
      · refine GG_aload_n hk (pc' := 34) 0 dX8_row_33 rfl rfl rfl ?_
        refine GG_get hk LC8 6 (v := .ref (kh k + 170)) (pc' := 37) tw_848 rfl rfl (by decide) rfl dX8_row_34 rfl ?_
        refine GG_aload_n hk (pc' := 38) 0 dX8_row_37 rfl rfl rfl ?_
        refine GG_get hk LC8 8 (v := .int (M 163 8)) (pc' := 41) tw_850 rfl rfl (by decide) rfl dX8_row_38 rfl ?_
        refine GG_iload_n hk (pc' := 42) 1 dX8_row_41 rfl rfl rfl ?_
        refine GG_iast hk (pc' := 43) rfl rfl dX8_row_42 rfl (fun M5 e_M5 => ?_)
        refine GG_aload_n hk (pc' := 44) 0 dX8_row_43 rfl rfl rfl ?_
        refine GG_dup hk (pc' := 45) dX8_row_44 rfl rfl ?_
        refine GG_get hk LC8 8 (v := .int (M5 163 8)) (pc' := 48) tw_850 rfl rfl (by decide) rfl dX8_row_45 rfl ?_
        refine GG_iconst hk (pc' := 49) 1 dX8_row_48 rfl rfl ?_
        refine GG_iadd hk (pc' := 50) dX8_row_49 rfl ?_
        refine GG_put hk LC8 8 (pc' := 53) tw_850 rfl rfl (by decide) rfl rfl (Nat.le_of_ble_eq_true rfl) (pv_8_8 _ _ _ _) dX8_row_50 rfl (fun M6 e_M6 => ?_)
        refine GG_aload_n hk (pc' := 54) 0 dX8_row_53 rfl rfl rfl ?_
        refine GG_get hk LC8 8 (v := .int (M6 163 8)) (pc' := 57) tw_850 rfl rfl (by decide) rfl dX8_row_54 rfl ?_
        exact GG_iret hk hq dX8_row_57
      · refine GG_aload_n hk (pc' := 27) 0 dX8_row_26 rfl rfl rfl ?_
        refine GG_bipush hk (pc' := 29) (-6) dX8_row_27 rfl rfl ?_
        refine GG_callVi hk (st := []) (pc' := 32) mf_X8_no mv_X8_no LC8 rfl (c_X8_no _ _ _ M (-6) ) (by omega) tw_938 rfl rfl rfl (Nat.le_of_ble_eq_true rfl) dX8_row_29 rfl (fun z7 e_z7 => ?_)
        exact GG_iret hk hq dX8_row_32
  · refine GG_aload_n hk (pc' := 5) 0 dX8_row_4 rfl rfl rfl ?_
    refine GG_bipush hk (pc' := 7) (-4) dX8_row_5 rfl rfl ?_
    refine GG_callVi hk (st := []) (pc' := 10) mf_X8_no mv_X8_no LC8 rfl (c_X8_no _ _ _ M (-4) ) (by omega) tw_938 rfl rfl rfl (Nat.le_of_ble_eq_true rfl) dX8_row_7 rfl (fun z8 e_z8 => ?_)
    exact GG_iret hk hq dX8_row_10
theorem c_X8_row (l : Launch) (C : DD) (a : Nat) (M : Mem) (l1 : Int32)  : CI l C (a) yX8_row cX8_row 2 .int 2 [.ref (a + 163), .int l1] M (f_X8_row M l1) := by
  refine CI_of RX8 (by decide +kernel) rfl (Nat.le_of_ble_eq_true rfl) (fun k q hk hq e1 e2 e3 => ?_)
  subst e1; subst e2; subst e3
  exact m_X8_row hk hq M l1 

/-! SettingsInLayersModel.judge()I -/
noncomputable def f_X8_judge (M : Mem)  : Option (Int32 × Mem) :=
    Option.bind (f_X8_wrongInRow M ) fun z1 =>
    Option.bind (wrf z1.2 163 8 0) fun M2 =>
    some (z1.1, M2)
set_option maxRecDepth 20000 in
theorem m_X8_judge {k : KT} {q : Int32 × Mem} (hk : CX k cX8_judge RX8 2 (some .int) 225) (hq : RI k q) (M : Mem)   : GG k q (wM k M) 0 [(0, .ref (kh k + 163))] [] (f_X8_judge M ) := by
  unfold f_X8_judge
  refine GG_aload_n hk (pc' := 1) 0 dX8_judge_0 rfl rfl rfl ?_
  refine GG_callVi hk (st := []) (pc' := 4) mf_X8_wrongInRow mv_X8_wrongInRow LC8 rfl (c_X8_wrongInRow _ _ _ M  ) (by omega) tw_1214 rfl rfl rfl (Nat.le_of_ble_eq_true rfl) dX8_judge_1 rfl (fun z1 e_z1 => ?_)
  refine GG_istore_n hk (pc' := 5) [(1, .int z1.1), (0, .ref (kh k + 163))] dX8_judge_4 rfl rfl (by decide) rfl ?_
  refine GG_aload_n hk (pc' := 6) 1 dX8_judge_5 rfl rfl rfl ?_
  refine GG_iconst hk (pc' := 7) 0 dX8_judge_6 rfl rfl ?_
  refine GG_put hk LC8 8 (pc' := 10) tw_850 rfl rfl (by decide) rfl rfl (Nat.le_of_ble_eq_true rfl) (pv_8_8 _ _ _ _) dX8_judge_7 rfl (fun M2 e_M2 => ?_)
  refine GG_iload_n hk (pc' := 11) 0 dX8_judge_10 rfl rfl rfl ?_
  exact GG_iret hk hq dX8_judge_11
theorem c_X8_judge (l : Launch) (C : DD) (a : Nat) (M : Mem)   : CI l C (a) yX8_judge cX8_judge 2 .int 225 [.ref (a + 163)] M (f_X8_judge M ) := by
  refine CI_of RX8 (by decide +kernel) rfl (Nat.le_of_ble_eq_true rfl) (fun k q hk hq e1 e2 e3 => ?_)
  subst e1; subst e2; subst e3
  exact m_X8_judge hk hq M  

/-! SettingsInLayersModel.clear()I -/
noncomputable def f_X8_clear (M : Mem)  : Option (Int32 × Mem) :=
    Option.bind (wrf M 163 8 0) fun M1 =>
    some ((M 163 8), M1)
set_option maxRecDepth 20000 in
theorem m_X8_clear {k : KT} {q : Int32 × Mem} (hk : CX k cX8_clear RX8 2 (some .int) 1) (hq : RI k q) (M : Mem)   : GG k q (wM k M) 0 [(0, .ref (kh k + 163))] [] (f_X8_clear M ) := by
  unfold f_X8_clear
  refine GG_aload_n hk (pc' := 1) 0 dX8_clear_0 rfl rfl rfl ?_
  refine GG_get hk LC8 8 (v := .int (M 163 8)) (pc' := 4) tw_850 rfl rfl (by decide) rfl dX8_clear_1 rfl ?_
  refine GG_istore_n hk (pc' := 5) [(1, .int (M 163 8)), (0, .ref (kh k + 163))] dX8_clear_4 rfl rfl (by decide) rfl ?_
  refine GG_aload_n hk (pc' := 6) 1 dX8_clear_5 rfl rfl rfl ?_
  refine GG_iconst hk (pc' := 7) 0 dX8_clear_6 rfl rfl ?_
  refine GG_put hk LC8 8 (pc' := 10) tw_850 rfl rfl (by decide) rfl rfl (Nat.le_of_ble_eq_true rfl) (pv_8_8 _ _ _ _) dX8_clear_7 rfl (fun M1 e_M1 => ?_)
  refine GG_iload_n hk (pc' := 11) 0 dX8_clear_10 rfl rfl rfl ?_
  exact GG_iret hk hq dX8_clear_11
theorem c_X8_clear (l : Launch) (C : DD) (a : Nat) (M : Mem)   : CI l C (a) yX8_clear cX8_clear 2 .int 1 [.ref (a + 163)] M (f_X8_clear M ) := by
  refine CI_of RX8 (by decide +kernel) rfl (Nat.le_of_ble_eq_true rfl) (fun k q hk hq e1 e2 e3 => ?_)
  subst e1; subst e2; subst e3
  exact m_X8_clear hk hq M  

/-! SettingsInLayersModel.draw(I)I -/
noncomputable def f_X8_draw (M : Mem) (l1 : Int32) : Option (Int32 × Mem) :=
    Option.bind (wrf M 163 11 (((M 163 11) * 1664525) + 1013904223)) fun M1 =>
    Option.bind (dvI ((M1 163 11) &&& 2147483647) 256) fun v2 =>
    Option.bind (rmI v2 l1) fun v3 =>
    some (v3, M1)
set_option maxRecDepth 20000 in
theorem m_X8_draw {k : KT} {q : Int32 × Mem} (hk : CX k cX8_draw RX8 2 (some .int) 1) (hq : RI k q) (M : Mem) (l1 : Int32)  : GG k q (wM k M) 0 [(0, .ref (kh k + 163)), (1, .int l1)] [] (f_X8_draw M l1) := by
  unfold f_X8_draw
  refine GG_aload_n hk (pc' := 1) 0 dX8_draw_0 rfl rfl rfl ?_
  refine GG_aload_n hk (pc' := 2) 0 dX8_draw_1 rfl rfl rfl ?_
  refine GG_get hk LC8 11 (v := .int (M 163 11)) (pc' := 5) tw_853 rfl rfl (by decide) rfl dX8_draw_2 rfl ?_
  refine GG_ldcw hk (pc' := 8) (v := 1664525) tw_1242 dX8_draw_5 rfl ?_
  refine GG_imul hk (pc' := 9) dX8_draw_8 rfl ?_
  refine GG_ldcw hk (pc' := 12) (v := 1013904223) tw_1243 dX8_draw_9 rfl ?_
  refine GG_iadd hk (pc' := 13) dX8_draw_12 rfl ?_
  refine GG_put hk LC8 11 (pc' := 16) tw_853 rfl rfl (by decide) rfl rfl (Nat.le_of_ble_eq_true rfl) (pv_8_11 _ _ _ _) dX8_draw_13 rfl (fun M1 e_M1 => ?_)
  refine GG_aload_n hk (pc' := 17) 0 dX8_draw_16 rfl rfl rfl ?_
  refine GG_get hk LC8 11 (v := .int (M1 163 11)) (pc' := 20) tw_853 rfl rfl (by decide) rfl dX8_draw_17 rfl ?_
  refine GG_ldcw hk (pc' := 23) (v := 2147483647) tw_1244 dX8_draw_20 rfl ?_
  refine GG_iand hk (pc' := 24) dX8_draw_23 rfl ?_
  refine GG_sipush hk (pc' := 27) 256 dX8_draw_24 rfl rfl ?_
  refine GG_idiv hk (pc' := 28) dX8_draw_27 rfl (fun v2 e_v2 => ?_)
  refine GG_iload_n hk (pc' := 29) 1 dX8_draw_28 rfl rfl rfl ?_
  refine GG_irem hk (pc' := 30) dX8_draw_29 rfl (fun v3 e_v3 => ?_)
  exact GG_iret hk hq dX8_draw_30
theorem c_X8_draw (l : Launch) (C : DD) (a : Nat) (M : Mem) (l1 : Int32)  : CI l C (a) yX8_draw cX8_draw 2 .int 1 [.ref (a + 163), .int l1] M (f_X8_draw M l1) := by
  refine CI_of RX8 (by decide +kernel) rfl (Nat.le_of_ble_eq_true rfl) (fun k q hk hq e1 e2 e3 => ?_)
  subst e1; subst e2; subst e3
  exact m_X8_draw hk hq M l1 

/-! SettingsInLayersModel.lots(III)I -/
noncomputable def f_X8_lots_153  (k63 : Mem → Int32 → Int32 → Int32 → Int32 → Option (Int32 × Mem)) (M : Mem) (l1 : Int32) (l3 : Int32) (l5 : Int32) (t0 : Int32) (t1 : Int32) : Option (Int32 × Mem) :=
    Option.bind (f_X8_copies M 166 164) fun z1 =>
    k63 z1 l1 l3 (t1 + t0) (l5 + 1)
set_option maxRecDepth 20000 in
theorem m_X8_lots_153 {k : KT} {q : Int32 × Mem} (hk : CX k cX8_lots RX8 9 (some .int) 224) (hq : RI k q) (k63 : Mem → Int32 → Int32 → Int32 → Int32 → Option (Int32 × Mem)) (hk63 : ∀ (M : Mem) (l1 : Int32) (l3 : Int32) (l4 : Int32) (l5 : Int32) , GG k q (wM k M) 63 [(0, .ref (kh k + 163)), (1, .int l1), (3, .int l3), (4, .int l4), (5, .int l5)] [] (k63 M l1 l3 l4 l5)) (M : Mem) (l1 : Int32) (l3 : Int32) (l5 : Int32) (t0 : Int32) (t1 : Int32)  : GG k q (wM k M) 153 [(0, .ref (kh k + 163)), (1, .int l1), (3, .int l3), (5, .int l5)] [.int t0, .int t1] (f_X8_lots_153 k63 M l1 l3 l5 t0 t1) := by
  unfold f_X8_lots_153
  refine GG_iadd hk (pc' := 154) dX8_lots_153 rfl ?_
  refine GG_istore hk (pc' := 156) [(4, .int (t1 + t0)), (0, .ref (kh k + 163)), (1, .int l1), (3, .int l3), (5, .int l5)] dX8_lots_154 rfl (by decide) rfl ?_
  refine GG_aload_n hk (pc' := 157) 1 dX8_lots_156 rfl rfl rfl ?_
  refine GG_get hk LC8 2 (v := .ref (kh k + 166)) (pc' := 160) tw_844 rfl rfl (by decide) rfl dX8_lots_157 rfl ?_
  refine GG_aload_n hk (pc' := 161) 1 dX8_lots_160 rfl rfl rfl ?_
  refine GG_get hk LC8 0 (v := .ref (kh k + 164)) (pc' := 164) tw_842 rfl rfl (by decide) rfl dX8_lots_161 rfl ?_
  refine GG_callSv hk (st := []) (pc' := 167) mf_X8_copies tw_1033 (c_X8_copies _ _ _ M 166 164 rfl rfl) (by omega) tw_1032 rfl rfl (Nat.le_of_ble_eq_true rfl) dX8_lots_164 rfl (fun z1 e_z1 => ?_)
  refine GG_iinc hk (pc' := 170) 4 (l5 + 1) [(5, .int (l5 + 1)), (4, .int (t1 + t0)), (0, .ref (kh k + 163)), (1, .int l1), (3, .int l3)] dX8_lots_167 rfl rfl rfl (by decide) rfl ?_
  refine GG_goto hk 63 dX8_lots_170 (by decide) ?_
  refine GG_sub (L' := [(0, .ref (kh k + 163)), (1, .int l1), (3, .int l3), (4, .int (t1 + t0)), (5, .int (l5 + 1))]) [2, 3, 4, 1, 0] rfl ?_
  exact hk63 z1 l1 l3 (t1 + t0) (l5 + 1) 
noncomputable def f_X8_lots_129  (k63 : Mem → Int32 → Int32 → Int32 → Int32 → Option (Int32 × Mem)) (M : Mem) (l1 : Int32) (l3 : Int32) (l4 : Int32) (l5 : Int32) : Option (Int32 × Mem) :=
    if ¬ l3 = 0 then
      Option.bind (f_X8_allSo M 1) fun z2 =>
      Option.bind (f_X8_ones z2.2 z2.1) fun z3 =>
      f_X8_lots_153 k63 z3.2 l1 l3 l5 (8 - z3.1) l4
    else
      Option.bind (f_X8_sum M ) fun z4 =>
      f_X8_lots_153 k63 z4.2 l1 l3 l5 z4.1 l4
set_option maxRecDepth 20000 in
theorem m_X8_lots_129 {k : KT} {q : Int32 × Mem} (hk : CX k cX8_lots RX8 9 (some .int) 224) (hq : RI k q) (k63 : Mem → Int32 → Int32 → Int32 → Int32 → Option (Int32 × Mem)) (hk63 : ∀ (M : Mem) (l1 : Int32) (l3 : Int32) (l4 : Int32) (l5 : Int32) , GG k q (wM k M) 63 [(0, .ref (kh k + 163)), (1, .int l1), (3, .int l3), (4, .int l4), (5, .int l5)] [] (k63 M l1 l3 l4 l5)) (M : Mem) (l1 : Int32) (l3 : Int32) (l4 : Int32) (l5 : Int32)  : GG k q (wM k M) 129 [(0, .ref (kh k + 163)), (1, .int l1), (3, .int l3), (4, .int l4), (5, .int l5)] [] (f_X8_lots_129 k63 M l1 l3 l4 l5) := by
  unfold f_X8_lots_129
  refine GG_iload hk (pc' := 131) 3 dX8_lots_129 rfl rfl ?_
  refine GG_iload_n hk (pc' := 132) 2 dX8_lots_131 rfl rfl rfl ?_
  refine GG_if_ne hk 142 (pc' := 135) dX8_lots_132 rfl (by decide) (fun c1 => ?_) (fun c1 => ?_)
  · refine GG_bipush hk (pc' := 144) 8 dX8_lots_142 rfl rfl ?_
    refine GG_aload_n hk (pc' := 145) 0 dX8_lots_144 rfl rfl rfl ?_
    refine GG_iconst hk (pc' := 146) 1 dX8_lots_145 rfl rfl ?_
    refine GG_callVi hk (st := [.int 8, .int l4]) (pc' := 149) mf_X8_allSo mv_X8_allSo LC8 rfl (c_X8_allSo _ _ _ M 1 ) (by omega) tw_1119 rfl rfl rfl (Nat.le_of_ble_eq_true rfl) dX8_lots_146 rfl (fun z2 e_z2 => ?_)
    refine GG_callSi hk (st := [.int 8, .int l4]) (pc' := 152) mf_X8_ones tw_998 (c_X8_ones _ _ _ z2.2 z2.1 ) (by omega) tw_997 rfl rfl (Nat.le_of_ble_eq_true rfl) dX8_lots_149 rfl (fun z3 e_z3 => ?_)
    refine GG_isub hk (pc' := 153) dX8_lots_152 rfl ?_
    refine GG_sub (L' := [(0, .ref (kh k + 163)), (1, .int l1), (3, .int l3), (5, .int l5)]) [0, 1, 2, 4] rfl ?_
    exact m_X8_lots_153 hk hq k63 hk63 z3.2 l1 l3 l5 (8 - z3.1) l4 
  · refine GG_aload_n hk (pc' := 136) 0 dX8_lots_135 rfl rfl rfl ?_
    refine GG_callVi hk (st := [.int l4]) (pc' := 139) mf_X8_sum mv_X8_sum LC8 rfl (c_X8_sum _ _ _ M  ) (by omega) tw_1206 rfl rfl rfl (Nat.le_of_ble_eq_true rfl) dX8_lots_136 rfl (fun z4 e_z4 => ?_)
    refine GG_goto hk 153 dX8_lots_139 (by decide) ?_
    refine GG_sub (L' := [(0, .ref (kh k + 163)), (1, .int l1), (3, .int l3), (5, .int l5)]) [0, 1, 2, 4] rfl ?_
    exact m_X8_lots_153 hk hq k63 hk63 z4.2 l1 l3 l5 z4.1 l4 
noncomputable def f_X8_lots_72  (k63 : Mem → Int32 → Int32 → Int32 → Int32 → Option (Int32 × Mem)) : Nat → Mem → Int32 → Int32 → Int32 → Int32 → Int32 → Option (Int32 × Mem)
  | 0, _, _, _, _, _, _ => none
  | n + 1, M, l1, l3, l4, l5, l6 =>
    if 4 ≤ l6 then
      f_X8_lots_129 k63 M l1 l3 l4 l5
    else
      Option.bind (f_X8_draw M 6) fun z2 =>
      Option.bind (f_X8_draw z2.2 8) fun z3 =>
      Option.bind (wra 640 z3.2 164 ((3 * z2.1) + 0) 1) fun M4 =>
      Option.bind (f_X8_draw M4 100) fun z5 =>
      Option.bind (f_X8_tell z5.2 z2.1 z3.1 0 z5.1 0) fun z6 =>
      f_X8_lots_72 k63 n z6.2 l1 l3 l4 l5 (l6 + 1)
set_option maxRecDepth 20000 in
theorem m_X8_lots_72 {k : KT} {q : Int32 × Mem} (hk : CX k cX8_lots RX8 9 (some .int) 224) (hq : RI k q) (k63 : Mem → Int32 → Int32 → Int32 → Int32 → Option (Int32 × Mem)) (hk63 : ∀ (M : Mem) (l1 : Int32) (l3 : Int32) (l4 : Int32) (l5 : Int32) , GG k q (wM k M) 63 [(0, .ref (kh k + 163)), (1, .int l1), (3, .int l3), (4, .int l4), (5, .int l5)] [] (k63 M l1 l3 l4 l5)) : ∀ (n : Nat) (M : Mem) (l1 : Int32) (l3 : Int32) (l4 : Int32) (l5 : Int32) (l6 : Int32) , GG k q (wM k M) 72 [(0, .ref (kh k + 163)), (1, .int l1), (3, .int l3), (4, .int l4), (5, .int l5), (6, .int l6)] [] (f_X8_lots_72 k63 n M l1 l3 l4 l5 l6) := by
  intro n
  induction n with
  | zero => intros; exact GG_none
  | succ n ih =>
    intro M l1 l3 l4 l5 l6 
    rw [f_X8_lots_72]
    refine GG_iload hk (pc' := 74) 5 dX8_lots_72 rfl rfl ?_
    refine GG_iconst hk (pc' := 75) 4 dX8_lots_74 rfl rfl ?_
    refine GG_icmp_ge hk 129 (pc' := 78) dX8_lots_75 rfl (by decide) (fun c1 => ?_) (fun c1 => ?_)
    · refine GG_sub (L' := [(0, .ref (kh k + 163)), (1, .int l1), (3, .int l3), (4, .int l4), (5, .int l5)]) [0, 1, 2, 3, 4] rfl ?_
      exact m_X8_lots_129 hk hq k63 hk63 M l1 l3 l4 l5 
    · refine GG_aload_n hk (pc' := 79) 0 dX8_lots_78 rfl rfl rfl ?_
      refine GG_bipush hk (pc' := 81) 6 dX8_lots_79 rfl rfl ?_
      refine GG_callVi hk (st := []) (pc' := 84) mf_X8_draw mv_X8_draw LC8 rfl (c_X8_draw _ _ _ M 6 ) (by omega) tw_1238 rfl rfl rfl (Nat.le_of_ble_eq_true rfl) dX8_lots_81 rfl (fun z2 e_z2 => ?_)
      refine GG_istore hk (pc' := 86) [(7, .int z2.1), (0, .ref (kh k + 163)), (1, .int l1), (3, .int l3), (4, .int l4), (5, .int l5), (6, .int l6)] dX8_lots_84 rfl (by decide) rfl ?_
      refine GG_aload_n hk (pc' := 87) 1 dX8_lots_86 rfl rfl rfl ?_
      refine GG_bipush hk (pc' := 89) 8 dX8_lots_87 rfl rfl ?_
      refine GG_callVi hk (st := []) (pc' := 92) mf_X8_draw mv_X8_draw LC8 rfl (c_X8_draw _ _ _ z2.2 8 ) (by omega) tw_1238 rfl rfl rfl (Nat.le_of_ble_eq_true rfl) dX8_lots_89 rfl (fun z3 e_z3 => ?_)
      refine GG_istore hk (pc' := 94) [(8, .int z3.1), (7, .int z2.1), (0, .ref (kh k + 163)), (1, .int l1), (3, .int l3), (4, .int l4), (5, .int l5), (6, .int l6)] dX8_lots_92 rfl (by decide) rfl ?_
      refine GG_aload_n hk (pc' := 95) 2 dX8_lots_94 rfl rfl rfl ?_
      refine GG_get hk LC8 0 (v := .ref (kh k + 164)) (pc' := 98) tw_842 rfl rfl (by decide) rfl dX8_lots_95 rfl ?_
      refine GG_iconst hk (pc' := 99) 3 dX8_lots_98 rfl rfl ?_
      refine GG_iload hk (pc' := 101) 1 dX8_lots_99 rfl rfl ?_
      refine GG_imul hk (pc' := 102) dX8_lots_101 rfl ?_
      refine GG_iconst hk (pc' := 103) 0 dX8_lots_102 rfl rfl ?_
      refine GG_iadd hk (pc' := 104) dX8_lots_103 rfl ?_
      refine GG_iconst hk (pc' := 105) 1 dX8_lots_104 rfl rfl ?_
      refine GG_iast hk (pc' := 106) rfl rfl dX8_lots_105 rfl (fun M4 e_M4 => ?_)
      refine GG_aload_n hk (pc' := 107) 2 dX8_lots_106 rfl rfl rfl ?_
      refine GG_iload hk (pc' := 109) 1 dX8_lots_107 rfl rfl ?_
      refine GG_iload hk (pc' := 111) 0 dX8_lots_109 rfl rfl ?_
      refine GG_iconst hk (pc' := 112) 0 dX8_lots_111 rfl rfl ?_
      refine GG_aload_n hk (pc' := 113) 2 dX8_lots_112 rfl rfl rfl ?_
      refine GG_bipush hk (pc' := 115) 100 dX8_lots_113 rfl rfl ?_
      refine GG_callVi hk (st := [.int 0, .int z3.1, .int z2.1, .ref (kh k + 163)]) (pc' := 118) mf_X8_draw mv_X8_draw LC8 rfl (c_X8_draw _ _ _ M4 100 ) (by omega) tw_1238 rfl rfl rfl (Nat.le_of_ble_eq_true rfl) dX8_lots_115 rfl (fun z5 e_z5 => ?_)
      refine GG_iconst hk (pc' := 119) 0 dX8_lots_118 rfl rfl ?_
      refine GG_callVi hk (st := []) (pc' := 122) mf_X8_tell mv_X8_tell LC8 rfl (c_X8_tell _ _ _ z5.2 z2.1 z3.1 0 z5.1 0 ) (by omega) tw_957 rfl rfl rfl (Nat.le_of_ble_eq_true rfl) dX8_lots_119 rfl (fun z6 e_z6 => ?_)
      refine GG_pop hk (pc' := 123) dX8_lots_122 rfl rfl ?_
      refine GG_iinc hk (pc' := 126) 7 (l6 + 1) [(6, .int (l6 + 1)), (8, .int z3.1), (7, .int z2.1), (0, .ref (kh k + 163)), (1, .int l1), (3, .int l3), (4, .int l4), (5, .int l5)] dX8_lots_123 rfl rfl rfl (by decide) rfl ?_
      refine GG_goto hk 72 dX8_lots_126 (by decide) ?_
      refine GG_sub (L' := [(0, .ref (kh k + 163)), (1, .int l1), (3, .int l3), (4, .int l4), (5, .int l5), (6, .int (l6 + 1))]) [3, 4, 5, 6, 7, 0] rfl ?_
      exact ih z6.2 l1 l3 l4 l5 (l6 + 1) 
noncomputable def f_X8_lots_63  : Nat → Mem → Int32 → Int32 → Int32 → Int32 → Option (Int32 × Mem)
  | 0, _, _, _, _, _ => none
  | n + 1, M, l1, l3, l4, l5 =>
    if l1 ≤ l5 then
      some (l4, M)
    else
      f_X8_lots_72 (f_X8_lots_63  n) 1000 M l1 l3 l4 l5 0
set_option maxRecDepth 20000 in
theorem m_X8_lots_63 {k : KT} {q : Int32 × Mem} (hk : CX k cX8_lots RX8 9 (some .int) 224) (hq : RI k q) : ∀ (n : Nat) (M : Mem) (l1 : Int32) (l3 : Int32) (l4 : Int32) (l5 : Int32) , GG k q (wM k M) 63 [(0, .ref (kh k + 163)), (1, .int l1), (3, .int l3), (4, .int l4), (5, .int l5)] [] (f_X8_lots_63  n M l1 l3 l4 l5) := by
  intro n
  induction n with
  | zero => intros; exact GG_none
  | succ n ih =>
    intro M l1 l3 l4 l5 
    rw [f_X8_lots_63]
    refine GG_iload hk (pc' := 65) 4 dX8_lots_63 rfl rfl ?_
    refine GG_iload_n hk (pc' := 66) 1 dX8_lots_65 rfl rfl rfl ?_
    refine GG_icmp_ge hk 173 (pc' := 69) dX8_lots_66 rfl (by decide) (fun c1 => ?_) (fun c1 => ?_)
    · refine GG_iload hk (pc' := 175) 3 dX8_lots_173 rfl rfl ?_
      exact GG_iret hk hq dX8_lots_175
    · refine GG_iconst hk (pc' := 70) 0 dX8_lots_69 rfl rfl ?_
      refine GG_istore hk (pc' := 72) [(6, .int 0), (0, .ref (kh k + 163)), (1, .int l1), (3, .int l3), (4, .int l4), (5, .int l5)] dX8_lots_70 rfl (by decide) rfl ?_
      refine GG_sub (L' := [(0, .ref (kh k + 163)), (1, .int l1), (3, .int l3), (4, .int l4), (5, .int l5), (6, .int 0)]) [1, 2, 3, 4, 5, 0] rfl ?_
      exact m_X8_lots_72 hk hq (f_X8_lots_63  n) ih 1000 M l1 l3 l4 l5 0 
noncomputable def f_X8_lots (M : Mem) (l1 : Int32) (l2 : Int32) (l3 : Int32) : Option (Int32 × Mem) :=
    if 1 ≤ l1 then
      if l1 ≤ 20 then
        Option.bind (f_X8_isIn M l3 0 1) fun z3 =>
        if ¬ z3.1 = 0 then
          Option.bind (wrf z3.2 163 11 l2) fun M5 =>
          Option.bind (f_X8_copies M5 164 166) fun z6 =>
          f_X8_lots_63  1000 z6 l1 l3 0 0
        else
          Option.bind (f_X8_no z3.2 (-2)) fun z7 =>
          some (z7.1, z7.2)
      else
        Option.bind (f_X8_no M (-6)) fun z8 =>
        some (z8.1, z8.2)
    else
      Option.bind (f_X8_no M (-4)) fun z9 =>
      some (z9.1, z9.2)
set_option maxRecDepth 20000 in
theorem m_X8_lots {k : KT} {q : Int32 × Mem} (hk : CX k cX8_lots RX8 9 (some .int) 224) (hq : RI k q) (M : Mem) (l1 : Int32) (l2 : Int32) (l3 : Int32)  : GG k q (wM k M) 0 [(0, .ref (kh k + 163)), (1, .int l1), (2, .int l2), (3, .int l3)] [] (f_X8_lots M l1 l2 l3) := by
  unfold f_X8_lots
  refine GG_iload_n hk (pc' := 1) 1 dX8_lots_0 rfl rfl rfl ?_
  refine GG_iconst hk (pc' := 2) 1 dX8_lots_1 rfl rfl ?_
  refine GG_icmp_ge hk 12 (pc' := 5) dX8_lots_2 rfl (by decide) (fun c1 => ?_) (fun c1 => ?_)
  · refine GG_iload_n hk (pc' := 13) 1 dX8_lots_12 rfl rfl rfl ?_
    refine GG_bipush hk (pc' := 15) 20 dX8_lots_13 rfl rfl ?_
    refine GG_icmp_le hk 25 (pc' := 18) dX8_lots_15 rfl (by decide) (fun c2 => ?_) (fun c2 => ?_)
    · refine GG_iload_n hk (pc' := 26) 3 dX8_lots_25 rfl rfl rfl ?_
      refine GG_iconst hk (pc' := 27) 0 dX8_lots_26 rfl rfl ?_
      refine GG_iconst hk (pc' := 28) 1 dX8_lots_27 rfl rfl ?_
      refine GG_callSi hk (st := []) (pc' := 31) mf_X8_isIn tw_936 (c_X8_isIn _ _ _ M l3 0 1 ) (by omega) tw_935 rfl rfl (Nat.le_of_ble_eq_true rfl) dX8_lots_28 rfl (fun z3 e_z3 => ?_)
      refine GG_if_ne hk 41 (pc' := 34) dX8_lots_31 rfl (by decide) (fun c4 => ?_) (fun c4 => ?_)
      · refine GG_aload_n hk (pc' := 42) 0 dX8_lots_41 rfl rfl rfl ?_
        refine GG_iload_n hk (pc' := 43) 2 dX8_lots_42 rfl rfl rfl ?_
        refine GG_put hk LC8 11 (pc' := 46) tw_853 rfl rfl (by decide) rfl rfl (Nat.le_of_ble_eq_true rfl) (pv_8_11 _ _ _ _) dX8_lots_43 rfl (fun M5 e_M5 => ?_)
        refine GG_aload_n hk (pc' := 47) 0 dX8_lots_46 rfl rfl rfl ?_
        refine GG_get hk LC8 0 (v := .ref (kh k + 164)) (pc' := 50) tw_842 rfl rfl (by decide) rfl dX8_lots_47 rfl ?_
        refine GG_aload_n hk (pc' := 51) 0 dX8_lots_50 rfl rfl rfl ?_
        refine GG_get hk LC8 2 (v := .ref (kh k + 166)) (pc' := 54) tw_844 rfl rfl (by decide) rfl dX8_lots_51 rfl ?_
        refine GG_callSv hk (st := []) (pc' := 57) mf_X8_copies tw_1033 (c_X8_copies _ _ _ M5 164 166 rfl rfl) (by omega) tw_1032 rfl rfl (Nat.le_of_ble_eq_true rfl) dX8_lots_54 rfl (fun z6 e_z6 => ?_)
        refine GG_iconst hk (pc' := 58) 0 dX8_lots_57 rfl rfl ?_
        refine GG_istore hk (pc' := 60) [(4, .int 0), (0, .ref (kh k + 163)), (1, .int l1), (2, .int l2), (3, .int l3)] dX8_lots_58 rfl (by decide) rfl ?_
        refine GG_iconst hk (pc' := 61) 0 dX8_lots_60 rfl rfl ?_
        refine GG_istore hk (pc' := 63) [(5, .int 0), (4, .int 0), (0, .ref (kh k + 163)), (1, .int l1), (2, .int l2), (3, .int l3)] dX8_lots_61 rfl (by decide) rfl ?_
        refine GG_sub (L' := [(0, .ref (kh k + 163)), (1, .int l1), (3, .int l3), (4, .int 0), (5, .int 0)]) [2, 3, 5, 1, 0] rfl ?_
        exact m_X8_lots_63 hk hq  1000 z6 l1 l3 0 0 
      · refine GG_aload_n hk (pc' := 35) 0 dX8_lots_34 rfl rfl rfl ?_
        refine GG_bipush hk (pc' := 37) (-2) dX8_lots_35 rfl rfl ?_
        refine GG_callVi hk (st := []) (pc' := 40) mf_X8_no mv_X8_no LC8 rfl (c_X8_no _ _ _ z3.2 (-2) ) (by omega) tw_938 rfl rfl rfl (Nat.le_of_ble_eq_true rfl) dX8_lots_37 rfl (fun z7 e_z7 => ?_)
        exact GG_iret hk hq dX8_lots_40
    · refine GG_aload_n hk (pc' := 19) 0 dX8_lots_18 rfl rfl rfl ?_
      refine GG_bipush hk (pc' := 21) (-6) dX8_lots_19 rfl rfl ?_
      refine GG_callVi hk (st := []) (pc' := 24) mf_X8_no mv_X8_no LC8 rfl (c_X8_no _ _ _ M (-6) ) (by omega) tw_938 rfl rfl rfl (Nat.le_of_ble_eq_true rfl) dX8_lots_21 rfl (fun z8 e_z8 => ?_)
      exact GG_iret hk hq dX8_lots_24
  · refine GG_aload_n hk (pc' := 6) 0 dX8_lots_5 rfl rfl rfl ?_
    refine GG_bipush hk (pc' := 8) (-4) dX8_lots_6 rfl rfl ?_
    refine GG_callVi hk (st := []) (pc' := 11) mf_X8_no mv_X8_no LC8 rfl (c_X8_no _ _ _ M (-4) ) (by omega) tw_938 rfl rfl rfl (Nat.le_of_ble_eq_true rfl) dX8_lots_8 rfl (fun z9 e_z9 => ?_)
    exact GG_iret hk hq dX8_lots_11
theorem c_X8_lots (l : Launch) (C : DD) (a : Nat) (M : Mem) (l1 : Int32) (l2 : Int32) (l3 : Int32)  : CI l C (a) yX8_lots cX8_lots 9 .int 224 [.ref (a + 163), .int l1, .int l2, .int l3] M (f_X8_lots M l1 l2 l3) := by
  refine CI_of RX8 (by decide +kernel) rfl (Nat.le_of_ble_eq_true rfl) (fun k q hk hq e1 e2 e3 => ?_)
  subst e1; subst e2; subst e3
  exact m_X8_lots hk hq M l1 l2 l3 

/-! SettingsInLayersModel.entries()I -/
noncomputable def f_X8_entries__4  : Nat → Mem → Int32 → Int32 → Option (Int32 × Mem)
  | 0, _, _, _ => none
  | n + 1, M, l1, l2 =>
    if 6 ≤ l2 then
      some (l1, M)
    else
      Option.bind (f_X8_entries M l2) fun z2 =>
      Option.bind (f_X8_ones z2.2 z2.1) fun z3 =>
      f_X8_entries__4  n z3.2 (l1 + z3.1) (l2 + 1)
set_option maxRecDepth 20000 in
theorem m_X8_entries__4 {k : KT} {q : Int32 × Mem} (hk : CX k cX8_entries_ RX8 3 (some .int) 4) (hq : RI k q) : ∀ (n : Nat) (M : Mem) (l1 : Int32) (l2 : Int32) , GG k q (wM k M) 4 [(0, .ref (kh k + 163)), (1, .int l1), (2, .int l2)] [] (f_X8_entries__4  n M l1 l2) := by
  intro n
  induction n with
  | zero => intros; exact GG_none
  | succ n ih =>
    intro M l1 l2 
    rw [f_X8_entries__4]
    refine GG_iload_n hk (pc' := 5) 2 dX8_entries__4 rfl rfl rfl ?_
    refine GG_bipush hk (pc' := 7) 6 dX8_entries__5 rfl rfl ?_
    refine GG_icmp_ge hk 27 (pc' := 10) dX8_entries__7 rfl (by decide) (fun c1 => ?_) (fun c1 => ?_)
    · refine GG_iload_n hk (pc' := 28) 1 dX8_entries__27 rfl rfl rfl ?_
      exact GG_iret hk hq dX8_entries__28
    · refine GG_iload_n hk (pc' := 11) 1 dX8_entries__10 rfl rfl rfl ?_
      refine GG_aload_n hk (pc' := 12) 0 dX8_entries__11 rfl rfl rfl ?_
      refine GG_iload_n hk (pc' := 13) 2 dX8_entries__12 rfl rfl rfl ?_
      refine GG_callVi hk (st := [.int l1]) (pc' := 16) mf_X8_entries mv_X8_entries LC8 rfl (c_X8_entries _ _ _ M l2 ) (by omega) tw_993 rfl rfl rfl (Nat.le_of_ble_eq_true rfl) dX8_entries__13 rfl (fun z2 e_z2 => ?_)
      refine GG_callSi hk (st := [.int l1]) (pc' := 19) mf_X8_ones tw_998 (c_X8_ones _ _ _ z2.2 z2.1 ) (by omega) tw_997 rfl rfl (Nat.le_of_ble_eq_true rfl) dX8_entries__16 rfl (fun z3 e_z3 => ?_)
      refine GG_iadd hk (pc' := 20) dX8_entries__19 rfl ?_
      refine GG_istore_n hk (pc' := 21) [(1, .int (l1 + z3.1)), (0, .ref (kh k + 163)), (2, .int l2)] dX8_entries__20 rfl rfl (by decide) rfl ?_
      refine GG_iinc hk (pc' := 24) 2 (l2 + 1) [(2, .int (l2 + 1)), (1, .int (l1 + z3.1)), (0, .ref (kh k + 163))] dX8_entries__21 rfl rfl rfl (by decide) rfl ?_
      refine GG_goto hk 4 dX8_entries__24 (by decide) ?_
      refine GG_sub (L' := [(0, .ref (kh k + 163)), (1, .int (l1 + z3.1)), (2, .int (l2 + 1))]) [2, 1, 0] rfl ?_
      exact ih z3.2 (l1 + z3.1) (l2 + 1) 
noncomputable def f_X8_entries_ (M : Mem)  : Option (Int32 × Mem) :=
    f_X8_entries__4  1000 M 0 0
set_option maxRecDepth 20000 in
theorem m_X8_entries_ {k : KT} {q : Int32 × Mem} (hk : CX k cX8_entries_ RX8 3 (some .int) 4) (hq : RI k q) (M : Mem)   : GG k q (wM k M) 0 [(0, .ref (kh k + 163))] [] (f_X8_entries_ M ) := by
  unfold f_X8_entries_
  refine GG_iconst hk (pc' := 1) 0 dX8_entries__0 rfl rfl ?_
  refine GG_istore_n hk (pc' := 2) [(1, .int 0), (0, .ref (kh k + 163))] dX8_entries__1 rfl rfl (by decide) rfl ?_
  refine GG_iconst hk (pc' := 3) 0 dX8_entries__2 rfl rfl ?_
  refine GG_istore_n hk (pc' := 4) [(2, .int 0), (1, .int 0), (0, .ref (kh k + 163))] dX8_entries__3 rfl rfl (by decide) rfl ?_
  refine GG_sub (L' := [(0, .ref (kh k + 163)), (1, .int 0), (2, .int 0)]) [2, 1, 0] rfl ?_
  exact m_X8_entries__4 hk hq  1000 M 0 0 
theorem c_X8_entries_ (l : Launch) (C : DD) (a : Nat) (M : Mem)   : CI l C (a) yX8_entries_ cX8_entries_ 3 .int 4 [.ref (a + 163)] M (f_X8_entries_ M ) := by
  refine CI_of RX8 (by decide +kernel) rfl (Nat.le_of_ble_eq_true rfl) (fun k q hk hq e1 e2 e3 => ?_)
  subst e1; subst e2; subst e3
  exact m_X8_entries_ hk hq M  

/-! SettingsInLayersModel.image()I -/
noncomputable def f_X8_image (M : Mem)  : Option (Int32 × Mem) :=
    Option.bind (wrz M 163 12 1) fun M1 =>
    Option.bind (f_X8_copies M1 164 165) fun z2 =>
    Option.bind (f_X8_entries_ z2 ) fun z3 =>
    some (z3.1, z3.2)
set_option maxRecDepth 20000 in
theorem m_X8_image {k : KT} {q : Int32 × Mem} (hk : CX k cX8_image RX8 1 (some .int) 5) (hq : RI k q) (M : Mem)   : GG k q (wM k M) 0 [(0, .ref (kh k + 163))] [] (f_X8_image M ) := by
  unfold f_X8_image
  refine GG_aload_n hk (pc' := 1) 0 dX8_image_0 rfl rfl rfl ?_
  refine GG_iconst hk (pc' := 2) 1 dX8_image_1 rfl rfl ?_
  refine GG_putz hk LC8 12 (pc' := 5) tw_854 rfl rfl (by decide) rfl rfl (Nat.le_of_ble_eq_true rfl) (pv_8_12 _ _ _ _) dX8_image_2 rfl (fun M1 e_M1 => ?_)
  refine GG_aload_n hk (pc' := 6) 0 dX8_image_5 rfl rfl rfl ?_
  refine GG_get hk LC8 0 (v := .ref (kh k + 164)) (pc' := 9) tw_842 rfl rfl (by decide) rfl dX8_image_6 rfl ?_
  refine GG_aload_n hk (pc' := 10) 0 dX8_image_9 rfl rfl rfl ?_
  refine GG_get hk LC8 1 (v := .ref (kh k + 165)) (pc' := 13) tw_843 rfl rfl (by decide) rfl dX8_image_10 rfl ?_
  refine GG_callSv hk (st := []) (pc' := 16) mf_X8_copies tw_1033 (c_X8_copies _ _ _ M1 164 165 rfl rfl) (by omega) tw_1032 rfl rfl (Nat.le_of_ble_eq_true rfl) dX8_image_13 rfl (fun z2 e_z2 => ?_)
  refine GG_aload_n hk (pc' := 17) 0 dX8_image_16 rfl rfl rfl ?_
  refine GG_callVi hk (st := []) (pc' := 20) mf_X8_entries_ mv_X8_entries_ LC8 rfl (c_X8_entries_ _ _ _ z2  ) (by omega) tw_1249 rfl rfl rfl (Nat.le_of_ble_eq_true rfl) dX8_image_17 rfl (fun z3 e_z3 => ?_)
  exact GG_iret hk hq dX8_image_20
theorem c_X8_image (l : Launch) (C : DD) (a : Nat) (M : Mem)   : CI l C (a) yX8_image cX8_image 1 .int 5 [.ref (a + 163)] M (f_X8_image M ) := by
  refine CI_of RX8 (by decide +kernel) rfl (Nat.le_of_ble_eq_true rfl) (fun k q hk hq e1 e2 e3 => ?_)
  subst e1; subst e2; subst e3
  exact m_X8_image hk hq M  

/-! SettingsInLayersModel.on()I -/
noncomputable def f_X8_on (M : Mem)  : Option (Int32 × Mem) :=
    if ¬ (M 163 12) = 0 then
      Option.bind (f_X8_copies M 165 164) fun z2 =>
      Option.bind (f_X8_entries_ z2 ) fun z3 =>
      some (z3.1, z3.2)
    else
      Option.bind (f_X8_no M (-3)) fun z4 =>
      some (z4.1, z4.2)
set_option maxRecDepth 20000 in
theorem m_X8_on {k : KT} {q : Int32 × Mem} (hk : CX k cX8_on RX8 1 (some .int) 5) (hq : RI k q) (M : Mem)   : GG k q (wM k M) 0 [(0, .ref (kh k + 163))] [] (f_X8_on M ) := by
  unfold f_X8_on
  refine GG_aload_n hk (pc' := 1) 0 dX8_on_0 rfl rfl rfl ?_
  refine GG_get hk LC8 12 (v := .int (M 163 12)) (pc' := 4) tw_854 rfl rfl (by decide) rfl dX8_on_1 rfl ?_
  refine GG_if_ne hk 14 (pc' := 7) dX8_on_4 rfl (by decide) (fun c1 => ?_) (fun c1 => ?_)
  · refine GG_aload_n hk (pc' := 15) 0 dX8_on_14 rfl rfl rfl ?_
    refine GG_get hk LC8 1 (v := .ref (kh k + 165)) (pc' := 18) tw_843 rfl rfl (by decide) rfl dX8_on_15 rfl ?_
    refine GG_aload_n hk (pc' := 19) 0 dX8_on_18 rfl rfl rfl ?_
    refine GG_get hk LC8 0 (v := .ref (kh k + 164)) (pc' := 22) tw_842 rfl rfl (by decide) rfl dX8_on_19 rfl ?_
    refine GG_callSv hk (st := []) (pc' := 25) mf_X8_copies tw_1033 (c_X8_copies _ _ _ M 165 164 rfl rfl) (by omega) tw_1032 rfl rfl (Nat.le_of_ble_eq_true rfl) dX8_on_22 rfl (fun z2 e_z2 => ?_)
    refine GG_aload_n hk (pc' := 26) 0 dX8_on_25 rfl rfl rfl ?_
    refine GG_callVi hk (st := []) (pc' := 29) mf_X8_entries_ mv_X8_entries_ LC8 rfl (c_X8_entries_ _ _ _ z2  ) (by omega) tw_1249 rfl rfl rfl (Nat.le_of_ble_eq_true rfl) dX8_on_26 rfl (fun z3 e_z3 => ?_)
    exact GG_iret hk hq dX8_on_29
  · refine GG_aload_n hk (pc' := 8) 0 dX8_on_7 rfl rfl rfl ?_
    refine GG_bipush hk (pc' := 10) (-3) dX8_on_8 rfl rfl ?_
    refine GG_callVi hk (st := []) (pc' := 13) mf_X8_no mv_X8_no LC8 rfl (c_X8_no _ _ _ M (-3) ) (by omega) tw_938 rfl rfl rfl (Nat.le_of_ble_eq_true rfl) dX8_on_10 rfl (fun z4 e_z4 => ?_)
    exact GG_iret hk hq dX8_on_13
theorem c_X8_on (l : Launch) (C : DD) (a : Nat) (M : Mem)   : CI l C (a) yX8_on cX8_on 1 .int 5 [.ref (a + 163)] M (f_X8_on M ) := by
  refine CI_of RX8 (by decide +kernel) rfl (Nat.le_of_ble_eq_true rfl) (fun k q hk hq e1 e2 e3 => ?_)
  subst e1; subst e2; subst e3
  exact m_X8_on hk hq M  

/-! SettingsInLayersModel.count(I)I -/
noncomputable def f_X8_count_80  : Nat → Mem → Int32 → Int32 → Option (Int32 × Mem)
  | 0, _, _, _ => none
  | n + 1, M, l2, l3 =>
    if 6 ≤ l3 then
      some (l2, M)
    else
      Option.bind (f_X8_entries M l3) fun z2 =>
      f_X8_count_80  n z2.2 (l2 ||| z2.1) (l3 + 1)
set_option maxRecDepth 20000 in
theorem m_X8_count_80 {k : KT} {q : Int32 × Mem} (hk : CX k cX8_count RX8 4 (some .int) 224) (hq : RI k q) : ∀ (n : Nat) (M : Mem) (l2 : Int32) (l3 : Int32) , GG k q (wM k M) 80 [(0, .ref (kh k + 163)), (2, .int l2), (3, .int l3)] [] (f_X8_count_80  n M l2 l3) := by
  intro n
  induction n with
  | zero => intros; exact GG_none
  | succ n ih =>
    intro M l2 l3 
    rw [f_X8_count_80]
    refine GG_iload_n hk (pc' := 81) 2 dX8_count_80 rfl rfl rfl ?_
    refine GG_bipush hk (pc' := 83) 6 dX8_count_81 rfl rfl ?_
    refine GG_icmp_ge hk 100 (pc' := 86) dX8_count_83 rfl (by decide) (fun c1 => ?_) (fun c1 => ?_)
    · refine GG_iload_n hk (pc' := 101) 1 dX8_count_100 rfl rfl rfl ?_
      exact GG_iret hk hq dX8_count_101
    · refine GG_iload_n hk (pc' := 87) 1 dX8_count_86 rfl rfl rfl ?_
      refine GG_aload_n hk (pc' := 88) 0 dX8_count_87 rfl rfl rfl ?_
      refine GG_iload_n hk (pc' := 89) 2 dX8_count_88 rfl rfl rfl ?_
      refine GG_callVi hk (st := [.int l2]) (pc' := 92) mf_X8_entries mv_X8_entries LC8 rfl (c_X8_entries _ _ _ M l3 ) (by omega) tw_993 rfl rfl rfl (Nat.le_of_ble_eq_true rfl) dX8_count_89 rfl (fun z2 e_z2 => ?_)
      refine GG_ior hk (pc' := 93) dX8_count_92 rfl ?_
      refine GG_istore_n hk (pc' := 94) [(2, .int (l2 ||| z2.1)), (0, .ref (kh k + 163)), (3, .int l3)] dX8_count_93 rfl rfl (by decide) rfl ?_
      refine GG_iinc hk (pc' := 97) 2 (l3 + 1) [(3, .int (l3 + 1)), (2, .int (l2 ||| z2.1)), (0, .ref (kh k + 163))] dX8_count_94 rfl rfl rfl (by decide) rfl ?_
      refine GG_goto hk 80 dX8_count_97 (by decide) ?_
      refine GG_sub (L' := [(0, .ref (kh k + 163)), (2, .int (l2 ||| z2.1)), (3, .int (l3 + 1))]) [2, 1, 0] rfl ?_
      exact ih z2.2 (l2 ||| z2.1) (l3 + 1) 
noncomputable def f_X8_count_104  : Nat → Mem → Int32 → Int32 → Option (Int32 × Mem)
  | 0, _, _, _ => none
  | n + 1, M, l2, l3 =>
    if 48 ≤ l3 then
      some (l2, M)
    else
      Option.bind (rd 640 (M 164) ((30 + (12 * l3)) + 0)) fun v2 =>
      if ¬ v2 = 1 then
        f_X8_count_104  n M (l2 + 0) (l3 + 1)
      else
        Option.bind (rd 640 (M 164) ((30 + (12 * l3)) + 3)) fun v4 =>
        f_X8_count_104  n M (l2 + v4) (l3 + 1)
set_option maxRecDepth 20000 in
theorem m_X8_count_104 {k : KT} {q : Int32 × Mem} (hk : CX k cX8_count RX8 4 (some .int) 224) (hq : RI k q) : ∀ (n : Nat) (M : Mem) (l2 : Int32) (l3 : Int32) , GG k q (wM k M) 104 [(0, .ref (kh k + 163)), (2, .int l2), (3, .int l3)] [] (f_X8_count_104  n M l2 l3) := by
  intro n
  induction n with
  | zero => intros; exact GG_none
  | succ n ih =>
    intro M l2 l3 
    rw [f_X8_count_104]
    refine GG_iload_n hk (pc' := 105) 2 dX8_count_104 rfl rfl rfl ?_
    refine GG_bipush hk (pc' := 107) 48 dX8_count_105 rfl rfl ?_
    refine GG_icmp_ge hk 155 (pc' := 110) dX8_count_107 rfl (by decide) (fun c1 => ?_) (fun c1 => ?_)
    · refine GG_iload_n hk (pc' := 156) 1 dX8_count_155 rfl rfl rfl ?_
      exact GG_iret hk hq dX8_count_156
    · refine GG_iload_n hk (pc' := 111) 1 dX8_count_110 rfl rfl rfl ?_
      refine GG_aload_n hk (pc' := 112) 0 dX8_count_111 rfl rfl rfl ?_
      refine GG_get hk LC8 0 (v := .ref (kh k + 164)) (pc' := 115) tw_842 rfl rfl (by decide) rfl dX8_count_112 rfl ?_
      refine GG_bipush hk (pc' := 117) 30 dX8_count_115 rfl rfl ?_
      refine GG_bipush hk (pc' := 119) 12 dX8_count_117 rfl rfl ?_
      refine GG_iload_n hk (pc' := 120) 2 dX8_count_119 rfl rfl rfl ?_
      refine GG_imul hk (pc' := 121) dX8_count_120 rfl ?_
      refine GG_iadd hk (pc' := 122) dX8_count_121 rfl ?_
      refine GG_iconst hk (pc' := 123) 0 dX8_count_122 rfl rfl ?_
      refine GG_iadd hk (pc' := 124) dX8_count_123 rfl ?_
      refine GG_iald hk (pc' := 125) rfl rfl dX8_count_124 rfl (fun v2 e_v2 => ?_)
      refine GG_iconst hk (pc' := 126) 1 dX8_count_125 rfl rfl ?_
      refine GG_icmp_ne hk 146 (pc' := 129) dX8_count_126 rfl (by decide) (fun c3 => ?_) (fun c3 => ?_)
      · refine GG_iconst hk (pc' := 147) 0 dX8_count_146 rfl rfl ?_
        refine GG_iadd hk (pc' := 148) dX8_count_147 rfl ?_
        refine GG_istore_n hk (pc' := 149) [(2, .int (l2 + 0)), (0, .ref (kh k + 163)), (3, .int l3)] dX8_count_148 rfl rfl (by decide) rfl ?_
        refine GG_iinc hk (pc' := 152) 2 (l3 + 1) [(3, .int (l3 + 1)), (2, .int (l2 + 0)), (0, .ref (kh k + 163))] dX8_count_149 rfl rfl rfl (by decide) rfl ?_
        refine GG_goto hk 104 dX8_count_152 (by decide) ?_
        refine GG_sub (L' := [(0, .ref (kh k + 163)), (2, .int (l2 + 0)), (3, .int (l3 + 1))]) [2, 1, 0] rfl ?_
        exact ih M (l2 + 0) (l3 + 1) 
      · refine GG_aload_n hk (pc' := 130) 0 dX8_count_129 rfl rfl rfl ?_
        refine GG_get hk LC8 0 (v := .ref (kh k + 164)) (pc' := 133) tw_842 rfl rfl (by decide) rfl dX8_count_130 rfl ?_
        refine GG_bipush hk (pc' := 135) 30 dX8_count_133 rfl rfl ?_
        refine GG_bipush hk (pc' := 137) 12 dX8_count_135 rfl rfl ?_
        refine GG_iload_n hk (pc' := 138) 2 dX8_count_137 rfl rfl rfl ?_
        refine GG_imul hk (pc' := 139) dX8_count_138 rfl ?_
        refine GG_iadd hk (pc' := 140) dX8_count_139 rfl ?_
        refine GG_iconst hk (pc' := 141) 3 dX8_count_140 rfl rfl ?_
        refine GG_iadd hk (pc' := 142) dX8_count_141 rfl ?_
        refine GG_iald hk (pc' := 143) rfl rfl dX8_count_142 rfl (fun v4 e_v4 => ?_)
        refine GG_goto hk 147 dX8_count_143 (by decide) ?_
        refine GG_iadd hk (pc' := 148) dX8_count_147 rfl ?_
        refine GG_istore_n hk (pc' := 149) [(2, .int (l2 + v4)), (0, .ref (kh k + 163)), (3, .int l3)] dX8_count_148 rfl rfl (by decide) rfl ?_
        refine GG_iinc hk (pc' := 152) 2 (l3 + 1) [(3, .int (l3 + 1)), (2, .int (l2 + v4)), (0, .ref (kh k + 163))] dX8_count_149 rfl rfl rfl (by decide) rfl ?_
        refine GG_goto hk 104 dX8_count_152 (by decide) ?_
        refine GG_sub (L' := [(0, .ref (kh k + 163)), (2, .int (l2 + v4)), (3, .int (l3 + 1))]) [2, 1, 0] rfl ?_
        exact ih M (l2 + v4) (l3 + 1) 
noncomputable def f_X8_count (M : Mem) (l1 : Int32) : Option (Int32 × Mem) :=
    Option.bind (f_X8_isIn M l1 11 16) fun z1 =>
    if z1.1 = 0 then
      if l1 = 0 then
        Option.bind (f_X8_entries_ z1.2 ) fun z4 =>
        some (z4.1, z4.2)
      else
        if l1 = 1 then
          Option.bind (f_X8_onNow z1.2 ) fun z6 =>
          some (z6.1, z6.2)
        else
          if l1 = 2 then
            f_X8_count_80  1000 z1.2 0 0
          else
            if l1 = 3 then
              f_X8_count_104  1000 z1.2 0 0
            else
              if l1 = 4 then
                Option.bind (f_X8_allSo z1.2 1) fun z10 =>
                some ((255 &&& (z10.1 ^^^ (-1))), z10.2)
              else
                if l1 = 5 then
                  some ((z1.2 163 8), z1.2)
                else
                  if l1 = 6 then
                    some ((z1.2 163 7), z1.2)
                  else
                    some ((-9), z1.2)
    else
      Option.bind (rd 8 (z1.2 168) (l1 - 10)) fun v13 =>
      some (v13, z1.2)
set_option maxRecDepth 20000 in
theorem m_X8_count {k : KT} {q : Int32 × Mem} (hk : CX k cX8_count RX8 4 (some .int) 224) (hq : RI k q) (M : Mem) (l1 : Int32)  : GG k q (wM k M) 0 [(0, .ref (kh k + 163)), (1, .int l1)] [] (f_X8_count M l1) := by
  unfold f_X8_count
  refine GG_iload_n hk (pc' := 1) 1 dX8_count_0 rfl rfl rfl ?_
  refine GG_bipush hk (pc' := 3) 11 dX8_count_1 rfl rfl ?_
  refine GG_bipush hk (pc' := 5) 16 dX8_count_3 rfl rfl ?_
  refine GG_callSi hk (st := []) (pc' := 8) mf_X8_isIn tw_936 (c_X8_isIn _ _ _ M l1 11 16 ) (by omega) tw_935 rfl rfl (Nat.le_of_ble_eq_true rfl) dX8_count_5 rfl (fun z1 e_z1 => ?_)
  refine GG_if_eq hk 21 (pc' := 11) dX8_count_8 rfl (by decide) (fun c2 => ?_) (fun c2 => ?_)
  · refine GG_iconst hk (pc' := 22) 0 dX8_count_21 rfl rfl ?_
    refine GG_istore_n hk (pc' := 23) [(2, .int 0), (0, .ref (kh k + 163)), (1, .int l1)] dX8_count_22 rfl rfl (by decide) rfl ?_
    refine GG_iload_n hk (pc' := 24) 2 dX8_count_23 rfl rfl rfl ?_
    refine GG_if (fun c3 => ?_) (fun c3 => ?_)
    · refine GG_tabIn hk 68 0 c3 dX8_count_24 (by decide) (by decide) rfl (by decide) ?_
      refine GG_aload_n hk (pc' := 69) 1 dX8_count_68 rfl rfl rfl ?_
      refine GG_callVi hk (st := []) (pc' := 72) mf_X8_entries_ mv_X8_entries_ LC8 rfl (c_X8_entries_ _ _ _ z1.2  ) (by omega) tw_1249 rfl rfl rfl (Nat.le_of_ble_eq_true rfl) dX8_count_69 rfl (fun z4 e_z4 => ?_)
      exact GG_iret hk hq dX8_count_72
    · refine GG_if (fun c5 => ?_) (fun c5 => ?_)
      · refine GG_tabIn hk 73 1 c5 dX8_count_24 (by decide) (by decide) rfl (by decide) ?_
        refine GG_aload_n hk (pc' := 74) 1 dX8_count_73 rfl rfl rfl ?_
        refine GG_callVi hk (st := []) (pc' := 77) mf_X8_onNow mv_X8_onNow LC8 rfl (c_X8_onNow _ _ _ z1.2  ) (by omega) tw_1171 rfl rfl rfl (Nat.le_of_ble_eq_true rfl) dX8_count_74 rfl (fun z6 e_z6 => ?_)
        exact GG_iret hk hq dX8_count_77
      · refine GG_if (fun c7 => ?_) (fun c7 => ?_)
        · refine GG_tabIn hk 78 2 c7 dX8_count_24 (by decide) (by decide) rfl (by decide) ?_
          refine GG_iconst hk (pc' := 79) 0 dX8_count_78 rfl rfl ?_
          refine GG_istore_n hk (pc' := 80) [(3, .int 0), (2, .int 0), (0, .ref (kh k + 163)), (1, .int l1)] dX8_count_79 rfl rfl (by decide) rfl ?_
          refine GG_sub (L' := [(0, .ref (kh k + 163)), (2, .int 0), (3, .int 0)]) [2, 1, 0] rfl ?_
          exact m_X8_count_80 hk hq  1000 z1.2 0 0 
        · refine GG_if (fun c8 => ?_) (fun c8 => ?_)
          · refine GG_tabIn hk 102 3 c8 dX8_count_24 (by decide) (by decide) rfl (by decide) ?_
            refine GG_iconst hk (pc' := 103) 0 dX8_count_102 rfl rfl ?_
            refine GG_istore_n hk (pc' := 104) [(3, .int 0), (2, .int 0), (0, .ref (kh k + 163)), (1, .int l1)] dX8_count_103 rfl rfl (by decide) rfl ?_
            refine GG_sub (L' := [(0, .ref (kh k + 163)), (2, .int 0), (3, .int 0)]) [2, 1, 0] rfl ?_
            exact m_X8_count_104 hk hq  1000 z1.2 0 0 
          · refine GG_if (fun c9 => ?_) (fun c9 => ?_)
            · refine GG_tabIn hk 157 4 c9 dX8_count_24 (by decide) (by decide) rfl (by decide) ?_
              refine GG_sipush hk (pc' := 160) 255 dX8_count_157 rfl rfl ?_
              refine GG_aload_n hk (pc' := 161) 1 dX8_count_160 rfl rfl rfl ?_
              refine GG_iconst hk (pc' := 162) 1 dX8_count_161 rfl rfl ?_
              refine GG_callVi hk (st := [.int 255]) (pc' := 165) mf_X8_allSo mv_X8_allSo LC8 rfl (c_X8_allSo _ _ _ z1.2 1 ) (by omega) tw_1119 rfl rfl rfl (Nat.le_of_ble_eq_true rfl) dX8_count_162 rfl (fun z10 e_z10 => ?_)
              refine GG_iconst hk (pc' := 166) (-1) dX8_count_165 rfl rfl ?_
              refine GG_ixor hk (pc' := 167) dX8_count_166 rfl ?_
              refine GG_iand hk (pc' := 168) dX8_count_167 rfl ?_
              exact GG_iret hk hq dX8_count_168
            · refine GG_if (fun c11 => ?_) (fun c11 => ?_)
              · refine GG_tabIn hk 169 5 c11 dX8_count_24 (by decide) (by decide) rfl (by decide) ?_
                refine GG_aload_n hk (pc' := 170) 1 dX8_count_169 rfl rfl rfl ?_
                refine GG_get hk LC8 8 (v := .int (z1.2 163 8)) (pc' := 173) tw_850 rfl rfl (by decide) rfl dX8_count_170 rfl ?_
                exact GG_iret hk hq dX8_count_173
              · refine GG_if (fun c12 => ?_) (fun c12 => ?_)
                · refine GG_tabIn hk 174 6 c12 dX8_count_24 (by decide) (by decide) rfl (by decide) ?_
                  refine GG_aload_n hk (pc' := 175) 1 dX8_count_174 rfl rfl rfl ?_
                  refine GG_get hk LC8 7 (v := .int (z1.2 163 7)) (pc' := 178) tw_849 rfl rfl (by decide) rfl dX8_count_175 rfl ?_
                  exact GG_iret hk hq dX8_count_178
                · refine GG_tabOut hk 179 dX8_count_24 (sw_out_0_6 c3 c5 c7 c8 c9 c11 c12) (by decide) ?_
                  refine GG_bipush hk (pc' := 181) (-9) dX8_count_179 rfl rfl ?_
                  exact GG_iret hk hq dX8_count_181
  · refine GG_aload_n hk (pc' := 12) 0 dX8_count_11 rfl rfl rfl ?_
    refine GG_get hk LC8 4 (v := .ref (kh k + 168)) (pc' := 15) tw_846 rfl rfl (by decide) rfl dX8_count_12 rfl ?_
    refine GG_iload_n hk (pc' := 16) 1 dX8_count_15 rfl rfl rfl ?_
    refine GG_bipush hk (pc' := 18) 10 dX8_count_16 rfl rfl ?_
    refine GG_isub hk (pc' := 19) dX8_count_18 rfl ?_
    refine GG_iald hk (pc' := 20) rfl rfl dX8_count_19 rfl (fun v13 e_v13 => ?_)
    exact GG_iret hk hq dX8_count_20
theorem c_X8_count (l : Launch) (C : DD) (a : Nat) (M : Mem) (l1 : Int32)  : CI l C (a) yX8_count cX8_count 4 .int 224 [.ref (a + 163), .int l1] M (f_X8_count M l1) := by
  refine CI_of RX8 (by decide +kernel) rfl (Nat.le_of_ble_eq_true rfl) (fun k q hk hq e1 e2 e3 => ?_)
  subst e1; subst e2; subst e3
  exact m_X8_count hk hq M l1 
