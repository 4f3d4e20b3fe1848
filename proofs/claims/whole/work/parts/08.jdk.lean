/-! SettingsInLayers.noKey(I)Z -/
noncomputable def f_X7_noKey (M : Mem) (l0 : Int32) : Option (Int32 × Mem) :=
    if l0 < 0 then
      bret 1 M
    else
      if l0 < 8 then
        bret 0 M
      else
        bret 1 M
set_option maxRecDepth 20000 in
theorem m_X7_noKey {k : KT} {q : Int32 × Mem} (hk : CX k cX7_noKey RX7 1 (some .boolean) 1) (hq : RI k q) (M : Mem) (l0 : Int32)  : GG k q (wM k M) 0 [(0, .int l0)] [] (f_X7_noKey M l0) := by
  unfold f_X7_noKey
  refine GG_iload_n hk (pc' := 1) 0 dX7_noKey_0 rfl rfl rfl ?_
  refine GG_if_lt hk 10 (pc' := 4) dX7_noKey_1 rfl (by decide) (fun c1 => ?_) (fun c1 => ?_)
  · refine GG_iconst hk (pc' := 11) 1 dX7_noKey_10 rfl rfl ?_
    refine GG_goto hk 15 dX7_noKey_11 (by decide) ?_
    exact GG_zret hk hq dX7_noKey_15
  · refine GG_iload_n hk (pc' := 5) 0 dX7_noKey_4 rfl rfl rfl ?_
    refine GG_bipush hk (pc' := 7) 8 dX7_noKey_5 rfl rfl ?_
    refine GG_icmp_lt hk 14 (pc' := 10) dX7_noKey_7 rfl (by decide) (fun c2 => ?_) (fun c2 => ?_)
    · refine GG_iconst hk (pc' := 15) 0 dX7_noKey_14 rfl rfl ?_
      exact GG_zret hk hq dX7_noKey_15
    · refine GG_iconst hk (pc' := 11) 1 dX7_noKey_10 rfl rfl ?_
      refine GG_goto hk 15 dX7_noKey_11 (by decide) ?_
      exact GG_zret hk hq dX7_noKey_15
theorem c_X7_noKey (l : Launch) (C : DD) (a : Nat) (M : Mem) (l0 : Int32)  : CI l C (a) yX7_noKey cX7_noKey 1 .boolean 1 [.int l0] M (f_X7_noKey M l0) := by
  refine CI_of RX7 (by decide +kernel) rfl (Nat.le_of_ble_eq_true rfl) (fun k q hk hq e1 e2 e3 => ?_)
  subst e1; subst e2; subst e3
  exact m_X7_noKey hk hq M l0 

/-! SettingsInLayers.noLayer(I)Z -/
noncomputable def f_X7_noLayer (M : Mem) (l0 : Int32) : Option (Int32 × Mem) :=
    if l0 < 0 then
      bret 1 M
    else
      if l0 < 6 then
        bret 0 M
      else
        bret 1 M
set_option maxRecDepth 20000 in
theorem m_X7_noLayer {k : KT} {q : Int32 × Mem} (hk : CX k cX7_noLayer RX7 1 (some .boolean) 1) (hq : RI k q) (M : Mem) (l0 : Int32)  : GG k q (wM k M) 0 [(0, .int l0)] [] (f_X7_noLayer M l0) := by
  unfold f_X7_noLayer
  refine GG_iload_n hk (pc' := 1) 0 dX7_noLayer_0 rfl rfl rfl ?_
  refine GG_if_lt hk 10 (pc' := 4) dX7_noLayer_1 rfl (by decide) (fun c1 => ?_) (fun c1 => ?_)
  · refine GG_iconst hk (pc' := 11) 1 dX7_noLayer_10 rfl rfl ?_
    refine GG_goto hk 15 dX7_noLayer_11 (by decide) ?_
    exact GG_zret hk hq dX7_noLayer_15
  · refine GG_iload_n hk (pc' := 5) 0 dX7_noLayer_4 rfl rfl rfl ?_
    refine GG_bipush hk (pc' := 7) 6 dX7_noLayer_5 rfl rfl ?_
    refine GG_icmp_lt hk 14 (pc' := 10) dX7_noLayer_7 rfl (by decide) (fun c2 => ?_) (fun c2 => ?_)
    · refine GG_iconst hk (pc' := 15) 0 dX7_noLayer_14 rfl rfl ?_
      exact GG_zret hk hq dX7_noLayer_15
    · refine GG_iconst hk (pc' := 11) 1 dX7_noLayer_10 rfl rfl ?_
      refine GG_goto hk 15 dX7_noLayer_11 (by decide) ?_
      exact GG_zret hk hq dX7_noLayer_15
theorem c_X7_noLayer (l : Launch) (C : DD) (a : Nat) (M : Mem) (l0 : Int32)  : CI l C (a) yX7_noLayer cX7_noLayer 1 .boolean 1 [.int l0] M (f_X7_noLayer M l0) := by
  refine CI_of RX7 (by decide +kernel) rfl (Nat.le_of_ble_eq_true rfl) (fun k q hk hq e1 e2 e3 => ?_)
  subst e1; subst e2; subst e3
  exact m_X7_noLayer hk hq M l0 

/-! SettingsInLayers.slotOf(II)I -/
noncomputable def f_X7_slotOf (M : Mem) (l0 : Int32) (l1 : Int32) : Option (Int32 × Mem) :=
    some (((l0 * 8) + l1), M)
set_option maxRecDepth 20000 in
theorem m_X7_slotOf {k : KT} {q : Int32 × Mem} (hk : CX k cX7_slotOf RX7 2 (some .int) 1) (hq : RI k q) (M : Mem) (l0 : Int32) (l1 : Int32)  : GG k q (wM k M) 0 [(0, .int l0), (1, .int l1)] [] (f_X7_slotOf M l0 l1) := by
  unfold f_X7_slotOf
  refine GG_iload_n hk (pc' := 1) 0 dX7_slotOf_0 rfl rfl rfl ?_
  refine GG_bipush hk (pc' := 3) 8 dX7_slotOf_1 rfl rfl ?_
  refine GG_imul hk (pc' := 4) dX7_slotOf_3 rfl ?_
  refine GG_iload_n hk (pc' := 5) 1 dX7_slotOf_4 rfl rfl rfl ?_
  refine GG_iadd hk (pc' := 6) dX7_slotOf_5 rfl ?_
  exact GG_iret hk hq dX7_slotOf_6
theorem c_X7_slotOf (l : Launch) (C : DD) (a : Nat) (M : Mem) (l0 : Int32) (l1 : Int32)  : CI l C (a) yX7_slotOf cX7_slotOf 2 .int 1 [.int l0, .int l1] M (f_X7_slotOf M l0 l1) := by
  refine CI_of RX7 (by decide +kernel) rfl (Nat.le_of_ble_eq_true rfl) (fun k q hk hq e1 e2 e3 => ?_)
  subst e1; subst e2; subst e3
  exact m_X7_slotOf hk hq M l0 l1 

/-! java/lang/Integer.bitCount(I)I -/
noncomputable def f_J6_bitCount_0f7a4 (M : Mem) (l0 : Int32) : Option (Int32 × Mem) :=
    Option.bind (some (l0 - ((ushr l0 1) &&& 1431655765))) fun v1 =>
    Option.bind (some ((v1 &&& 858993459) + ((ushr v1 2) &&& 858993459))) fun v2 =>
    Option.bind (some ((v2 + (ushr v2 4)) &&& 252645135)) fun v3 =>
    Option.bind (some ((v3 + (ushr v3 8)) + (ushr (v3 + (ushr v3 8)) 16))) fun v4 =>
    some ((v4 &&& 63), M)
set_option maxRecDepth 20000 in
theorem m_J6_bitCount_0f7a4 {k : KT} {q : Int32 × Mem} (hk : CX k cJ6_bitCount_0f7a4 RJ6 1 (some .int) 1) (hq : RI k q) (M : Mem) (l0 : Int32)  : GG k q (wM k M) 0 [(0, .int l0)] [] (f_J6_bitCount_0f7a4 M l0) := by
  unfold f_J6_bitCount_0f7a4
  refine GG_iload_n hk (pc' := 1) 0 dJ6_bitCount_0f7a4_0 rfl rfl rfl ?_
  refine GG_iload_n hk (pc' := 2) 0 dJ6_bitCount_0f7a4_1 rfl rfl rfl ?_
  refine GG_iconst hk (pc' := 3) 1 dJ6_bitCount_0f7a4_2 rfl rfl ?_
  refine GG_iushr hk (pc' := 4) dJ6_bitCount_0f7a4_3 rfl ?_
  refine GG_ldcw hk (pc' := 7) (v := 1431655765) tw_543 dJ6_bitCount_0f7a4_4 rfl ?_
  refine GG_iand hk (pc' := 8) dJ6_bitCount_0f7a4_7 rfl ?_
  refine GG_isub hk (pc' := 9) dJ6_bitCount_0f7a4_8 rfl ?_
  refine GG_nm (fun v1 e_v1 => ?_)
  refine GG_istore_n hk (pc' := 10) [(0, .int v1)] dJ6_bitCount_0f7a4_9 rfl rfl (by decide) rfl ?_
  refine GG_iload_n hk (pc' := 11) 0 dJ6_bitCount_0f7a4_10 rfl rfl rfl ?_
  refine GG_ldcw hk (pc' := 14) (v := 858993459) tw_544 dJ6_bitCount_0f7a4_11 rfl ?_
  refine GG_iand hk (pc' := 15) dJ6_bitCount_0f7a4_14 rfl ?_
  refine GG_iload_n hk (pc' := 16) 0 dJ6_bitCount_0f7a4_15 rfl rfl rfl ?_
  refine GG_iconst hk (pc' := 17) 2 dJ6_bitCount_0f7a4_16 rfl rfl ?_
  refine GG_iushr hk (pc' := 18) dJ6_bitCount_0f7a4_17 rfl ?_
  refine GG_ldcw hk (pc' := 21) (v := 858993459) tw_544 dJ6_bitCount_0f7a4_18 rfl ?_
  refine GG_iand hk (pc' := 22) dJ6_bitCount_0f7a4_21 rfl ?_
  refine GG_iadd hk (pc' := 23) dJ6_bitCount_0f7a4_22 rfl ?_
  refine GG_nm (fun v2 e_v2 => ?_)
  refine GG_istore_n hk (pc' := 24) [(0, .int v2)] dJ6_bitCount_0f7a4_23 rfl rfl (by decide) rfl ?_
  refine GG_iload_n hk (pc' := 25) 0 dJ6_bitCount_0f7a4_24 rfl rfl rfl ?_
  refine GG_iload_n hk (pc' := 26) 0 dJ6_bitCount_0f7a4_25 rfl rfl rfl ?_
  refine GG_iconst hk (pc' := 27) 4 dJ6_bitCount_0f7a4_26 rfl rfl ?_
  refine GG_iushr hk (pc' := 28) dJ6_bitCount_0f7a4_27 rfl ?_
  refine GG_iadd hk (pc' := 29) dJ6_bitCount_0f7a4_28 rfl ?_
  refine GG_ldcw hk (pc' := 32) (v := 252645135) tw_545 dJ6_bitCount_0f7a4_29 rfl ?_
  refine GG_iand hk (pc' := 33) dJ6_bitCount_0f7a4_32 rfl ?_
  refine GG_nm (fun v3 e_v3 => ?_)
  refine GG_istore_n hk (pc' := 34) [(0, .int v3)] dJ6_bitCount_0f7a4_33 rfl rfl (by decide) rfl ?_
  refine GG_iload_n hk (pc' := 35) 0 dJ6_bitCount_0f7a4_34 rfl rfl rfl ?_
  refine GG_iload_n hk (pc' := 36) 0 dJ6_bitCount_0f7a4_35 rfl rfl rfl ?_
  refine GG_bipush hk (pc' := 38) 8 dJ6_bitCount_0f7a4_36 rfl rfl ?_
  refine GG_iushr hk (pc' := 39) dJ6_bitCount_0f7a4_38 rfl ?_
  refine GG_iadd hk (pc' := 40) dJ6_bitCount_0f7a4_39 rfl ?_
  refine GG_istore_n hk (pc' := 41) [(0, .int (v3 + (ushr v3 8)))] dJ6_bitCount_0f7a4_40 rfl rfl (by decide) rfl ?_
  refine GG_iload_n hk (pc' := 42) 0 dJ6_bitCount_0f7a4_41 rfl rfl rfl ?_
  refine GG_iload_n hk (pc' := 43) 0 dJ6_bitCount_0f7a4_42 rfl rfl rfl ?_
  refine GG_bipush hk (pc' := 45) 16 dJ6_bitCount_0f7a4_43 rfl rfl ?_
  refine GG_iushr hk (pc' := 46) dJ6_bitCount_0f7a4_45 rfl ?_
  refine GG_iadd hk (pc' := 47) dJ6_bitCount_0f7a4_46 rfl ?_
  refine GG_nm (fun v4 e_v4 => ?_)
  refine GG_istore_n hk (pc' := 48) [(0, .int v4)] dJ6_bitCount_0f7a4_47 rfl rfl (by decide) rfl ?_
  refine GG_iload_n hk (pc' := 49) 0 dJ6_bitCount_0f7a4_48 rfl rfl rfl ?_
  refine GG_bipush hk (pc' := 51) 63 dJ6_bitCount_0f7a4_49 rfl rfl ?_
  refine GG_iand hk (pc' := 52) dJ6_bitCount_0f7a4_51 rfl ?_
  exact GG_iret hk hq dJ6_bitCount_0f7a4_52
theorem c_J6_bitCount_0f7a4 (l : Launch) (C : DD) (a : Nat) (M : Mem) (l0 : Int32)  : CI l C (a) yJ6_bitCount_0f7a4 cJ6_bitCount_0f7a4 1 .int 1 [.int l0] M (f_J6_bitCount_0f7a4 M l0) := by
  refine CI_of RJ6 (by decide +kernel) rfl (Nat.le_of_ble_eq_true rfl) (fun k q hk hq e1 e2 e3 => ?_)
  subst e1; subst e2; subst e3
  exact m_J6_bitCount_0f7a4 hk hq M l0 

/-! java/util/Arrays.fill([II)V -/
noncomputable def f_J7_fill_53178_5  : Nat → Mem → Nat → Int32 → Int32 → Int32 → Option Mem
  | 0, _, _, _, _, _ => none
  | n + 1, M, l0, l1, l2, l3 =>
    if l3 ≤ l2 then
      some M
    else
      Option.bind (wra (ln l0) M l0 l2 l1) fun M2 =>
      f_J7_fill_53178_5  n M2 l0 l1 (l2 + 1) l3
set_option maxRecDepth 20000 in
theorem m_J7_fill_53178_5 {k : KT} {q : Mem} (hk : CX k cJ7_fill_53178 RJ7 4 none 1) (hq : RV k q) : ∀ (n : Nat) (M : Mem) (l0 : Nat) (l1 : Int32) (l2 : Int32) (l3 : Int32) (h_l0 : kd l0 = 11), GG k q (wM k M) 5 [(0, .ref (kh k + l0)), (1, .int l1), (2, .int l2), (3, .int l3)] [] (f_J7_fill_53178_5  n M l0 l1 l2 l3) := by
  intro n
  induction n with
  | zero => intros; exact GG_none
  | succ n ih =>
    intro M l0 l1 l2 l3 h_l0
    rw [f_J7_fill_53178_5]
    refine GG_iload_n hk (pc' := 6) 2 dJ7_fill_53178_5 rfl rfl rfl ?_
    refine GG_iload_n hk (pc' := 7) 3 dJ7_fill_53178_6 rfl rfl rfl ?_
    refine GG_icmp_ge hk 20 (pc' := 10) dJ7_fill_53178_7 rfl (by decide) (fun c1 => ?_) (fun c1 => ?_)
    · exact GG_vret hk hq dJ7_fill_53178_20
    · refine GG_aload_n hk (pc' := 11) 0 dJ7_fill_53178_10 rfl rfl rfl ?_
      refine GG_iload_n hk (pc' := 12) 2 dJ7_fill_53178_11 rfl rfl rfl ?_
      refine GG_iload_n hk (pc' := 13) 1 dJ7_fill_53178_12 rfl rfl rfl ?_
      refine GG_iast hk (pc' := 14) h_l0 rfl dJ7_fill_53178_13 rfl (fun M2 e_M2 => ?_)
      refine GG_iinc hk (pc' := 17) 2 (l2 + 1) [(2, .int (l2 + 1)), (0, .ref (kh k + l0)), (1, .int l1), (3, .int l3)] dJ7_fill_53178_14 rfl rfl rfl (by decide) rfl ?_
      refine GG_goto hk 5 dJ7_fill_53178_17 (by decide) ?_
      refine GG_sub (L' := [(0, .ref (kh k + l0)), (1, .int l1), (2, .int (l2 + 1)), (3, .int l3)]) [1, 2, 0, 3] rfl ?_
      exact ih M2 l0 l1 (l2 + 1) l3 h_l0
noncomputable def f_J7_fill_53178 (M : Mem) (l0 : Nat) (l1 : Int32) : Option Mem :=
    f_J7_fill_53178_5  1000 M l0 l1 0 (Int32.ofNat (ln l0))
set_option maxRecDepth 20000 in
theorem m_J7_fill_53178 {k : KT} {q : Mem} (hk : CX k cJ7_fill_53178 RJ7 4 none 1) (hq : RV k q) (M : Mem) (l0 : Nat) (l1 : Int32) (h_l0 : kd l0 = 11) : GG k q (wM k M) 0 [(0, .ref (kh k + l0)), (1, .int l1)] [] (f_J7_fill_53178 M l0 l1) := by
  unfold f_J7_fill_53178
  refine GG_iconst hk (pc' := 1) 0 dJ7_fill_53178_0 rfl rfl ?_
  refine GG_istore_n hk (pc' := 2) [(2, .int 0), (0, .ref (kh k + l0)), (1, .int l1)] dJ7_fill_53178_1 rfl rfl (by decide) rfl ?_
  refine GG_aload_n hk (pc' := 3) 1 dJ7_fill_53178_2 rfl rfl rfl ?_
  refine GG_alen hk (pc' := 4) h_l0 dJ7_fill_53178_3 rfl ?_
  refine GG_istore_n hk (pc' := 5) [(3, .int (Int32.ofNat (ln l0))), (2, .int 0), (0, .ref (kh k + l0)), (1, .int l1)] dJ7_fill_53178_4 rfl rfl (by decide) rfl ?_
  refine GG_sub (L' := [(0, .ref (kh k + l0)), (1, .int l1), (2, .int 0), (3, .int (Int32.ofNat (ln l0)))]) [2, 3, 1, 0] rfl ?_
  exact m_J7_fill_53178_5 hk hq  1000 M l0 l1 0 (Int32.ofNat (ln l0)) h_l0
theorem c_J7_fill_53178 (l : Launch) (C : DD) (a : Nat) (M : Mem) (l0 : Nat) (l1 : Int32) (h_l0 : kd l0 = 11) : CV l C (a) yJ7_fill_53178 cJ7_fill_53178 4 1 [.ref (a + l0), .int l1] M (f_J7_fill_53178 M l0 l1) := by
  refine CV_of RJ7 (by decide +kernel) rfl (Nat.le_of_ble_eq_true rfl) (fun k q hk hq e1 e2 e3 => ?_)
  subst e1; subst e2; subst e3
  exact m_J7_fill_53178 hk hq M l0 l1 h_l0
