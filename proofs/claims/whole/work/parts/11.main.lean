/-! SettingsInLayers.refuse(I)I -/
noncomputable def f_X7_refuse (M : Mem) (l1 : Int32) : Option (Int32 × Mem) :=
    Option.bind (rd 7 (M 106) (-l1)) fun v1 =>
    Option.bind (wra 7 M 106 (-l1) (v1 + 1)) fun M2 =>
    some (l1, M2)
set_option maxRecDepth 20000 in
theorem m_X7_refuse {k : KT} {q : Int32 × Mem} (hk : CX k cX7_refuse RX7 2 (some .int) 1) (hq : RI k q) (M : Mem) (l1 : Int32)  : GG k q (wM k M) 0 [(0, .ref (kh k + 0)), (1, .int l1)] [] (f_X7_refuse M l1) := by
  unfold f_X7_refuse
  refine GG_aload_n hk (pc' := 1) 0 dX7_refuse_0 rfl rfl rfl ?_
  refine GG_get hk LC7 8 (v := .ref (kh k + 106)) (pc' := 4) tw_306 rfl rfl (by decide) rfl dX7_refuse_1 rfl ?_
  refine GG_iload_n hk (pc' := 5) 1 dX7_refuse_4 rfl rfl rfl ?_
  refine GG_ineg hk (pc' := 6) dX7_refuse_5 rfl ?_
  refine GG_dup2 hk (pc' := 7) dX7_refuse_6 rfl rfl rfl ?_
  refine GG_iald hk (pc' := 8) rfl rfl dX7_refuse_7 rfl (fun v1 e_v1 => ?_)
  refine GG_iconst hk (pc' := 9) 1 dX7_refuse_8 rfl rfl ?_
  refine GG_iadd hk (pc' := 10) dX7_refuse_9 rfl ?_
  refine GG_iast hk (pc' := 11) rfl rfl dX7_refuse_10 rfl (fun M2 e_M2 => ?_)
  refine GG_iload_n hk (pc' := 12) 1 dX7_refuse_11 rfl rfl rfl ?_
  exact GG_iret hk hq dX7_refuse_12
theorem c_X7_refuse (l : Launch) (C : DD) (a : Nat) (M : Mem) (l1 : Int32)  : CI l C (a) yX7_refuse cX7_refuse 2 .int 1 [.ref (a + 0), .int l1] M (f_X7_refuse M l1) := by
  refine CI_of RX7 (by decide +kernel) rfl (Nat.le_of_ble_eq_true rfl) (fun k q hk hq e1 e2 e3 => ?_)
  subst e1; subst e2; subst e3
  exact m_X7_refuse hk hq M l1 

/-! SettingsInLayers.letter(I)I -/
noncomputable def f_X7_letter (M : Mem) (l1 : Int32) : Option (Int32 × Mem) :=
    if 0 ≤ l1 then
      if 255 < l1 then
        Option.bind (f_X7_refuse M (-6)) fun z3 =>
        some (z3.1, z3.2)
      else
        if (M 97 1) < 96 then
          Option.bind (f_X6_append M l1) fun z5 =>
          some (z5.1, z5.2)
        else
          Option.bind (f_X7_refuse M (-6)) fun z6 =>
          some (z6.1, z6.2)
    else
      Option.bind (f_X7_refuse M (-4)) fun z7 =>
      some (z7.1, z7.2)
set_option maxRecDepth 20000 in
theorem m_X7_letter {k : KT} {q : Int32 × Mem} (hk : CX k cX7_letter RX7 2 (some .int) 2) (hq : RI k q) (M : Mem) (l1 : Int32)  : GG k q (wM k M) 0 [(0, .ref (kh k + 0)), (1, .int l1)] [] (f_X7_letter M l1) := by
  unfold f_X7_letter
  refine GG_iload_n hk (pc' := 1) 1 dX7_letter_0 rfl rfl rfl ?_
  refine GG_if_ge hk 11 (pc' := 4) dX7_letter_1 rfl (by decide) (fun c1 => ?_) (fun c1 => ?_)
  · refine GG_iload_n hk (pc' := 12) 1 dX7_letter_11 rfl rfl rfl ?_
    refine GG_sipush hk (pc' := 15) 255 dX7_letter_12 rfl rfl ?_
    refine GG_icmp_gt hk 30 (pc' := 18) dX7_letter_15 rfl (by decide) (fun c2 => ?_) (fun c2 => ?_)
    · refine GG_aload_n hk (pc' := 31) 0 dX7_letter_30 rfl rfl rfl ?_
      refine GG_bipush hk (pc' := 33) (-6) dX7_letter_31 rfl rfl ?_
      refine GG_callVi hk (st := []) (pc' := 36) mf_X7_refuse mv_X7_refuse LC7 rfl (c_X7_refuse _ _ _ M (-6) ) (by omega) tw_333 rfl rfl rfl (Nat.le_of_ble_eq_true rfl) dX7_letter_33 rfl (fun z3 e_z3 => ?_)
      exact GG_iret hk hq dX7_letter_36
    · refine GG_aload_n hk (pc' := 19) 0 dX7_letter_18 rfl rfl rfl ?_
      refine GG_get hk LC7 4 (v := .ref (kh k + 97)) (pc' := 22) tw_302 rfl rfl (by decide) rfl dX7_letter_19 rfl ?_
      refine GG_get hk LC6 1 (v := .int (M 97 1)) (pc' := 25) tw_257 rfl rfl (by decide) rfl dX7_letter_22 rfl ?_
      refine GG_bipush hk (pc' := 27) 96 dX7_letter_25 rfl rfl ?_
      refine GG_icmp_lt hk 37 (pc' := 30) dX7_letter_27 rfl (by decide) (fun c4 => ?_) (fun c4 => ?_)
      · refine GG_aload_n hk (pc' := 38) 0 dX7_letter_37 rfl rfl rfl ?_
        refine GG_get hk LC7 4 (v := .ref (kh k + 97)) (pc' := 41) tw_302 rfl rfl (by decide) rfl dX7_letter_38 rfl ?_
        refine GG_iload_n hk (pc' := 42) 1 dX7_letter_41 rfl rfl rfl ?_
        refine GG_callVi hk (st := []) (pc' := 45) mf_X6_append mv_X6_append LC6 rfl (c_X6_append _ _ _ M l1 ) (by omega) tw_337 rfl rfl rfl (Nat.le_of_ble_eq_true rfl) dX7_letter_42 rfl (fun z5 e_z5 => ?_)
        exact GG_iret hk hq dX7_letter_45
      · refine GG_aload_n hk (pc' := 31) 0 dX7_letter_30 rfl rfl rfl ?_
        refine GG_bipush hk (pc' := 33) (-6) dX7_letter_31 rfl rfl ?_
        refine GG_callVi hk (st := []) (pc' := 36) mf_X7_refuse mv_X7_refuse LC7 rfl (c_X7_refuse _ _ _ M (-6) ) (by omega) tw_333 rfl rfl rfl (Nat.le_of_ble_eq_true rfl) dX7_letter_33 rfl (fun z6 e_z6 => ?_)
        exact GG_iret hk hq dX7_letter_36
  · refine GG_aload_n hk (pc' := 5) 0 dX7_letter_4 rfl rfl rfl ?_
    refine GG_bipush hk (pc' := 7) (-4) dX7_letter_5 rfl rfl ?_
    refine GG_callVi hk (st := []) (pc' := 10) mf_X7_refuse mv_X7_refuse LC7 rfl (c_X7_refuse _ _ _ M (-4) ) (by omega) tw_333 rfl rfl rfl (Nat.le_of_ble_eq_true rfl) dX7_letter_7 rfl (fun z7 e_z7 => ?_)
    exact GG_iret hk hq dX7_letter_10
theorem c_X7_letter (l : Launch) (C : DD) (a : Nat) (M : Mem) (l1 : Int32)  : CI l C (a) yX7_letter cX7_letter 2 .int 2 [.ref (a + 0), .int l1] M (f_X7_letter M l1) := by
  refine CI_of RX7 (by decide +kernel) rfl (Nat.le_of_ble_eq_true rfl) (fun k q hk hq e1 e2 e3 => ?_)
  subst e1; subst e2; subst e3
  exact m_X7_letter hk hq M l1 

/-! SettingsInLayers.applyTold()I -/
noncomputable def f_X7_applyTold_91  (M : Mem) (l1 : Int32) : Option (Int32 × Mem) :=
    Option.bind (f_X4_become M 1 21) fun z1 =>
    some (l1, z1)
set_option maxRecDepth 20000 in
theorem m_X7_applyTold_91 {k : KT} {q : Int32 × Mem} (hk : CX k cX7_applyTold RX7 3 (some .int) 7) (hq : RI k q) (M : Mem) (l1 : Int32)  : GG k q (wM k M) 91 [(0, .ref (kh k + 0)), (1, .int l1)] [] (f_X7_applyTold_91  M l1) := by
  unfold f_X7_applyTold_91
  refine GG_aload_n hk (pc' := 92) 0 dX7_applyTold_91 rfl rfl rfl ?_
  refine GG_get hk LC7 0 (v := .ref (kh k + 1)) (pc' := 95) tw_298 rfl rfl (by decide) rfl dX7_applyTold_92 rfl ?_
  refine GG_aload_n hk (pc' := 96) 0 dX7_applyTold_95 rfl rfl rfl ?_
  refine GG_get hk LC7 2 (v := .ref (kh k + 21)) (pc' := 99) tw_300 rfl rfl (by decide) rfl dX7_applyTold_96 rfl ?_
  refine GG_callVv hk (st := []) (pc' := 102) mf_X4_become mv_X4_become LC4 rfl (c_X4_become _ _ _ M 1 21 okS_1 okS_21) (by omega) tw_424 (kdS okS_1) rfl rfl (Nat.le_of_ble_eq_true rfl) dX7_applyTold_99 rfl (fun z1 e_z1 => ?_)
  refine GG_iload_n hk (pc' := 103) 1 dX7_applyTold_102 rfl rfl rfl ?_
  exact GG_iret hk hq dX7_applyTold_103
noncomputable def f_X7_applyTold_21  : Nat → Mem → Int32 → Option (Int32 × Mem)
  | 0, _, _ => none
  | n + 1, M, l1 =>
    if 96 ≤ l1 then
      f_X7_applyTold_91  M l1
    else
      if (M 97 1) ≤ (M 97 2) then
        f_X7_applyTold_91  M l1
      else
        Option.bind (f_X6_readStatement M ) fun z3 =>
        if z3.1 = 0 then
          some (((-2000) - (M 97 2)), z3.2)
        else
          Option.bind (f_X5_applyTo z3.2 21) fun z5 =>
          if ¬ z5.1 = 0 then
            f_X7_applyTold_21  n z5.2 (l1 + 1)
          else
            some (((-2000) - (M 97 2)), z5.2)
set_option maxRecDepth 20000 in
theorem m_X7_applyTold_21 {k : KT} {q : Int32 × Mem} (hk : CX k cX7_applyTold RX7 3 (some .int) 7) (hq : RI k q) : ∀ (n : Nat) (M : Mem) (l1 : Int32) , GG k q (wM k M) 21 [(0, .ref (kh k + 0)), (1, .int l1)] [] (f_X7_applyTold_21  n M l1) := by
  intro n
  induction n with
  | zero => intros; exact GG_none
  | succ n ih =>
    intro M l1 
    rw [f_X7_applyTold_21]
    refine GG_iload_n hk (pc' := 22) 1 dX7_applyTold_21 rfl rfl rfl ?_
    refine GG_bipush hk (pc' := 24) 96 dX7_applyTold_22 rfl rfl ?_
    refine GG_icmp_ge hk 91 (pc' := 27) dX7_applyTold_24 rfl (by decide) (fun c1 => ?_) (fun c1 => ?_)
    · exact m_X7_applyTold_91 hk hq  M l1 
    · refine GG_aload_n hk (pc' := 28) 0 dX7_applyTold_27 rfl rfl rfl ?_
      refine GG_get hk LC7 4 (v := .ref (kh k + 97)) (pc' := 31) tw_302 rfl rfl (by decide) rfl dX7_applyTold_28 rfl ?_
      refine GG_get hk LC6 2 (v := .int (M 97 2)) (pc' := 34) tw_259 rfl rfl (by decide) rfl dX7_applyTold_31 rfl ?_
      refine GG_aload_n hk (pc' := 35) 0 dX7_applyTold_34 rfl rfl rfl ?_
      refine GG_get hk LC7 4 (v := .ref (kh k + 97)) (pc' := 38) tw_302 rfl rfl (by decide) rfl dX7_applyTold_35 rfl ?_
      refine GG_get hk LC6 1 (v := .int (M 97 1)) (pc' := 41) tw_257 rfl rfl (by decide) rfl dX7_applyTold_38 rfl ?_
      refine GG_icmp_ge hk 91 (pc' := 44) dX7_applyTold_41 rfl (by decide) (fun c2 => ?_) (fun c2 => ?_)
      · exact m_X7_applyTold_91 hk hq  M l1 
      · refine GG_aload_n hk (pc' := 45) 0 dX7_applyTold_44 rfl rfl rfl ?_
        refine GG_get hk LC7 4 (v := .ref (kh k + 97)) (pc' := 48) tw_302 rfl rfl (by decide) rfl dX7_applyTold_45 rfl ?_
        refine GG_get hk LC6 2 (v := .int (M 97 2)) (pc' := 51) tw_259 rfl rfl (by decide) rfl dX7_applyTold_48 rfl ?_
        refine GG_istore_n hk (pc' := 52) [(2, .int (M 97 2)), (0, .ref (kh k + 0)), (1, .int l1)] dX7_applyTold_51 rfl rfl (by decide) rfl ?_
        refine GG_aload_n hk (pc' := 53) 1 dX7_applyTold_52 rfl rfl rfl ?_
        refine GG_get hk LC7 4 (v := .ref (kh k + 97)) (pc' := 56) tw_302 rfl rfl (by decide) rfl dX7_applyTold_53 rfl ?_
        refine GG_callVi hk (st := []) (pc' := 59) mf_X6_readStatement mv_X6_readStatement LC6 rfl (c_X6_readStatement _ _ _ M  ) (by omega) tw_431 rfl rfl rfl (Nat.le_of_ble_eq_true rfl) dX7_applyTold_56 rfl (fun z3 e_z3 => ?_)
        refine GG_if_eq hk 79 (pc' := 62) dX7_applyTold_59 rfl (by decide) (fun c4 => ?_) (fun c4 => ?_)
        · refine GG_sipush hk (pc' := 82) (-2000) dX7_applyTold_79 rfl rfl ?_
          refine GG_iload_n hk (pc' := 83) 0 dX7_applyTold_82 rfl rfl rfl ?_
          refine GG_isub hk (pc' := 84) dX7_applyTold_83 rfl ?_
          exact GG_iret hk hq dX7_applyTold_84
        · refine GG_aload_n hk (pc' := 63) 1 dX7_applyTold_62 rfl rfl rfl ?_
          refine GG_get hk LC7 4 (v := .ref (kh k + 97)) (pc' := 66) tw_302 rfl rfl (by decide) rfl dX7_applyTold_63 rfl ?_
          refine GG_get hk LC6 3 (v := .ref (kh k + 99)) (pc' := 69) tw_261 rfl rfl (by decide) rfl dX7_applyTold_66 rfl ?_
          refine GG_aload_n hk (pc' := 70) 1 dX7_applyTold_69 rfl rfl rfl ?_
          refine GG_get hk LC7 2 (v := .ref (kh k + 21)) (pc' := 73) tw_300 rfl rfl (by decide) rfl dX7_applyTold_70 rfl ?_
          refine GG_callVi hk (st := []) (pc' := 76) mf_X5_applyTo mv_X5_applyTo LC5 rfl (c_X5_applyTo _ _ _ z3.2 21 okS_21) (by omega) tw_432 rfl rfl rfl (Nat.le_of_ble_eq_true rfl) dX7_applyTold_73 rfl (fun z5 e_z5 => ?_)
          refine GG_if_ne hk 85 (pc' := 79) dX7_applyTold_76 rfl (by decide) (fun c6 => ?_) (fun c6 => ?_)
          · refine GG_iinc hk (pc' := 88) 2 (l1 + 1) [(1, .int (l1 + 1)), (2, .int (M 97 2)), (0, .ref (kh k + 0))] dX7_applyTold_85 rfl rfl rfl (by decide) rfl ?_
            refine GG_goto hk 21 dX7_applyTold_88 (by decide) ?_
            refine GG_sub (L' := [(0, .ref (kh k + 0)), (1, .int (l1 + 1))]) [2, 0] rfl ?_
            exact ih z5.2 (l1 + 1) 
          · refine GG_sipush hk (pc' := 82) (-2000) dX7_applyTold_79 rfl rfl ?_
            refine GG_iload_n hk (pc' := 83) 0 dX7_applyTold_82 rfl rfl rfl ?_
            refine GG_isub hk (pc' := 84) dX7_applyTold_83 rfl ?_
            exact GG_iret hk hq dX7_applyTold_84
noncomputable def f_X7_applyTold (M : Mem)  : Option (Int32 × Mem) :=
    Option.bind (f_X4_become M 21 1) fun z1 =>
    Option.bind (wrf z1 97 2 0) fun M2 =>
    f_X7_applyTold_21  1000 M2 0
set_option maxRecDepth 20000 in
theorem m_X7_applyTold {k : KT} {q : Int32 × Mem} (hk : CX k cX7_applyTold RX7 3 (some .int) 7) (hq : RI k q) (M : Mem)   : GG k q (wM k M) 0 [(0, .ref (kh k + 0))] [] (f_X7_applyTold M ) := by
  unfold f_X7_applyTold
  refine GG_aload_n hk (pc' := 1) 0 dX7_applyTold_0 rfl rfl rfl ?_
  refine GG_get hk LC7 2 (v := .ref (kh k + 21)) (pc' := 4) tw_300 rfl rfl (by decide) rfl dX7_applyTold_1 rfl ?_
  refine GG_aload_n hk (pc' := 5) 0 dX7_applyTold_4 rfl rfl rfl ?_
  refine GG_get hk LC7 0 (v := .ref (kh k + 1)) (pc' := 8) tw_298 rfl rfl (by decide) rfl dX7_applyTold_5 rfl ?_
  refine GG_callVv hk (st := []) (pc' := 11) mf_X4_become mv_X4_become LC4 rfl (c_X4_become _ _ _ M 21 1 okS_21 okS_1) (by omega) tw_424 (kdS okS_21) rfl rfl (Nat.le_of_ble_eq_true rfl) dX7_applyTold_8 rfl (fun z1 e_z1 => ?_)
  refine GG_aload_n hk (pc' := 12) 0 dX7_applyTold_11 rfl rfl rfl ?_
  refine GG_get hk LC7 4 (v := .ref (kh k + 97)) (pc' := 15) tw_302 rfl rfl (by decide) rfl dX7_applyTold_12 rfl ?_
  refine GG_iconst hk (pc' := 16) 0 dX7_applyTold_15 rfl rfl ?_
  refine GG_put hk LC6 2 (pc' := 19) tw_259 rfl rfl (by decide) rfl rfl (Nat.le_of_ble_eq_true rfl) (pv_6_2 _ _ _ _) dX7_applyTold_16 rfl (fun M2 e_M2 => ?_)
  refine GG_iconst hk (pc' := 20) 0 dX7_applyTold_19 rfl rfl ?_
  refine GG_istore_n hk (pc' := 21) [(1, .int 0), (0, .ref (kh k + 0))] dX7_applyTold_20 rfl rfl (by decide) rfl ?_
  refine GG_sub (L' := [(0, .ref (kh k + 0)), (1, .int 0)]) [1, 0] rfl ?_
  exact m_X7_applyTold_21 hk hq  1000 M2 0 
theorem c_X7_applyTold (l : Launch) (C : DD) (a : Nat) (M : Mem)   : CI l C (a) yX7_applyTold cX7_applyTold 3 .int 7 [.ref (a + 0)] M (f_X7_applyTold M ) := by
  refine CI_of RX7 (by decide +kernel) rfl (Nat.le_of_ble_eq_true rfl) (fun k q hk hq e1 e2 e3 => ?_)
  subst e1; subst e2; subst e3
  exact m_X7_applyTold hk hq M  

/-! SettingsInLayers.settings()I -/
noncomputable def f_X7_settings_28  (M : Mem) (t0 : Int32) : Option (Int32 × Mem) :=
    Option.bind (wrf M 97 1 0) fun M1 =>
    some (t0, M1)
set_option maxRecDepth 20000 in
theorem m_X7_settings_28 {k : KT} {q : Int32 × Mem} (hk : CX k cX7_settings RX7 2 (some .int) 8) (hq : RI k q) (M : Mem) (t0 : Int32)  : GG k q (wM k M) 28 [(0, .ref (kh k + 0))] [.int t0] (f_X7_settings_28  M t0) := by
  unfold f_X7_settings_28
  refine GG_istore_n hk (pc' := 29) [(1, .int t0), (0, .ref (kh k + 0))] dX7_settings_28 rfl rfl (by decide) rfl ?_
  refine GG_aload_n hk (pc' := 30) 1 dX7_settings_29 rfl rfl rfl ?_
  refine GG_get hk LC7 4 (v := .ref (kh k + 97)) (pc' := 33) tw_302 rfl rfl (by decide) rfl dX7_settings_30 rfl ?_
  refine GG_iconst hk (pc' := 34) 0 dX7_settings_33 rfl rfl ?_
  refine GG_put hk LC6 1 (pc' := 37) tw_257 rfl rfl (by decide) rfl rfl (Nat.le_of_ble_eq_true rfl) (pv_6_1 _ _ _ _) dX7_settings_34 rfl (fun M1 e_M1 => ?_)
  refine GG_iload_n hk (pc' := 38) 0 dX7_settings_37 rfl rfl rfl ?_
  exact GG_iret hk hq dX7_settings_38
noncomputable def f_X7_settings (M : Mem)  : Option (Int32 × Mem) :=
    Option.bind (f_X6_isWellFormed M ) fun z1 =>
    if z1.1 = 0 then
      f_X7_settings_28  z1.2 ((-1000) - (z1.2 97 2))
    else
      Option.bind (f_X7_applyTold z1.2 ) fun z3 =>
      f_X7_settings_28  z3.2 z3.1
set_option maxRecDepth 20000 in
theorem m_X7_settings {k : KT} {q : Int32 × Mem} (hk : CX k cX7_settings RX7 2 (some .int) 8) (hq : RI k q) (M : Mem)   : GG k q (wM k M) 0 [(0, .ref (kh k + 0))] [] (f_X7_settings M ) := by
  unfold f_X7_settings
  refine GG_aload_n hk (pc' := 1) 0 dX7_settings_0 rfl rfl rfl ?_
  refine GG_get hk LC7 4 (v := .ref (kh k + 97)) (pc' := 4) tw_302 rfl rfl (by decide) rfl dX7_settings_1 rfl ?_
  refine GG_callVi hk (st := []) (pc' := 7) mf_X6_isWellFormed mv_X6_isWellFormed LC6 rfl (c_X6_isWellFormed _ _ _ M  ) (by omega) tw_345 rfl rfl rfl (Nat.le_of_ble_eq_true rfl) dX7_settings_4 rfl (fun z1 e_z1 => ?_)
  refine GG_if_eq hk 17 (pc' := 10) dX7_settings_7 rfl (by decide) (fun c2 => ?_) (fun c2 => ?_)
  · refine GG_sipush hk (pc' := 20) (-1000) dX7_settings_17 rfl rfl ?_
    refine GG_aload_n hk (pc' := 21) 0 dX7_settings_20 rfl rfl rfl ?_
    refine GG_get hk LC7 4 (v := .ref (kh k + 97)) (pc' := 24) tw_302 rfl rfl (by decide) rfl dX7_settings_21 rfl ?_
    refine GG_get hk LC6 2 (v := .int (z1.2 97 2)) (pc' := 27) tw_259 rfl rfl (by decide) rfl dX7_settings_24 rfl ?_
    refine GG_isub hk (pc' := 28) dX7_settings_27 rfl ?_
    exact m_X7_settings_28 hk hq  z1.2 ((-1000) - (z1.2 97 2)) 
  · refine GG_aload_n hk (pc' := 11) 0 dX7_settings_10 rfl rfl rfl ?_
    refine GG_callVi hk (st := []) (pc' := 14) mf_X7_applyTold mv_X7_applyTold LC7 rfl (c_X7_applyTold _ _ _ z1.2  ) (by omega) tw_420 rfl rfl rfl (Nat.le_of_ble_eq_true rfl) dX7_settings_11 rfl (fun z3 e_z3 => ?_)
    refine GG_goto hk 28 dX7_settings_14 (by decide) ?_
    exact m_X7_settings_28 hk hq  z3.2 z3.1 
theorem c_X7_settings (l : Launch) (C : DD) (a : Nat) (M : Mem)   : CI l C (a) yX7_settings cX7_settings 2 .int 8 [.ref (a + 0)] M (f_X7_settings M ) := by
  refine CI_of RX7 (by decide +kernel) rfl (Nat.le_of_ble_eq_true rfl) (fun k q hk hq e1 e2 e3 => ?_)
  subst e1; subst e2; subst e3
  exact m_X7_settings hk hq M  

/-! SettingsInLayers.turns(I)I -/
noncomputable def f_X7_turns (M : Mem) (l1 : Int32) : Option (Int32 × Mem) :=
    Option.bind (f_X7_noLayer M l1) fun z1 =>
    if z1.1 = 0 then
      Option.bind (f_X4_toggle z1.2 1 l1) fun z3 =>
      Option.bind (f_X4_isOn z3 1 l1) fun z4 =>
      if z4.1 = 0 then
        some (0, z4.2)
      else
        some (1, z4.2)
    else
      Option.bind (f_X7_refuse z1.2 (-1)) fun z6 =>
      some (z6.1, z6.2)
set_option maxRecDepth 20000 in
theorem m_X7_turns {k : KT} {q : Int32 × Mem} (hk : CX k cX7_turns RX7 2 (some .int) 2) (hq : RI k q) (M : Mem) (l1 : Int32)  : GG k q (wM k M) 0 [(0, .ref (kh k + 0)), (1, .int l1)] [] (f_X7_turns M l1) := by
  unfold f_X7_turns
  refine GG_iload_n hk (pc' := 1) 1 dX7_turns_0 rfl rfl rfl ?_
  refine GG_callSi hk (st := []) (pc' := 4) mf_X7_noLayer tw_441 (c_X7_noLayer _ _ _ M l1 ) (by omega) tw_480 rfl rfl (Nat.le_of_ble_eq_true rfl) dX7_turns_1 rfl (fun z1 e_z1 => ?_)
  refine GG_if_eq hk 13 (pc' := 7) dX7_turns_4 rfl (by decide) (fun c2 => ?_) (fun c2 => ?_)
  · refine GG_aload_n hk (pc' := 14) 0 dX7_turns_13 rfl rfl rfl ?_
    refine GG_get hk LC7 0 (v := .ref (kh k + 1)) (pc' := 17) tw_298 rfl rfl (by decide) rfl dX7_turns_14 rfl ?_
    refine GG_iload_n hk (pc' := 18) 1 dX7_turns_17 rfl rfl rfl ?_
    refine GG_callVv hk (st := []) (pc' := 21) mf_X4_toggle mv_X4_toggle LC4 rfl (c_X4_toggle _ _ _ z1.2 1 l1 okS_1) (by omega) tw_481 (kdS okS_1) rfl rfl (Nat.le_of_ble_eq_true rfl) dX7_turns_18 rfl (fun z3 e_z3 => ?_)
    refine GG_aload_n hk (pc' := 22) 0 dX7_turns_21 rfl rfl rfl ?_
    refine GG_get hk LC7 0 (v := .ref (kh k + 1)) (pc' := 25) tw_298 rfl rfl (by decide) rfl dX7_turns_22 rfl ?_
    refine GG_iload_n hk (pc' := 26) 1 dX7_turns_25 rfl rfl rfl ?_
    refine GG_callVi hk (st := []) (pc' := 29) mf_X4_isOn mv_X4_isOn LC4 rfl (c_X4_isOn _ _ _ z3 1 l1 okS_1) (by omega) tw_482 (kdS okS_1) rfl rfl (Nat.le_of_ble_eq_true rfl) dX7_turns_26 rfl (fun z4 e_z4 => ?_)
    refine GG_if_eq hk 36 (pc' := 32) dX7_turns_29 rfl (by decide) (fun c5 => ?_) (fun c5 => ?_)
    · refine GG_iconst hk (pc' := 37) 0 dX7_turns_36 rfl rfl ?_
      exact GG_iret hk hq dX7_turns_37
    · refine GG_iconst hk (pc' := 33) 1 dX7_turns_32 rfl rfl ?_
      refine GG_goto hk 37 dX7_turns_33 (by decide) ?_
      exact GG_iret hk hq dX7_turns_37
  · refine GG_aload_n hk (pc' := 8) 0 dX7_turns_7 rfl rfl rfl ?_
    refine GG_iconst hk (pc' := 9) (-1) dX7_turns_8 rfl rfl ?_
    refine GG_callVi hk (st := []) (pc' := 12) mf_X7_refuse mv_X7_refuse LC7 rfl (c_X7_refuse _ _ _ z1.2 (-1) ) (by omega) tw_333 rfl rfl rfl (Nat.le_of_ble_eq_true rfl) dX7_turns_9 rfl (fun z6 e_z6 => ?_)
    exact GG_iret hk hq dX7_turns_12
theorem c_X7_turns (l : Launch) (C : DD) (a : Nat) (M : Mem) (l1 : Int32)  : CI l C (a) yX7_turns cX7_turns 2 .int 2 [.ref (a + 0), .int l1] M (f_X7_turns M l1) := by
  refine CI_of RX7 (by decide +kernel) rfl (Nat.le_of_ble_eq_true rfl) (fun k q hk hq e1 e2 e3 => ?_)
  subst e1; subst e2; subst e3
  exact m_X7_turns hk hq M l1 

/-! SettingsInLayers.outside(II)I -/
noncomputable def f_X7_outside (M : Mem) (l0 : Int32) (l1 : Int32) : Option (Int32 × Mem) :=
    if 0 ≤ l0 then
      if l0 ≤ l1 then
        some (0, M)
      else
        some ((-6), M)
    else
      some ((-4), M)
set_option maxRecDepth 20000 in
theorem m_X7_outside {k : KT} {q : Int32 × Mem} (hk : CX k cX7_outside RX7 2 (some .int) 1) (hq : RI k q) (M : Mem) (l0 : Int32) (l1 : Int32)  : GG k q (wM k M) 0 [(0, .int l0), (1, .int l1)] [] (f_X7_outside M l0 l1) := by
  unfold f_X7_outside
  refine GG_iload_n hk (pc' := 1) 0 dX7_outside_0 rfl rfl rfl ?_
  refine GG_if_ge hk 7 (pc' := 4) dX7_outside_1 rfl (by decide) (fun c1 => ?_) (fun c1 => ?_)
  · refine GG_iload_n hk (pc' := 8) 0 dX7_outside_7 rfl rfl rfl ?_
    refine GG_iload_n hk (pc' := 9) 1 dX7_outside_8 rfl rfl rfl ?_
    refine GG_icmp_le hk 17 (pc' := 12) dX7_outside_9 rfl (by decide) (fun c2 => ?_) (fun c2 => ?_)
    · refine GG_iconst hk (pc' := 18) 0 dX7_outside_17 rfl rfl ?_
      exact GG_iret hk hq dX7_outside_18
    · refine GG_bipush hk (pc' := 14) (-6) dX7_outside_12 rfl rfl ?_
      refine GG_goto hk 18 dX7_outside_14 (by decide) ?_
      exact GG_iret hk hq dX7_outside_18
  · refine GG_bipush hk (pc' := 6) (-4) dX7_outside_4 rfl rfl ?_
    exact GG_iret hk hq dX7_outside_6
theorem c_X7_outside (l : Launch) (C : DD) (a : Nat) (M : Mem) (l0 : Int32) (l1 : Int32)  : CI l C (a) yX7_outside cX7_outside 2 .int 1 [.int l0, .int l1] M (f_X7_outside M l0 l1) := by
  refine CI_of RX7 (by decide +kernel) rfl (Nat.le_of_ble_eq_true rfl) (fun k q hk hq e1 e2 e3 => ?_)
  subst e1; subst e2; subst e3
  exact m_X7_outside hk hq M l0 l1 

/-! SettingsInLayers.kind(III)I -/
noncomputable def f_X7_kind (M : Mem) (l1 : Int32) (l2 : Int32) (l3 : Int32) : Option (Int32 × Mem) :=
    Option.bind (f_X7_noLayer M l1) fun z1 =>
    if z1.1 = 0 then
      if l2 < 0 then
        Option.bind (f_X7_refuse z1.2 (-2)) fun z4 =>
        some (z4.1, z4.2)
      else
        if l2 < 6 then
          Option.bind (f_X7_outside z1.2 l3 9) fun z6 =>
          if z6.1 = 0 then
            Option.bind (rd 6 (z6.2 2) l1) fun v8 =>
            Option.bind (rd 6 (z6.2 3) l1) fun v9 =>
            Option.bind (f_X4_putKind z6.2 1 l1 l2 l3) fun z10 =>
            some (((10 * v8) + v9), z10)
          else
            Option.bind (f_X7_refuse z6.2 z6.1) fun z11 =>
            some (z11.1, z11.2)
        else
          Option.bind (f_X7_refuse z1.2 (-2)) fun z12 =>
          some (z12.1, z12.2)
    else
      Option.bind (f_X7_refuse z1.2 (-1)) fun z13 =>
      some (z13.1, z13.2)
set_option maxRecDepth 20000 in
theorem m_X7_kind {k : KT} {q : Int32 × Mem} (hk : CX k cX7_kind RX7 6 (some .int) 4) (hq : RI k q) (M : Mem) (l1 : Int32) (l2 : Int32) (l3 : Int32)  : GG k q (wM k M) 0 [(0, .ref (kh k + 0)), (1, .int l1), (2, .int l2), (3, .int l3)] [] (f_X7_kind M l1 l2 l3) := by
  unfold f_X7_kind
  refine GG_iload_n hk (pc' := 1) 1 dX7_kind_0 rfl rfl rfl ?_
  refine GG_callSi hk (st := []) (pc' := 4) mf_X7_noLayer tw_441 (c_X7_noLayer _ _ _ M l1 ) (by omega) tw_480 rfl rfl (Nat.le_of_ble_eq_true rfl) dX7_kind_1 rfl (fun z1 e_z1 => ?_)
  refine GG_if_eq hk 13 (pc' := 7) dX7_kind_4 rfl (by decide) (fun c2 => ?_) (fun c2 => ?_)
  · refine GG_iload_n hk (pc' := 14) 2 dX7_kind_13 rfl rfl rfl ?_
    refine GG_if_lt hk 23 (pc' := 17) dX7_kind_14 rfl (by decide) (fun c3 => ?_) (fun c3 => ?_)
    · refine GG_aload_n hk (pc' := 24) 0 dX7_kind_23 rfl rfl rfl ?_
      refine GG_bipush hk (pc' := 26) (-2) dX7_kind_24 rfl rfl ?_
      refine GG_callVi hk (st := []) (pc' := 29) mf_X7_refuse mv_X7_refuse LC7 rfl (c_X7_refuse _ _ _ z1.2 (-2) ) (by omega) tw_333 rfl rfl rfl (Nat.le_of_ble_eq_true rfl) dX7_kind_26 rfl (fun z4 e_z4 => ?_)
      exact GG_iret hk hq dX7_kind_29
    · refine GG_iload_n hk (pc' := 18) 2 dX7_kind_17 rfl rfl rfl ?_
      refine GG_bipush hk (pc' := 20) 6 dX7_kind_18 rfl rfl ?_
      refine GG_icmp_lt hk 30 (pc' := 23) dX7_kind_20 rfl (by decide) (fun c5 => ?_) (fun c5 => ?_)
      · refine GG_iload_n hk (pc' := 31) 3 dX7_kind_30 rfl rfl rfl ?_
        refine GG_bipush hk (pc' := 33) 9 dX7_kind_31 rfl rfl ?_
        refine GG_callSi hk (st := []) (pc' := 36) mf_X7_outside tw_491 (c_X7_outside _ _ _ z1.2 l3 9 ) (by omega) tw_490 rfl rfl (Nat.le_of_ble_eq_true rfl) dX7_kind_33 rfl (fun z6 e_z6 => ?_)
        refine GG_istore hk (pc' := 38) [(4, .int z6.1), (0, .ref (kh k + 0)), (1, .int l1), (2, .int l2), (3, .int l3)] dX7_kind_36 rfl (by decide) rfl ?_
        refine GG_iload hk (pc' := 40) 0 dX7_kind_38 rfl rfl ?_
        refine GG_if_eq hk 50 (pc' := 43) dX7_kind_40 rfl (by decide) (fun c7 => ?_) (fun c7 => ?_)
        · refine GG_bipush hk (pc' := 52) 10 dX7_kind_50 rfl rfl ?_
          refine GG_aload_n hk (pc' := 53) 1 dX7_kind_52 rfl rfl rfl ?_
          refine GG_get hk LC7 0 (v := .ref (kh k + 1)) (pc' := 56) tw_298 rfl rfl (by decide) rfl dX7_kind_53 rfl ?_
          refine GG_get hk LC4 1 (v := .ref (kh k + 2)) (pc' := 59) tw_47 rfl (kdS okS_1) (by decide) rfl dX7_kind_56 rfl ?_
          refine GG_iload_n hk (pc' := 60) 2 dX7_kind_59 rfl rfl rfl ?_
          refine GG_iald hk (pc' := 61) rfl rfl dX7_kind_60 rfl (fun v8 e_v8 => ?_)
          refine GG_imul hk (pc' := 62) dX7_kind_61 rfl ?_
          refine GG_aload_n hk (pc' := 63) 1 dX7_kind_62 rfl rfl rfl ?_
          refine GG_get hk LC7 0 (v := .ref (kh k + 1)) (pc' := 66) tw_298 rfl rfl (by decide) rfl dX7_kind_63 rfl ?_
          refine GG_get hk LC4 2 (v := .ref (kh k + 3)) (pc' := 69) tw_50 rfl (kdS okS_1) (by decide) rfl dX7_kind_66 rfl ?_
          refine GG_iload_n hk (pc' := 70) 2 dX7_kind_69 rfl rfl rfl ?_
          refine GG_iald hk (pc' := 71) rfl rfl dX7_kind_70 rfl (fun v9 e_v9 => ?_)
          refine GG_iadd hk (pc' := 72) dX7_kind_71 rfl ?_
          refine GG_istore hk (pc' := 74) [(5, .int ((10 * v8) + v9)), (4, .int z6.1), (0, .ref (kh k + 0)), (1, .int l1), (2, .int l2), (3, .int l3)] dX7_kind_72 rfl (by decide) rfl ?_
          refine GG_aload_n hk (pc' := 75) 2 dX7_kind_74 rfl rfl rfl ?_
          refine GG_get hk LC7 0 (v := .ref (kh k + 1)) (pc' := 78) tw_298 rfl rfl (by decide) rfl dX7_kind_75 rfl ?_
          refine GG_iload_n hk (pc' := 79) 3 dX7_kind_78 rfl rfl rfl ?_
          refine GG_iload_n hk (pc' := 80) 4 dX7_kind_79 rfl rfl rfl ?_
          refine GG_iload_n hk (pc' := 81) 5 dX7_kind_80 rfl rfl rfl ?_
          refine GG_callVv hk (st := []) (pc' := 84) mf_X4_putKind mv_X4_putKind LC4 rfl (c_X4_putKind _ _ _ z6.2 1 l1 l2 l3 okS_1) (by omega) tw_493 (kdS okS_1) rfl rfl (Nat.le_of_ble_eq_true rfl) dX7_kind_81 rfl (fun z10 e_z10 => ?_)
          refine GG_iload hk (pc' := 86) 0 dX7_kind_84 rfl rfl ?_
          exact GG_iret hk hq dX7_kind_86
        · refine GG_aload_n hk (pc' := 44) 1 dX7_kind_43 rfl rfl rfl ?_
          refine GG_iload hk (pc' := 46) 0 dX7_kind_44 rfl rfl ?_
          refine GG_callVi hk (st := []) (pc' := 49) mf_X7_refuse mv_X7_refuse LC7 rfl (c_X7_refuse _ _ _ z6.2 z6.1 ) (by omega) tw_333 rfl rfl rfl (Nat.le_of_ble_eq_true rfl) dX7_kind_46 rfl (fun z11 e_z11 => ?_)
          exact GG_iret hk hq dX7_kind_49
      · refine GG_aload_n hk (pc' := 24) 0 dX7_kind_23 rfl rfl rfl ?_
        refine GG_bipush hk (pc' := 26) (-2) dX7_kind_24 rfl rfl ?_
        refine GG_callVi hk (st := []) (pc' := 29) mf_X7_refuse mv_X7_refuse LC7 rfl (c_X7_refuse _ _ _ z1.2 (-2) ) (by omega) tw_333 rfl rfl rfl (Nat.le_of_ble_eq_true rfl) dX7_kind_26 rfl (fun z12 e_z12 => ?_)
        exact GG_iret hk hq dX7_kind_29
  · refine GG_aload_n hk (pc' := 8) 0 dX7_kind_7 rfl rfl rfl ?_
    refine GG_iconst hk (pc' := 9) (-1) dX7_kind_8 rfl rfl ?_
    refine GG_callVi hk (st := []) (pc' := 12) mf_X7_refuse mv_X7_refuse LC7 rfl (c_X7_refuse _ _ _ z1.2 (-1) ) (by omega) tw_333 rfl rfl rfl (Nat.le_of_ble_eq_true rfl) dX7_kind_9 rfl (fun z13 e_z13 => ?_)
    exact GG_iret hk hq dX7_kind_12
theorem c_X7_kind (l : Launch) (C : DD) (a : Nat) (M : Mem) (l1 : Int32) (l2 : Int32) (l3 : Int32)  : CI l C (a) yX7_kind cX7_kind 6 .int 4 [.ref (a + 0), .int l1, .int l2, .int l3] M (f_X7_kind M l1 l2 l3) := by
  refine CI_of RX7 (by decide +kernel) rfl (Nat.le_of_ble_eq_true rfl) (fun k q hk hq e1 e2 e3 => ?_)
  subst e1; subst e2; subst e3
  exact m_X7_kind hk hq M l1 l2 l3 

/-! SettingsInLayers.manner(II)I -/
noncomputable def f_X7_manner (M : Mem) (l1 : Int32) (l2 : Int32) : Option (Int32 × Mem) :=
    Option.bind (f_X7_noKey M l1) fun z1 =>
    if z1.1 = 0 then
      if l2 < 0 then
        Option.bind (f_X7_refuse z1.2 (-2)) fun z4 =>
        some (z4.1, z4.2)
      else
        if l2 < 5 then
          Option.bind (rd 8 (z1.2 4) l1) fun v6 =>
          Option.bind (wra 8 z1.2 4 l1 l2) fun M7 =>
          some (v6, M7)
        else
          Option.bind (f_X7_refuse z1.2 (-2)) fun z8 =>
          some (z8.1, z8.2)
    else
      Option.bind (f_X7_refuse z1.2 (-1)) fun z9 =>
      some (z9.1, z9.2)
set_option maxRecDepth 20000 in
theorem m_X7_manner {k : KT} {q : Int32 × Mem} (hk : CX k cX7_manner RX7 4 (some .int) 2) (hq : RI k q) (M : Mem) (l1 : Int32) (l2 : Int32)  : GG k q (wM k M) 0 [(0, .ref (kh k + 0)), (1, .int l1), (2, .int l2)] [] (f_X7_manner M l1 l2) := by
  unfold f_X7_manner
  refine GG_iload_n hk (pc' := 1) 1 dX7_manner_0 rfl rfl rfl ?_
  refine GG_callSi hk (st := []) (pc' := 4) mf_X7_noKey tw_386 (c_X7_noKey _ _ _ M l1 ) (by omega) tw_498 rfl rfl (Nat.le_of_ble_eq_true rfl) dX7_manner_1 rfl (fun z1 e_z1 => ?_)
  refine GG_if_eq hk 13 (pc' := 7) dX7_manner_4 rfl (by decide) (fun c2 => ?_) (fun c2 => ?_)
  · refine GG_iload_n hk (pc' := 14) 2 dX7_manner_13 rfl rfl rfl ?_
    refine GG_if_lt hk 22 (pc' := 17) dX7_manner_14 rfl (by decide) (fun c3 => ?_) (fun c3 => ?_)
    · refine GG_aload_n hk (pc' := 23) 0 dX7_manner_22 rfl rfl rfl ?_
      refine GG_bipush hk (pc' := 25) (-2) dX7_manner_23 rfl rfl ?_
      refine GG_callVi hk (st := []) (pc' := 28) mf_X7_refuse mv_X7_refuse LC7 rfl (c_X7_refuse _ _ _ z1.2 (-2) ) (by omega) tw_333 rfl rfl rfl (Nat.le_of_ble_eq_true rfl) dX7_manner_25 rfl (fun z4 e_z4 => ?_)
      exact GG_iret hk hq dX7_manner_28
    · refine GG_iload_n hk (pc' := 18) 2 dX7_manner_17 rfl rfl rfl ?_
      refine GG_iconst hk (pc' := 19) 5 dX7_manner_18 rfl rfl ?_
      refine GG_icmp_lt hk 29 (pc' := 22) dX7_manner_19 rfl (by decide) (fun c5 => ?_) (fun c5 => ?_)
      · refine GG_aload_n hk (pc' := 30) 0 dX7_manner_29 rfl rfl rfl ?_
        refine GG_get hk LC7 0 (v := .ref (kh k + 1)) (pc' := 33) tw_298 rfl rfl (by decide) rfl dX7_manner_30 rfl ?_
        refine GG_get hk LC4 3 (v := .ref (kh k + 4)) (pc' := 36) tw_53 rfl (kdS okS_1) (by decide) rfl dX7_manner_33 rfl ?_
        refine GG_iload_n hk (pc' := 37) 1 dX7_manner_36 rfl rfl rfl ?_
        refine GG_iald hk (pc' := 38) rfl rfl dX7_manner_37 rfl (fun v6 e_v6 => ?_)
        refine GG_istore_n hk (pc' := 39) [(3, .int v6), (0, .ref (kh k + 0)), (1, .int l1), (2, .int l2)] dX7_manner_38 rfl rfl (by decide) rfl ?_
        refine GG_aload_n hk (pc' := 40) 1 dX7_manner_39 rfl rfl rfl ?_
        refine GG_get hk LC7 0 (v := .ref (kh k + 1)) (pc' := 43) tw_298 rfl rfl (by decide) rfl dX7_manner_40 rfl ?_
        refine GG_get hk LC4 3 (v := .ref (kh k + 4)) (pc' := 46) tw_53 rfl (kdS okS_1) (by decide) rfl dX7_manner_43 rfl ?_
        refine GG_iload_n hk (pc' := 47) 2 dX7_manner_46 rfl rfl rfl ?_
        refine GG_iload_n hk (pc' := 48) 3 dX7_manner_47 rfl rfl rfl ?_
        refine GG_iast hk (pc' := 49) rfl rfl dX7_manner_48 rfl (fun M7 e_M7 => ?_)
        refine GG_iload_n hk (pc' := 50) 0 dX7_manner_49 rfl rfl rfl ?_
        exact GG_iret hk hq dX7_manner_50
      · refine GG_aload_n hk (pc' := 23) 0 dX7_manner_22 rfl rfl rfl ?_
        refine GG_bipush hk (pc' := 25) (-2) dX7_manner_23 rfl rfl ?_
        refine GG_callVi hk (st := []) (pc' := 28) mf_X7_refuse mv_X7_refuse LC7 rfl (c_X7_refuse _ _ _ z1.2 (-2) ) (by omega) tw_333 rfl rfl rfl (Nat.le_of_ble_eq_true rfl) dX7_manner_25 rfl (fun z8 e_z8 => ?_)
        exact GG_iret hk hq dX7_manner_28
  · refine GG_aload_n hk (pc' := 8) 0 dX7_manner_7 rfl rfl rfl ?_
    refine GG_iconst hk (pc' := 9) (-1) dX7_manner_8 rfl rfl ?_
    refine GG_callVi hk (st := []) (pc' := 12) mf_X7_refuse mv_X7_refuse LC7 rfl (c_X7_refuse _ _ _ z1.2 (-1) ) (by omega) tw_333 rfl rfl rfl (Nat.le_of_ble_eq_true rfl) dX7_manner_9 rfl (fun z9 e_z9 => ?_)
    exact GG_iret hk hq dX7_manner_12
theorem c_X7_manner (l : Launch) (C : DD) (a : Nat) (M : Mem) (l1 : Int32) (l2 : Int32)  : CI l C (a) yX7_manner cX7_manner 4 .int 2 [.ref (a + 0), .int l1, .int l2] M (f_X7_manner M l1 l2) := by
  refine CI_of RX7 (by decide +kernel) rfl (Nat.le_of_ble_eq_true rfl) (fun k q hk hq e1 e2 e3 => ?_)
  subst e1; subst e2; subst e3
  exact m_X7_manner hk hq M l1 l2 

/-! SettingsInLayers.replace(IIIII)I -/
noncomputable def f_X7_replace_26  (M : Mem) (l3 : Int32) (l4 : Int32) (l5 : Int32) (l6 : Int32) (t0 : Int32) : Option (Int32 × Mem) :=
    Option.bind (f_X4_put M 1 l6 l3 l4 l5) fun z1 =>
    some (t0, z1)
set_option maxRecDepth 20000 in
theorem m_X7_replace_26 {k : KT} {q : Int32 × Mem} (hk : CX k cX7_replace RX7 8 (some .int) 2) (hq : RI k q) (M : Mem) (l3 : Int32) (l4 : Int32) (l5 : Int32) (l6 : Int32) (t0 : Int32)  : GG k q (wM k M) 26 [(0, .ref (kh k + 0)), (3, .int l3), (4, .int l4), (5, .int l5), (6, .int l6)] [.int t0] (f_X7_replace_26  M l3 l4 l5 l6 t0) := by
  unfold f_X7_replace_26
  refine GG_istore hk (pc' := 28) [(7, .int t0), (0, .ref (kh k + 0)), (3, .int l3), (4, .int l4), (5, .int l5), (6, .int l6)] dX7_replace_26 rfl (by decide) rfl ?_
  refine GG_aload_n hk (pc' := 29) 1 dX7_replace_28 rfl rfl rfl ?_
  refine GG_get hk LC7 0 (v := .ref (kh k + 1)) (pc' := 32) tw_298 rfl rfl (by decide) rfl dX7_replace_29 rfl ?_
  refine GG_iload hk (pc' := 34) 5 dX7_replace_32 rfl rfl ?_
  refine GG_iload_n hk (pc' := 35) 2 dX7_replace_34 rfl rfl rfl ?_
  refine GG_iload hk (pc' := 37) 3 dX7_replace_35 rfl rfl ?_
  refine GG_iload hk (pc' := 39) 4 dX7_replace_37 rfl rfl ?_
  refine GG_callVv hk (st := []) (pc' := 42) mf_X4_put mv_X4_put LC4 rfl (c_X4_put _ _ _ M 1 l6 l3 l4 l5 okS_1) (by omega) tw_508 (kdS okS_1) rfl rfl (Nat.le_of_ble_eq_true rfl) dX7_replace_39 rfl (fun z1 e_z1 => ?_)
  refine GG_iload hk (pc' := 44) 0 dX7_replace_42 rfl rfl ?_
  exact GG_iret hk hq dX7_replace_44
noncomputable def f_X7_replace (M : Mem) (l1 : Int32) (l2 : Int32) (l3 : Int32) (l4 : Int32) (l5 : Int32) : Option (Int32 × Mem) :=
    Option.bind (f_X7_slotOf M l1 l2) fun z1 =>
    Option.bind (rd 48 (z1.2 6) z1.1) fun v2 =>
    if ¬ v2 = (-1) then
      f_X7_replace_26  z1.2 l3 l4 l5 z1.1 1
    else
      f_X7_replace_26  z1.2 l3 l4 l5 z1.1 0
set_option maxRecDepth 20000 in
theorem m_X7_replace {k : KT} {q : Int32 × Mem} (hk : CX k cX7_replace RX7 8 (some .int) 2) (hq : RI k q) (M : Mem) (l1 : Int32) (l2 : Int32) (l3 : Int32) (l4 : Int32) (l5 : Int32)  : GG k q (wM k M) 0 [(0, .ref (kh k + 0)), (1, .int l1), (2, .int l2), (3, .int l3), (4, .int l4), (5, .int l5)] [] (f_X7_replace M l1 l2 l3 l4 l5) := by
  unfold f_X7_replace
  refine GG_iload_n hk (pc' := 1) 1 dX7_replace_0 rfl rfl rfl ?_
  refine GG_iload_n hk (pc' := 2) 2 dX7_replace_1 rfl rfl rfl ?_
  refine GG_callSi hk (st := []) (pc' := 5) mf_X7_slotOf tw_460 (c_X7_slotOf _ _ _ M l1 l2 ) (by omega) tw_507 rfl rfl (Nat.le_of_ble_eq_true rfl) dX7_replace_2 rfl (fun z1 e_z1 => ?_)
  refine GG_istore hk (pc' := 7) [(6, .int z1.1), (0, .ref (kh k + 0)), (1, .int l1), (2, .int l2), (3, .int l3), (4, .int l4), (5, .int l5)] dX7_replace_5 rfl (by decide) rfl ?_
  refine GG_aload_n hk (pc' := 8) 1 dX7_replace_7 rfl rfl rfl ?_
  refine GG_get hk LC7 0 (v := .ref (kh k + 1)) (pc' := 11) tw_298 rfl rfl (by decide) rfl dX7_replace_8 rfl ?_
  refine GG_get hk LC4 5 (v := .ref (kh k + 6)) (pc' := 14) tw_61 rfl (kdS okS_1) (by decide) rfl dX7_replace_11 rfl ?_
  refine GG_iload hk (pc' := 16) 0 dX7_replace_14 rfl rfl ?_
  refine GG_iald hk (pc' := 17) rfl rfl dX7_replace_16 rfl (fun v2 e_v2 => ?_)
  refine GG_iconst hk (pc' := 18) (-1) dX7_replace_17 rfl rfl ?_
  refine GG_icmp_ne hk 25 (pc' := 21) dX7_replace_18 rfl (by decide) (fun c3 => ?_) (fun c3 => ?_)
  · refine GG_iconst hk (pc' := 26) 1 dX7_replace_25 rfl rfl ?_
    refine GG_sub (L' := [(0, .ref (kh k + 0)), (3, .int l3), (4, .int l4), (5, .int l5), (6, .int z1.1)]) [1, 4, 5, 6, 0] rfl ?_
    exact m_X7_replace_26 hk hq  z1.2 l3 l4 l5 z1.1 1 
  · refine GG_iconst hk (pc' := 22) 0 dX7_replace_21 rfl rfl ?_
    refine GG_goto hk 26 dX7_replace_22 (by decide) ?_
    refine GG_sub (L' := [(0, .ref (kh k + 0)), (3, .int l3), (4, .int l4), (5, .int l5), (6, .int z1.1)]) [1, 4, 5, 6, 0] rfl ?_
    exact m_X7_replace_26 hk hq  z1.2 l3 l4 l5 z1.1 0 
theorem c_X7_replace (l : Launch) (C : DD) (a : Nat) (M : Mem) (l1 : Int32) (l2 : Int32) (l3 : Int32) (l4 : Int32) (l5 : Int32)  : CI l C (a) yX7_replace cX7_replace 8 .int 2 [.ref (a + 0), .int l1, .int l2, .int l3, .int l4, .int l5] M (f_X7_replace M l1 l2 l3 l4 l5) := by
  refine CI_of RX7 (by decide +kernel) rfl (Nat.le_of_ble_eq_true rfl) (fun k q hk hq e1 e2 e3 => ?_)
  subst e1; subst e2; subst e3
  exact m_X7_replace hk hq M l1 l2 l3 l4 l5 

/-! SettingsInLayers.sets(III)I -/
noncomputable def f_X7_sets_24  (M : Mem) (l1 : Int32) (l2 : Int32) (l3 : Int32) (t0 : Int32) : Option (Int32 × Mem) :=
    if t0 = 0 then
      Option.bind (f_X7_replace M l1 l2 0 l3 (-9)) fun z2 =>
      some (z2.1, z2.2)
    else
      Option.bind (f_X7_refuse M t0) fun z3 =>
      some (z3.1, z3.2)
set_option maxRecDepth 20000 in
theorem m_X7_sets_24 {k : KT} {q : Int32 × Mem} (hk : CX k cX7_sets RX7 5 (some .int) 3) (hq : RI k q) (M : Mem) (l1 : Int32) (l2 : Int32) (l3 : Int32) (t0 : Int32)  : GG k q (wM k M) 24 [(0, .ref (kh k + 0)), (1, .int l1), (2, .int l2), (3, .int l3)] [.int t0] (f_X7_sets_24  M l1 l2 l3 t0) := by
  unfold f_X7_sets_24
  refine GG_istore hk (pc' := 26) [(4, .int t0), (0, .ref (kh k + 0)), (1, .int l1), (2, .int l2), (3, .int l3)] dX7_sets_24 rfl (by decide) rfl ?_
  refine GG_iload hk (pc' := 28) 0 dX7_sets_26 rfl rfl ?_
  refine GG_if_eq hk 38 (pc' := 31) dX7_sets_28 rfl (by decide) (fun c1 => ?_) (fun c1 => ?_)
  · refine GG_aload_n hk (pc' := 39) 1 dX7_sets_38 rfl rfl rfl ?_
    refine GG_iload_n hk (pc' := 40) 2 dX7_sets_39 rfl rfl rfl ?_
    refine GG_iload_n hk (pc' := 41) 3 dX7_sets_40 rfl rfl rfl ?_
    refine GG_iconst hk (pc' := 42) 0 dX7_sets_41 rfl rfl ?_
    refine GG_iload_n hk (pc' := 43) 4 dX7_sets_42 rfl rfl rfl ?_
    refine GG_bipush hk (pc' := 45) (-9) dX7_sets_43 rfl rfl ?_
    refine GG_callVi hk (st := []) (pc' := 48) mf_X7_replace mv_X7_replace LC7 rfl (c_X7_replace _ _ _ M l1 l2 0 l3 (-9) ) (by omega) tw_503 rfl rfl rfl (Nat.le_of_ble_eq_true rfl) dX7_sets_45 rfl (fun z2 e_z2 => ?_)
    exact GG_iret hk hq dX7_sets_48
  · refine GG_aload_n hk (pc' := 32) 1 dX7_sets_31 rfl rfl rfl ?_
    refine GG_iload hk (pc' := 34) 0 dX7_sets_32 rfl rfl ?_
    refine GG_callVi hk (st := []) (pc' := 37) mf_X7_refuse mv_X7_refuse LC7 rfl (c_X7_refuse _ _ _ M t0 ) (by omega) tw_333 rfl rfl rfl (Nat.le_of_ble_eq_true rfl) dX7_sets_34 rfl (fun z3 e_z3 => ?_)
    exact GG_iret hk hq dX7_sets_37
noncomputable def f_X7_sets_14  (M : Mem) (l1 : Int32) (l2 : Int32) (l3 : Int32) : Option (Int32 × Mem) :=
    f_X7_sets_24  M l1 l2 l3 (-1)
set_option maxRecDepth 20000 in
theorem m_X7_sets_14 {k : KT} {q : Int32 × Mem} (hk : CX k cX7_sets RX7 5 (some .int) 3) (hq : RI k q) (M : Mem) (l1 : Int32) (l2 : Int32) (l3 : Int32)  : GG k q (wM k M) 14 [(0, .ref (kh k + 0)), (1, .int l1), (2, .int l2), (3, .int l3)] [] (f_X7_sets_14  M l1 l2 l3) := by
  unfold f_X7_sets_14
  refine GG_iconst hk (pc' := 15) (-1) dX7_sets_14 rfl rfl ?_
  refine GG_goto hk 24 dX7_sets_15 (by decide) ?_
  exact m_X7_sets_24 hk hq  M l1 l2 l3 (-1) 
noncomputable def f_X7_sets (M : Mem) (l1 : Int32) (l2 : Int32) (l3 : Int32) : Option (Int32 × Mem) :=
    Option.bind (f_X7_noLayer M l1) fun z1 =>
    if ¬ z1.1 = 0 then
      f_X7_sets_14  z1.2 l1 l2 l3
    else
      Option.bind (f_X7_noKey z1.2 l2) fun z3 =>
      if z3.1 = 0 then
        Option.bind (f_X7_outside z3.2 l3 99) fun z5 =>
        f_X7_sets_24  z5.2 l1 l2 l3 z5.1
      else
        f_X7_sets_14  z3.2 l1 l2 l3
set_option maxRecDepth 20000 in
theorem m_X7_sets {k : KT} {q : Int32 × Mem} (hk : CX k cX7_sets RX7 5 (some .int) 3) (hq : RI k q) (M : Mem) (l1 : Int32) (l2 : Int32) (l3 : Int32)  : GG k q (wM k M) 0 [(0, .ref (kh k + 0)), (1, .int l1), (2, .int l2), (3, .int l3)] [] (f_X7_sets M l1 l2 l3) := by
  unfold f_X7_sets
  refine GG_iload_n hk (pc' := 1) 1 dX7_sets_0 rfl rfl rfl ?_
  refine GG_callSi hk (st := []) (pc' := 4) mf_X7_noLayer tw_441 (c_X7_noLayer _ _ _ M l1 ) (by omega) tw_480 rfl rfl (Nat.le_of_ble_eq_true rfl) dX7_sets_1 rfl (fun z1 e_z1 => ?_)
  refine GG_if_ne hk 14 (pc' := 7) dX7_sets_4 rfl (by decide) (fun c2 => ?_) (fun c2 => ?_)
  · exact m_X7_sets_14 hk hq  z1.2 l1 l2 l3 
  · refine GG_iload_n hk (pc' := 8) 2 dX7_sets_7 rfl rfl rfl ?_
    refine GG_callSi hk (st := []) (pc' := 11) mf_X7_noKey tw_386 (c_X7_noKey _ _ _ z1.2 l2 ) (by omega) tw_498 rfl rfl (Nat.le_of_ble_eq_true rfl) dX7_sets_8 rfl (fun z3 e_z3 => ?_)
    refine GG_if_eq hk 18 (pc' := 14) dX7_sets_11 rfl (by decide) (fun c4 => ?_) (fun c4 => ?_)
    · refine GG_iload_n hk (pc' := 19) 3 dX7_sets_18 rfl rfl rfl ?_
      refine GG_bipush hk (pc' := 21) 99 dX7_sets_19 rfl rfl ?_
      refine GG_callSi hk (st := []) (pc' := 24) mf_X7_outside tw_491 (c_X7_outside _ _ _ z3.2 l3 99 ) (by omega) tw_490 rfl rfl (Nat.le_of_ble_eq_true rfl) dX7_sets_21 rfl (fun z5 e_z5 => ?_)
      exact m_X7_sets_24 hk hq  z5.2 l1 l2 l3 z5.1 
    · exact m_X7_sets_14 hk hq  z3.2 l1 l2 l3 
theorem c_X7_sets (l : Launch) (C : DD) (a : Nat) (M : Mem) (l1 : Int32) (l2 : Int32) (l3 : Int32)  : CI l C (a) yX7_sets cX7_sets 5 .int 3 [.ref (a + 0), .int l1, .int l2, .int l3] M (f_X7_sets M l1 l2 l3) := by
  refine CI_of RX7 (by decide +kernel) rfl (Nat.le_of_ble_eq_true rfl) (fun k q hk hq e1 e2 e3 => ?_)
  subst e1; subst e2; subst e3
  exact m_X7_sets hk hq M l1 l2 l3 

/-! SettingsInLayers.adds(IIII)I -/
noncomputable def f_X7_adds_158  (M : Mem) (l3 : Int32) (l4 : Int32) (l5 : Int32) : Option (Int32 × Mem) :=
    Option.bind (f_X4_addItem M 1 l5 l3 l4) fun z1 =>
    some (z1.1, z1.2)
set_option maxRecDepth 20000 in
theorem m_X7_adds_158 {k : KT} {q : Int32 × Mem} (hk : CX k cX7_adds RX7 8 (some .int) 2) (hq : RI k q) (M : Mem) (l3 : Int32) (l4 : Int32) (l5 : Int32)  : GG k q (wM k M) 158 [(0, .ref (kh k + 0)), (3, .int l3), (4, .int l4), (5, .int l5)] [] (f_X7_adds_158  M l3 l4 l5) := by
  unfold f_X7_adds_158
  refine GG_aload_n hk (pc' := 159) 0 dX7_adds_158 rfl rfl rfl ?_
  refine GG_get hk LC7 0 (v := .ref (kh k + 1)) (pc' := 162) tw_298 rfl rfl (by decide) rfl dX7_adds_159 rfl ?_
  refine GG_iload hk (pc' := 164) 3 dX7_adds_162 rfl rfl ?_
  refine GG_iload_n hk (pc' := 165) 1 dX7_adds_164 rfl rfl rfl ?_
  refine GG_iload hk (pc' := 167) 2 dX7_adds_165 rfl rfl ?_
  refine GG_callVi hk (st := []) (pc' := 170) mf_X4_addItem mv_X4_addItem LC4 rfl (c_X4_addItem _ _ _ M 1 l5 l3 l4 okS_1) (by omega) tw_517 (kdS okS_1) rfl rfl (Nat.le_of_ble_eq_true rfl) dX7_adds_167 rfl (fun z1 e_z1 => ?_)
  exact GG_iret hk hq dX7_adds_170
noncomputable def f_X7_adds_112  (M : Mem) (l3 : Int32) (l4 : Int32) (l5 : Int32) (l6 : Int32) (t0 : Int32) : Option (Int32 × Mem) :=
    if 9 < l3 then
      Option.bind (f_X7_refuse M (-6)) fun z2 =>
      some (z2.1, z2.2)
    else
      if 99 < l4 then
        Option.bind (f_X7_refuse M (-6)) fun z4 =>
        some (z4.1, z4.2)
      else
        if t0 = 0 then
          if ¬ l6 = (-1) then
            f_X7_adds_158  M l3 l4 l5
          else
            Option.bind (f_X4_put M 1 l5 1 0 (-9)) fun z7 =>
            f_X7_adds_158  z7 l3 l4 l5
        else
          Option.bind (f_X7_refuse M (-6)) fun z8 =>
          some (z8.1, z8.2)
set_option maxRecDepth 20000 in
theorem m_X7_adds_112 {k : KT} {q : Int32 × Mem} (hk : CX k cX7_adds RX7 8 (some .int) 2) (hq : RI k q) (M : Mem) (l3 : Int32) (l4 : Int32) (l5 : Int32) (l6 : Int32) (t0 : Int32)  : GG k q (wM k M) 112 [(0, .ref (kh k + 0)), (3, .int l3), (4, .int l4), (5, .int l5), (6, .int l6)] [.int t0] (f_X7_adds_112  M l3 l4 l5 l6 t0) := by
  unfold f_X7_adds_112
  refine GG_istore hk (pc' := 114) [(7, .int t0), (0, .ref (kh k + 0)), (3, .int l3), (4, .int l4), (5, .int l5), (6, .int l6)] dX7_adds_112 rfl (by decide) rfl ?_
  refine GG_iload_n hk (pc' := 115) 2 dX7_adds_114 rfl rfl rfl ?_
  refine GG_bipush hk (pc' := 117) 9 dX7_adds_115 rfl rfl ?_
  refine GG_icmp_gt hk 132 (pc' := 120) dX7_adds_117 rfl (by decide) (fun c1 => ?_) (fun c1 => ?_)
  · refine GG_aload_n hk (pc' := 133) 1 dX7_adds_132 rfl rfl rfl ?_
    refine GG_bipush hk (pc' := 135) (-6) dX7_adds_133 rfl rfl ?_
    refine GG_callVi hk (st := []) (pc' := 138) mf_X7_refuse mv_X7_refuse LC7 rfl (c_X7_refuse _ _ _ M (-6) ) (by omega) tw_333 rfl rfl rfl (Nat.le_of_ble_eq_true rfl) dX7_adds_135 rfl (fun z2 e_z2 => ?_)
    exact GG_iret hk hq dX7_adds_138
  · refine GG_iload hk (pc' := 122) 3 dX7_adds_120 rfl rfl ?_
    refine GG_bipush hk (pc' := 124) 99 dX7_adds_122 rfl rfl ?_
    refine GG_icmp_gt hk 132 (pc' := 127) dX7_adds_124 rfl (by decide) (fun c3 => ?_) (fun c3 => ?_)
    · refine GG_aload_n hk (pc' := 133) 1 dX7_adds_132 rfl rfl rfl ?_
      refine GG_bipush hk (pc' := 135) (-6) dX7_adds_133 rfl rfl ?_
      refine GG_callVi hk (st := []) (pc' := 138) mf_X7_refuse mv_X7_refuse LC7 rfl (c_X7_refuse _ _ _ M (-6) ) (by omega) tw_333 rfl rfl rfl (Nat.le_of_ble_eq_true rfl) dX7_adds_135 rfl (fun z4 e_z4 => ?_)
      exact GG_iret hk hq dX7_adds_138
    · refine GG_iload hk (pc' := 129) 0 dX7_adds_127 rfl rfl ?_
      refine GG_if_eq hk 139 (pc' := 132) dX7_adds_129 rfl (by decide) (fun c5 => ?_) (fun c5 => ?_)
      · refine GG_iload hk (pc' := 141) 5 dX7_adds_139 rfl rfl ?_
        refine GG_iconst hk (pc' := 142) (-1) dX7_adds_141 rfl rfl ?_
        refine GG_icmp_ne hk 158 (pc' := 145) dX7_adds_142 rfl (by decide) (fun c6 => ?_) (fun c6 => ?_)
        · refine GG_sub (L' := [(0, .ref (kh k + 0)), (3, .int l3), (4, .int l4), (5, .int l5)]) [1, 2, 3, 4] rfl ?_
          exact m_X7_adds_158 hk hq  M l3 l4 l5 
        · refine GG_aload_n hk (pc' := 146) 1 dX7_adds_145 rfl rfl rfl ?_
          refine GG_get hk LC7 0 (v := .ref (kh k + 1)) (pc' := 149) tw_298 rfl rfl (by decide) rfl dX7_adds_146 rfl ?_
          refine GG_iload hk (pc' := 151) 4 dX7_adds_149 rfl rfl ?_
          refine GG_iconst hk (pc' := 152) 1 dX7_adds_151 rfl rfl ?_
          refine GG_iconst hk (pc' := 153) 0 dX7_adds_152 rfl rfl ?_
          refine GG_bipush hk (pc' := 155) (-9) dX7_adds_153 rfl rfl ?_
          refine GG_callVv hk (st := []) (pc' := 158) mf_X4_put mv_X4_put LC4 rfl (c_X4_put _ _ _ M 1 l5 1 0 (-9) okS_1) (by omega) tw_508 (kdS okS_1) rfl rfl (Nat.le_of_ble_eq_true rfl) dX7_adds_155 rfl (fun z7 e_z7 => ?_)
          refine GG_sub (L' := [(0, .ref (kh k + 0)), (3, .int l3), (4, .int l4), (5, .int l5)]) [1, 2, 3, 4] rfl ?_
          exact m_X7_adds_158 hk hq  z7 l3 l4 l5 
      · refine GG_aload_n hk (pc' := 133) 1 dX7_adds_132 rfl rfl rfl ?_
        refine GG_bipush hk (pc' := 135) (-6) dX7_adds_133 rfl rfl ?_
        refine GG_callVi hk (st := []) (pc' := 138) mf_X7_refuse mv_X7_refuse LC7 rfl (c_X7_refuse _ _ _ M (-6) ) (by omega) tw_333 rfl rfl rfl (Nat.le_of_ble_eq_true rfl) dX7_adds_135 rfl (fun z8 e_z8 => ?_)
        exact GG_iret hk hq dX7_adds_138
noncomputable def f_X7_adds_111  (M : Mem) (l3 : Int32) (l4 : Int32) (l5 : Int32) (l6 : Int32) : Option (Int32 × Mem) :=
    f_X7_adds_112  M l3 l4 l5 l6 0
set_option maxRecDepth 20000 in
theorem m_X7_adds_111 {k : KT} {q : Int32 × Mem} (hk : CX k cX7_adds RX7 8 (some .int) 2) (hq : RI k q) (M : Mem) (l3 : Int32) (l4 : Int32) (l5 : Int32) (l6 : Int32)  : GG k q (wM k M) 111 [(0, .ref (kh k + 0)), (3, .int l3), (4, .int l4), (5, .int l5), (6, .int l6)] [] (f_X7_adds_111  M l3 l4 l5 l6) := by
  unfold f_X7_adds_111
  refine GG_iconst hk (pc' := 112) 0 dX7_adds_111 rfl rfl ?_
  exact m_X7_adds_112 hk hq  M l3 l4 l5 l6 0 
noncomputable def f_X7_adds_71  (M : Mem) (l3 : Int32) (l4 : Int32) (l5 : Int32) (l6 : Int32) : Option (Int32 × Mem) :=
    if l3 < 0 then
      Option.bind (f_X7_refuse M (-4)) fun z2 =>
      some (z2.1, z2.2)
    else
      if 0 ≤ l4 then
        if ¬ l6 = 1 then
          f_X7_adds_111  M l3 l4 l5 l6
        else
          Option.bind (rd 48 (M 7) l5) fun v5 =>
          if v5 < 4 then
            f_X7_adds_111  M l3 l4 l5 l6
          else
            f_X7_adds_112  M l3 l4 l5 l6 1
      else
        Option.bind (f_X7_refuse M (-4)) fun z7 =>
        some (z7.1, z7.2)
set_option maxRecDepth 20000 in
theorem m_X7_adds_71 {k : KT} {q : Int32 × Mem} (hk : CX k cX7_adds RX7 8 (some .int) 2) (hq : RI k q) (M : Mem) (l3 : Int32) (l4 : Int32) (l5 : Int32) (l6 : Int32)  : GG k q (wM k M) 71 [(0, .ref (kh k + 0)), (3, .int l3), (4, .int l4), (5, .int l5), (6, .int l6)] [] (f_X7_adds_71  M l3 l4 l5 l6) := by
  unfold f_X7_adds_71
  refine GG_iload_n hk (pc' := 72) 1 dX7_adds_71 rfl rfl rfl ?_
  refine GG_if_lt hk 80 (pc' := 75) dX7_adds_72 rfl (by decide) (fun c1 => ?_) (fun c1 => ?_)
  · refine GG_aload_n hk (pc' := 81) 0 dX7_adds_80 rfl rfl rfl ?_
    refine GG_bipush hk (pc' := 83) (-4) dX7_adds_81 rfl rfl ?_
    refine GG_callVi hk (st := []) (pc' := 86) mf_X7_refuse mv_X7_refuse LC7 rfl (c_X7_refuse _ _ _ M (-4) ) (by omega) tw_333 rfl rfl rfl (Nat.le_of_ble_eq_true rfl) dX7_adds_83 rfl (fun z2 e_z2 => ?_)
    exact GG_iret hk hq dX7_adds_86
  · refine GG_iload hk (pc' := 77) 2 dX7_adds_75 rfl rfl ?_
    refine GG_if_ge hk 87 (pc' := 80) dX7_adds_77 rfl (by decide) (fun c3 => ?_) (fun c3 => ?_)
    · refine GG_iload hk (pc' := 89) 4 dX7_adds_87 rfl rfl ?_
      refine GG_iconst hk (pc' := 90) 1 dX7_adds_89 rfl rfl ?_
      refine GG_icmp_ne hk 111 (pc' := 93) dX7_adds_90 rfl (by decide) (fun c4 => ?_) (fun c4 => ?_)
      · exact m_X7_adds_111 hk hq  M l3 l4 l5 l6 
      · refine GG_aload_n hk (pc' := 94) 0 dX7_adds_93 rfl rfl rfl ?_
        refine GG_get hk LC7 0 (v := .ref (kh k + 1)) (pc' := 97) tw_298 rfl rfl (by decide) rfl dX7_adds_94 rfl ?_
        refine GG_get hk LC4 6 (v := .ref (kh k + 7)) (pc' := 100) tw_63 rfl (kdS okS_1) (by decide) rfl dX7_adds_97 rfl ?_
        refine GG_iload hk (pc' := 102) 3 dX7_adds_100 rfl rfl ?_
        refine GG_iald hk (pc' := 103) rfl rfl dX7_adds_102 rfl (fun v5 e_v5 => ?_)
        refine GG_iconst hk (pc' := 104) 4 dX7_adds_103 rfl rfl ?_
        refine GG_icmp_lt hk 111 (pc' := 107) dX7_adds_104 rfl (by decide) (fun c6 => ?_) (fun c6 => ?_)
        · exact m_X7_adds_111 hk hq  M l3 l4 l5 l6 
        · refine GG_iconst hk (pc' := 108) 1 dX7_adds_107 rfl rfl ?_
          refine GG_goto hk 112 dX7_adds_108 (by decide) ?_
          exact m_X7_adds_112 hk hq  M l3 l4 l5 l6 1 
    · refine GG_aload_n hk (pc' := 81) 0 dX7_adds_80 rfl rfl rfl ?_
      refine GG_bipush hk (pc' := 83) (-4) dX7_adds_81 rfl rfl ?_
      refine GG_callVi hk (st := []) (pc' := 86) mf_X7_refuse mv_X7_refuse LC7 rfl (c_X7_refuse _ _ _ M (-4) ) (by omega) tw_333 rfl rfl rfl (Nat.le_of_ble_eq_true rfl) dX7_adds_83 rfl (fun z7 e_z7 => ?_)
      exact GG_iret hk hq dX7_adds_86
noncomputable def f_X7_adds (M : Mem) (l1 : Int32) (l2 : Int32) (l3 : Int32) (l4 : Int32) : Option (Int32 × Mem) :=
    Option.bind (f_X7_noLayer M l1) fun z1 =>
    if ¬ z1.1 = 0 then
      Option.bind (f_X7_refuse z1.2 (-1)) fun z3 =>
      some (z3.1, z3.2)
    else
      Option.bind (f_X7_noKey z1.2 l2) fun z4 =>
      if z4.1 = 0 then
        Option.bind (f_X7_slotOf z4.2 l1 l2) fun z6 =>
        Option.bind (rd 48 (z6.2 6) z6.1) fun v7 =>
        if v7 = (-1) then
          f_X7_adds_71  z6.2 l3 l4 z6.1 v7
        else
          if ¬ v7 = 1 then
            Option.bind (f_X7_refuse z6.2 (-3)) fun z10 =>
            some (z10.1, z10.2)
          else
            Option.bind (f_X4_hasItem z6.2 1 z6.1 l3) fun z11 =>
            if z11.1 = 0 then
              f_X7_adds_71  z11.2 l3 l4 z6.1 v7
            else
              Option.bind (f_X7_refuse z11.2 (-3)) fun z13 =>
              some (z13.1, z13.2)
      else
        Option.bind (f_X7_refuse z4.2 (-1)) fun z14 =>
        some (z14.1, z14.2)
set_option maxRecDepth 20000 in
theorem m_X7_adds {k : KT} {q : Int32 × Mem} (hk : CX k cX7_adds RX7 8 (some .int) 2) (hq : RI k q) (M : Mem) (l1 : Int32) (l2 : Int32) (l3 : Int32) (l4 : Int32)  : GG k q (wM k M) 0 [(0, .ref (kh k + 0)), (1, .int l1), (2, .int l2), (3, .int l3), (4, .int l4)] [] (f_X7_adds M l1 l2 l3 l4) := by
  unfold f_X7_adds
  refine GG_iload_n hk (pc' := 1) 1 dX7_adds_0 rfl rfl rfl ?_
  refine GG_callSi hk (st := []) (pc' := 4) mf_X7_noLayer tw_441 (c_X7_noLayer _ _ _ M l1 ) (by omega) tw_480 rfl rfl (Nat.le_of_ble_eq_true rfl) dX7_adds_1 rfl (fun z1 e_z1 => ?_)
  refine GG_if_ne hk 14 (pc' := 7) dX7_adds_4 rfl (by decide) (fun c2 => ?_) (fun c2 => ?_)
  · refine GG_aload_n hk (pc' := 15) 0 dX7_adds_14 rfl rfl rfl ?_
    refine GG_iconst hk (pc' := 16) (-1) dX7_adds_15 rfl rfl ?_
    refine GG_callVi hk (st := []) (pc' := 19) mf_X7_refuse mv_X7_refuse LC7 rfl (c_X7_refuse _ _ _ z1.2 (-1) ) (by omega) tw_333 rfl rfl rfl (Nat.le_of_ble_eq_true rfl) dX7_adds_16 rfl (fun z3 e_z3 => ?_)
    exact GG_iret hk hq dX7_adds_19
  · refine GG_iload_n hk (pc' := 8) 2 dX7_adds_7 rfl rfl rfl ?_
    refine GG_callSi hk (st := []) (pc' := 11) mf_X7_noKey tw_386 (c_X7_noKey _ _ _ z1.2 l2 ) (by omega) tw_498 rfl rfl (Nat.le_of_ble_eq_true rfl) dX7_adds_8 rfl (fun z4 e_z4 => ?_)
    refine GG_if_eq hk 20 (pc' := 14) dX7_adds_11 rfl (by decide) (fun c5 => ?_) (fun c5 => ?_)
    · refine GG_iload_n hk (pc' := 21) 1 dX7_adds_20 rfl rfl rfl ?_
      refine GG_iload_n hk (pc' := 22) 2 dX7_adds_21 rfl rfl rfl ?_
      refine GG_callSi hk (st := []) (pc' := 25) mf_X7_slotOf tw_460 (c_X7_slotOf _ _ _ z4.2 l1 l2 ) (by omega) tw_507 rfl rfl (Nat.le_of_ble_eq_true rfl) dX7_adds_22 rfl (fun z6 e_z6 => ?_)
      refine GG_istore hk (pc' := 27) [(5, .int z6.1), (0, .ref (kh k + 0)), (1, .int l1), (2, .int l2), (3, .int l3), (4, .int l4)] dX7_adds_25 rfl (by decide) rfl ?_
      refine GG_aload_n hk (pc' := 28) 1 dX7_adds_27 rfl rfl rfl ?_
      refine GG_get hk LC7 0 (v := .ref (kh k + 1)) (pc' := 31) tw_298 rfl rfl (by decide) rfl dX7_adds_28 rfl ?_
      refine GG_get hk LC4 5 (v := .ref (kh k + 6)) (pc' := 34) tw_61 rfl (kdS okS_1) (by decide) rfl dX7_adds_31 rfl ?_
      refine GG_iload hk (pc' := 36) 0 dX7_adds_34 rfl rfl ?_
      refine GG_iald hk (pc' := 37) rfl rfl dX7_adds_36 rfl (fun v7 e_v7 => ?_)
      refine GG_istore hk (pc' := 39) [(6, .int v7), (5, .int z6.1), (0, .ref (kh k + 0)), (1, .int l1), (2, .int l2), (3, .int l3), (4, .int l4)] dX7_adds_37 rfl (by decide) rfl ?_
      refine GG_iload hk (pc' := 41) 0 dX7_adds_39 rfl rfl ?_
      refine GG_iconst hk (pc' := 42) (-1) dX7_adds_41 rfl rfl ?_
      refine GG_icmp_eq hk 71 (pc' := 45) dX7_adds_42 rfl (by decide) (fun c8 => ?_) (fun c8 => ?_)
      · refine GG_sub (L' := [(0, .ref (kh k + 0)), (3, .int l3), (4, .int l4), (5, .int z6.1), (6, .int v7)]) [2, 5, 6, 1, 0] rfl ?_
        exact m_X7_adds_71 hk hq  z6.2 l3 l4 z6.1 v7 
      · refine GG_iload hk (pc' := 47) 0 dX7_adds_45 rfl rfl ?_
        refine GG_iconst hk (pc' := 48) 1 dX7_adds_47 rfl rfl ?_
        refine GG_icmp_ne hk 64 (pc' := 51) dX7_adds_48 rfl (by decide) (fun c9 => ?_) (fun c9 => ?_)
        · refine GG_aload_n hk (pc' := 65) 2 dX7_adds_64 rfl rfl rfl ?_
          refine GG_bipush hk (pc' := 67) (-3) dX7_adds_65 rfl rfl ?_
          refine GG_callVi hk (st := []) (pc' := 70) mf_X7_refuse mv_X7_refuse LC7 rfl (c_X7_refuse _ _ _ z6.2 (-3) ) (by omega) tw_333 rfl rfl rfl (Nat.le_of_ble_eq_true rfl) dX7_adds_67 rfl (fun z10 e_z10 => ?_)
          exact GG_iret hk hq dX7_adds_70
        · refine GG_aload_n hk (pc' := 52) 2 dX7_adds_51 rfl rfl rfl ?_
          refine GG_get hk LC7 0 (v := .ref (kh k + 1)) (pc' := 55) tw_298 rfl rfl (by decide) rfl dX7_adds_52 rfl ?_
          refine GG_iload hk (pc' := 57) 1 dX7_adds_55 rfl rfl ?_
          refine GG_iload_n hk (pc' := 58) 5 dX7_adds_57 rfl rfl rfl ?_
          refine GG_callVi hk (st := []) (pc' := 61) mf_X4_hasItem mv_X4_hasItem LC4 rfl (c_X4_hasItem _ _ _ z6.2 1 z6.1 l3 okS_1) (by omega) tw_513 (kdS okS_1) rfl rfl (Nat.le_of_ble_eq_true rfl) dX7_adds_58 rfl (fun z11 e_z11 => ?_)
          refine GG_if_eq hk 71 (pc' := 64) dX7_adds_61 rfl (by decide) (fun c12 => ?_) (fun c12 => ?_)
          · refine GG_sub (L' := [(0, .ref (kh k + 0)), (3, .int l3), (4, .int l4), (5, .int z6.1), (6, .int v7)]) [2, 5, 6, 1, 0] rfl ?_
            exact m_X7_adds_71 hk hq  z11.2 l3 l4 z6.1 v7 
          · refine GG_aload_n hk (pc' := 65) 2 dX7_adds_64 rfl rfl rfl ?_
            refine GG_bipush hk (pc' := 67) (-3) dX7_adds_65 rfl rfl ?_
            refine GG_callVi hk (st := []) (pc' := 70) mf_X7_refuse mv_X7_refuse LC7 rfl (c_X7_refuse _ _ _ z11.2 (-3) ) (by omega) tw_333 rfl rfl rfl (Nat.le_of_ble_eq_true rfl) dX7_adds_67 rfl (fun z13 e_z13 => ?_)
            exact GG_iret hk hq dX7_adds_70
    · refine GG_aload_n hk (pc' := 15) 0 dX7_adds_14 rfl rfl rfl ?_
      refine GG_iconst hk (pc' := 16) (-1) dX7_adds_15 rfl rfl ?_
      refine GG_callVi hk (st := []) (pc' := 19) mf_X7_refuse mv_X7_refuse LC7 rfl (c_X7_refuse _ _ _ z4.2 (-1) ) (by omega) tw_333 rfl rfl rfl (Nat.le_of_ble_eq_true rfl) dX7_adds_16 rfl (fun z14 e_z14 => ?_)
      exact GG_iret hk hq dX7_adds_19
theorem c_X7_adds (l : Launch) (C : DD) (a : Nat) (M : Mem) (l1 : Int32) (l2 : Int32) (l3 : Int32) (l4 : Int32)  : CI l C (a) yX7_adds cX7_adds 8 .int 2 [.ref (a + 0), .int l1, .int l2, .int l3, .int l4] M (f_X7_adds M l1 l2 l3 l4) := by
  refine CI_of RX7 (by decide +kernel) rfl (Nat.le_of_ble_eq_true rfl) (fun k q hk hq e1 e2 e3 => ?_)
  subst e1; subst e2; subst e3
  exact m_X7_adds hk hq M l1 l2 l3 l4 

/-! SettingsInLayers.refers(IIII)I -/
noncomputable def f_X7_refers (M : Mem) (l1 : Int32) (l2 : Int32) (l3 : Int32) (l4 : Int32) : Option (Int32 × Mem) :=
    Option.bind (f_X7_noLayer M l1) fun z1 =>
    if ¬ z1.1 = 0 then
      Option.bind (f_X7_refuse z1.2 (-1)) fun z3 =>
      some (z3.1, z3.2)
    else
      Option.bind (f_X7_noKey z1.2 l2) fun z4 =>
      if ¬ z4.1 = 0 then
        Option.bind (f_X7_refuse z4.2 (-1)) fun z6 =>
        some (z6.1, z6.2)
      else
        Option.bind (f_X7_noKey z4.2 l3) fun z7 =>
        if z7.1 = 0 then
          if (-1) ≤ l4 then
            if l4 ≤ 99 then
              if 0 ≤ l4 then
                Option.bind (f_X7_replace z7.2 l1 l2 3 l4 l3) fun z12 =>
                some (z12.1, z12.2)
              else
                Option.bind (f_X7_replace z7.2 l1 l2 2 0 l3) fun z13 =>
                some (z13.1, z13.2)
            else
              Option.bind (f_X7_refuse z7.2 (-6)) fun z14 =>
              some (z14.1, z14.2)
          else
            Option.bind (f_X7_refuse z7.2 (-4)) fun z15 =>
            some (z15.1, z15.2)
        else
          Option.bind (f_X7_refuse z7.2 (-1)) fun z16 =>
          some (z16.1, z16.2)
set_option maxRecDepth 20000 in
theorem m_X7_refers {k : KT} {q : Int32 × Mem} (hk : CX k cX7_refers RX7 5 (some .int) 3) (hq : RI k q) (M : Mem) (l1 : Int32) (l2 : Int32) (l3 : Int32) (l4 : Int32)  : GG k q (wM k M) 0 [(0, .ref (kh k + 0)), (1, .int l1), (2, .int l2), (3, .int l3), (4, .int l4)] [] (f_X7_refers M l1 l2 l3 l4) := by
  unfold f_X7_refers
  refine GG_iload_n hk (pc' := 1) 1 dX7_refers_0 rfl rfl rfl ?_
  refine GG_callSi hk (st := []) (pc' := 4) mf_X7_noLayer tw_441 (c_X7_noLayer _ _ _ M l1 ) (by omega) tw_480 rfl rfl (Nat.le_of_ble_eq_true rfl) dX7_refers_1 rfl (fun z1 e_z1 => ?_)
  refine GG_if_ne hk 21 (pc' := 7) dX7_refers_4 rfl (by decide) (fun c2 => ?_) (fun c2 => ?_)
  · refine GG_aload_n hk (pc' := 22) 0 dX7_refers_21 rfl rfl rfl ?_
    refine GG_iconst hk (pc' := 23) (-1) dX7_refers_22 rfl rfl ?_
    refine GG_callVi hk (st := []) (pc' := 26) mf_X7_refuse mv_X7_refuse LC7 rfl (c_X7_refuse _ _ _ z1.2 (-1) ) (by omega) tw_333 rfl rfl rfl (Nat.le_of_ble_eq_true rfl) dX7_refers_23 rfl (fun z3 e_z3 => ?_)
    exact GG_iret hk hq dX7_refers_26
  · refine GG_iload_n hk (pc' := 8) 2 dX7_refers_7 rfl rfl rfl ?_
    refine GG_callSi hk (st := []) (pc' := 11) mf_X7_noKey tw_386 (c_X7_noKey _ _ _ z1.2 l2 ) (by omega) tw_498 rfl rfl (Nat.le_of_ble_eq_true rfl) dX7_refers_8 rfl (fun z4 e_z4 => ?_)
    refine GG_if_ne hk 21 (pc' := 14) dX7_refers_11 rfl (by decide) (fun c5 => ?_) (fun c5 => ?_)
    · refine GG_aload_n hk (pc' := 22) 0 dX7_refers_21 rfl rfl rfl ?_
      refine GG_iconst hk (pc' := 23) (-1) dX7_refers_22 rfl rfl ?_
      refine GG_callVi hk (st := []) (pc' := 26) mf_X7_refuse mv_X7_refuse LC7 rfl (c_X7_refuse _ _ _ z4.2 (-1) ) (by omega) tw_333 rfl rfl rfl (Nat.le_of_ble_eq_true rfl) dX7_refers_23 rfl (fun z6 e_z6 => ?_)
      exact GG_iret hk hq dX7_refers_26
    · refine GG_iload_n hk (pc' := 15) 3 dX7_refers_14 rfl rfl rfl ?_
      refine GG_callSi hk (st := []) (pc' := 18) mf_X7_noKey tw_386 (c_X7_noKey _ _ _ z4.2 l3 ) (by omega) tw_498 rfl rfl (Nat.le_of_ble_eq_true rfl) dX7_refers_15 rfl (fun z7 e_z7 => ?_)
      refine GG_if_eq hk 27 (pc' := 21) dX7_refers_18 rfl (by decide) (fun c8 => ?_) (fun c8 => ?_)
      · refine GG_iload hk (pc' := 29) 4 dX7_refers_27 rfl rfl ?_
        refine GG_iconst hk (pc' := 30) (-1) dX7_refers_29 rfl rfl ?_
        refine GG_icmp_ge hk 40 (pc' := 33) dX7_refers_30 rfl (by decide) (fun c9 => ?_) (fun c9 => ?_)
        · refine GG_iload hk (pc' := 42) 4 dX7_refers_40 rfl rfl ?_
          refine GG_bipush hk (pc' := 44) 99 dX7_refers_42 rfl rfl ?_
          refine GG_icmp_le hk 54 (pc' := 47) dX7_refers_44 rfl (by decide) (fun c10 => ?_) (fun c10 => ?_)
          · refine GG_iload hk (pc' := 56) 4 dX7_refers_54 rfl rfl ?_
            refine GG_if_ge hk 69 (pc' := 59) dX7_refers_56 rfl (by decide) (fun c11 => ?_) (fun c11 => ?_)
            · refine GG_aload_n hk (pc' := 70) 0 dX7_refers_69 rfl rfl rfl ?_
              refine GG_iload_n hk (pc' := 71) 1 dX7_refers_70 rfl rfl rfl ?_
              refine GG_iload_n hk (pc' := 72) 2 dX7_refers_71 rfl rfl rfl ?_
              refine GG_iconst hk (pc' := 73) 3 dX7_refers_72 rfl rfl ?_
              refine GG_iload hk (pc' := 75) 4 dX7_refers_73 rfl rfl ?_
              refine GG_iload_n hk (pc' := 76) 3 dX7_refers_75 rfl rfl rfl ?_
              refine GG_callVi hk (st := []) (pc' := 79) mf_X7_replace mv_X7_replace LC7 rfl (c_X7_replace _ _ _ z7.2 l1 l2 3 l4 l3 ) (by omega) tw_503 rfl rfl rfl (Nat.le_of_ble_eq_true rfl) dX7_refers_76 rfl (fun z12 e_z12 => ?_)
              exact GG_iret hk hq dX7_refers_79
            · refine GG_aload_n hk (pc' := 60) 0 dX7_refers_59 rfl rfl rfl ?_
              refine GG_iload_n hk (pc' := 61) 1 dX7_refers_60 rfl rfl rfl ?_
              refine GG_iload_n hk (pc' := 62) 2 dX7_refers_61 rfl rfl rfl ?_
              refine GG_iconst hk (pc' := 63) 2 dX7_refers_62 rfl rfl ?_
              refine GG_iconst hk (pc' := 64) 0 dX7_refers_63 rfl rfl ?_
              refine GG_iload_n hk (pc' := 65) 3 dX7_refers_64 rfl rfl rfl ?_
              refine GG_callVi hk (st := []) (pc' := 68) mf_X7_replace mv_X7_replace LC7 rfl (c_X7_replace _ _ _ z7.2 l1 l2 2 0 l3 ) (by omega) tw_503 rfl rfl rfl (Nat.le_of_ble_eq_true rfl) dX7_refers_65 rfl (fun z13 e_z13 => ?_)
              exact GG_iret hk hq dX7_refers_68
          · refine GG_aload_n hk (pc' := 48) 0 dX7_refers_47 rfl rfl rfl ?_
            refine GG_bipush hk (pc' := 50) (-6) dX7_refers_48 rfl rfl ?_
            refine GG_callVi hk (st := []) (pc' := 53) mf_X7_refuse mv_X7_refuse LC7 rfl (c_X7_refuse _ _ _ z7.2 (-6) ) (by omega) tw_333 rfl rfl rfl (Nat.le_of_ble_eq_true rfl) dX7_refers_50 rfl (fun z14 e_z14 => ?_)
            exact GG_iret hk hq dX7_refers_53
        · refine GG_aload_n hk (pc' := 34) 0 dX7_refers_33 rfl rfl rfl ?_
          refine GG_bipush hk (pc' := 36) (-4) dX7_refers_34 rfl rfl ?_
          refine GG_callVi hk (st := []) (pc' := 39) mf_X7_refuse mv_X7_refuse LC7 rfl (c_X7_refuse _ _ _ z7.2 (-4) ) (by omega) tw_333 rfl rfl rfl (Nat.le_of_ble_eq_true rfl) dX7_refers_36 rfl (fun z15 e_z15 => ?_)
          exact GG_iret hk hq dX7_refers_39
      · refine GG_aload_n hk (pc' := 22) 0 dX7_refers_21 rfl rfl rfl ?_
        refine GG_iconst hk (pc' := 23) (-1) dX7_refers_22 rfl rfl ?_
        refine GG_callVi hk (st := []) (pc' := 26) mf_X7_refuse mv_X7_refuse LC7 rfl (c_X7_refuse _ _ _ z7.2 (-1) ) (by omega) tw_333 rfl rfl rfl (Nat.le_of_ble_eq_true rfl) dX7_refers_23 rfl (fun z16 e_z16 => ?_)
        exact GG_iret hk hq dX7_refers_26
theorem c_X7_refers (l : Launch) (C : DD) (a : Nat) (M : Mem) (l1 : Int32) (l2 : Int32) (l3 : Int32) (l4 : Int32)  : CI l C (a) yX7_refers cX7_refers 5 .int 3 [.ref (a + 0), .int l1, .int l2, .int l3, .int l4] M (f_X7_refers M l1 l2 l3 l4) := by
  refine CI_of RX7 (by decide +kernel) rfl (Nat.le_of_ble_eq_true rfl) (fun k q hk hq e1 e2 e3 => ?_)
  subst e1; subst e2; subst e3
  exact m_X7_refers hk hq M l1 l2 l3 l4 

/-! SettingsInLayers.gap(II)I -/
noncomputable def f_X7_gap (M : Mem) (l1 : Int32) (l2 : Int32) : Option (Int32 × Mem) :=
    Option.bind (f_X7_noLayer M l1) fun z1 =>
    if ¬ z1.1 = 0 then
      Option.bind (f_X7_refuse z1.2 (-1)) fun z3 =>
      some (z3.1, z3.2)
    else
      Option.bind (f_X7_noKey z1.2 l2) fun z4 =>
      if z4.1 = 0 then
        Option.bind (f_X7_replace z4.2 l1 l2 4 0 (-9)) fun z6 =>
        some (z6.1, z6.2)
      else
        Option.bind (f_X7_refuse z4.2 (-1)) fun z7 =>
        some (z7.1, z7.2)
set_option maxRecDepth 20000 in
theorem m_X7_gap {k : KT} {q : Int32 × Mem} (hk : CX k cX7_gap RX7 3 (some .int) 3) (hq : RI k q) (M : Mem) (l1 : Int32) (l2 : Int32)  : GG k q (wM k M) 0 [(0, .ref (kh k + 0)), (1, .int l1), (2, .int l2)] [] (f_X7_gap M l1 l2) := by
  unfold f_X7_gap
  refine GG_iload_n hk (pc' := 1) 1 dX7_gap_0 rfl rfl rfl ?_
  refine GG_callSi hk (st := []) (pc' := 4) mf_X7_noLayer tw_441 (c_X7_noLayer _ _ _ M l1 ) (by omega) tw_480 rfl rfl (Nat.le_of_ble_eq_true rfl) dX7_gap_1 rfl (fun z1 e_z1 => ?_)
  refine GG_if_ne hk 14 (pc' := 7) dX7_gap_4 rfl (by decide) (fun c2 => ?_) (fun c2 => ?_)
  · refine GG_aload_n hk (pc' := 15) 0 dX7_gap_14 rfl rfl rfl ?_
    refine GG_iconst hk (pc' := 16) (-1) dX7_gap_15 rfl rfl ?_
    refine GG_callVi hk (st := []) (pc' := 19) mf_X7_refuse mv_X7_refuse LC7 rfl (c_X7_refuse _ _ _ z1.2 (-1) ) (by omega) tw_333 rfl rfl rfl (Nat.le_of_ble_eq_true rfl) dX7_gap_16 rfl (fun z3 e_z3 => ?_)
    exact GG_iret hk hq dX7_gap_19
  · refine GG_iload_n hk (pc' := 8) 2 dX7_gap_7 rfl rfl rfl ?_
    refine GG_callSi hk (st := []) (pc' := 11) mf_X7_noKey tw_386 (c_X7_noKey _ _ _ z1.2 l2 ) (by omega) tw_498 rfl rfl (Nat.le_of_ble_eq_true rfl) dX7_gap_8 rfl (fun z4 e_z4 => ?_)
    refine GG_if_eq hk 20 (pc' := 14) dX7_gap_11 rfl (by decide) (fun c5 => ?_) (fun c5 => ?_)
    · refine GG_aload_n hk (pc' := 21) 0 dX7_gap_20 rfl rfl rfl ?_
      refine GG_iload_n hk (pc' := 22) 1 dX7_gap_21 rfl rfl rfl ?_
      refine GG_iload_n hk (pc' := 23) 2 dX7_gap_22 rfl rfl rfl ?_
      refine GG_iconst hk (pc' := 24) 4 dX7_gap_23 rfl rfl ?_
      refine GG_iconst hk (pc' := 25) 0 dX7_gap_24 rfl rfl ?_
      refine GG_bipush hk (pc' := 27) (-9) dX7_gap_25 rfl rfl ?_
      refine GG_callVi hk (st := []) (pc' := 30) mf_X7_replace mv_X7_replace LC7 rfl (c_X7_replace _ _ _ z4.2 l1 l2 4 0 (-9) ) (by omega) tw_503 rfl rfl rfl (Nat.le_of_ble_eq_true rfl) dX7_gap_27 rfl (fun z6 e_z6 => ?_)
      exact GG_iret hk hq dX7_gap_30
    · refine GG_aload_n hk (pc' := 15) 0 dX7_gap_14 rfl rfl rfl ?_
      refine GG_iconst hk (pc' := 16) (-1) dX7_gap_15 rfl rfl ?_
      refine GG_callVi hk (st := []) (pc' := 19) mf_X7_refuse mv_X7_refuse LC7 rfl (c_X7_refuse _ _ _ z4.2 (-1) ) (by omega) tw_333 rfl rfl rfl (Nat.le_of_ble_eq_true rfl) dX7_gap_16 rfl (fun z7 e_z7 => ?_)
      exact GG_iret hk hq dX7_gap_19
theorem c_X7_gap (l : Launch) (C : DD) (a : Nat) (M : Mem) (l1 : Int32) (l2 : Int32)  : CI l C (a) yX7_gap cX7_gap 3 .int 3 [.ref (a + 0), .int l1, .int l2] M (f_X7_gap M l1 l2) := by
  refine CI_of RX7 (by decide +kernel) rfl (Nat.le_of_ble_eq_true rfl) (fun k q hk hq e1 e2 e3 => ?_)
  subst e1; subst e2; subst e3
  exact m_X7_gap hk hq M l1 l2 

/-! SettingsInLayers.noEntry(II)Z -/
noncomputable def f_X7_noEntry (M : Mem) (l1 : Int32) (l2 : Int32) : Option (Int32 × Mem) :=
    Option.bind (f_X7_noLayer M l1) fun z1 =>
    if ¬ z1.1 = 0 then
      bret 1 z1.2
    else
      Option.bind (f_X7_noKey z1.2 l2) fun z3 =>
      if ¬ z3.1 = 0 then
        bret 1 z3.2
      else
        Option.bind (f_X7_slotOf z3.2 l1 l2) fun z5 =>
        Option.bind (rd 48 (z5.2 6) z5.1) fun v6 =>
        if ¬ v6 = (-1) then
          bret 0 z5.2
        else
          bret 1 z5.2
set_option maxRecDepth 20000 in
theorem m_X7_noEntry {k : KT} {q : Int32 × Mem} (hk : CX k cX7_noEntry RX7 3 (some .boolean) 2) (hq : RI k q) (M : Mem) (l1 : Int32) (l2 : Int32)  : GG k q (wM k M) 0 [(0, .ref (kh k + 0)), (1, .int l1), (2, .int l2)] [] (f_X7_noEntry M l1 l2) := by
  unfold f_X7_noEntry
  refine GG_iload_n hk (pc' := 1) 1 dX7_noEntry_0 rfl rfl rfl ?_
  refine GG_callSi hk (st := []) (pc' := 4) mf_X7_noLayer tw_441 (c_X7_noLayer _ _ _ M l1 ) (by omega) tw_480 rfl rfl (Nat.le_of_ble_eq_true rfl) dX7_noEntry_1 rfl (fun z1 e_z1 => ?_)
  refine GG_if_ne hk 31 (pc' := 7) dX7_noEntry_4 rfl (by decide) (fun c2 => ?_) (fun c2 => ?_)
  · refine GG_iconst hk (pc' := 32) 1 dX7_noEntry_31 rfl rfl ?_
    refine GG_goto hk 36 dX7_noEntry_32 (by decide) ?_
    exact GG_zret hk hq dX7_noEntry_36
  · refine GG_iload_n hk (pc' := 8) 2 dX7_noEntry_7 rfl rfl rfl ?_
    refine GG_callSi hk (st := []) (pc' := 11) mf_X7_noKey tw_386 (c_X7_noKey _ _ _ z1.2 l2 ) (by omega) tw_498 rfl rfl (Nat.le_of_ble_eq_true rfl) dX7_noEntry_8 rfl (fun z3 e_z3 => ?_)
    refine GG_if_ne hk 31 (pc' := 14) dX7_noEntry_11 rfl (by decide) (fun c4 => ?_) (fun c4 => ?_)
    · refine GG_iconst hk (pc' := 32) 1 dX7_noEntry_31 rfl rfl ?_
      refine GG_goto hk 36 dX7_noEntry_32 (by decide) ?_
      exact GG_zret hk hq dX7_noEntry_36
    · refine GG_aload_n hk (pc' := 15) 0 dX7_noEntry_14 rfl rfl rfl ?_
      refine GG_get hk LC7 0 (v := .ref (kh k + 1)) (pc' := 18) tw_298 rfl rfl (by decide) rfl dX7_noEntry_15 rfl ?_
      refine GG_get hk LC4 5 (v := .ref (kh k + 6)) (pc' := 21) tw_61 rfl (kdS okS_1) (by decide) rfl dX7_noEntry_18 rfl ?_
      refine GG_iload_n hk (pc' := 22) 1 dX7_noEntry_21 rfl rfl rfl ?_
      refine GG_iload_n hk (pc' := 23) 2 dX7_noEntry_22 rfl rfl rfl ?_
      refine GG_callSi hk (st := [.ref (kh k + 6)]) (pc' := 26) mf_X7_slotOf tw_460 (c_X7_slotOf _ _ _ z3.2 l1 l2 ) (by omega) tw_507 rfl rfl (Nat.le_of_ble_eq_true rfl) dX7_noEntry_23 rfl (fun z5 e_z5 => ?_)
      refine GG_iald hk (pc' := 27) rfl rfl dX7_noEntry_26 rfl (fun v6 e_v6 => ?_)
      refine GG_iconst hk (pc' := 28) (-1) dX7_noEntry_27 rfl rfl ?_
      refine GG_icmp_ne hk 35 (pc' := 31) dX7_noEntry_28 rfl (by decide) (fun c7 => ?_) (fun c7 => ?_)
      · refine GG_iconst hk (pc' := 36) 0 dX7_noEntry_35 rfl rfl ?_
        exact GG_zret hk hq dX7_noEntry_36
      · refine GG_iconst hk (pc' := 32) 1 dX7_noEntry_31 rfl rfl ?_
        refine GG_goto hk 36 dX7_noEntry_32 (by decide) ?_
        exact GG_zret hk hq dX7_noEntry_36
theorem c_X7_noEntry (l : Launch) (C : DD) (a : Nat) (M : Mem) (l1 : Int32) (l2 : Int32)  : CI l C (a) yX7_noEntry cX7_noEntry 3 .boolean 2 [.ref (a + 0), .int l1, .int l2] M (f_X7_noEntry M l1 l2) := by
  refine CI_of RX7 (by decide +kernel) rfl (Nat.le_of_ble_eq_true rfl) (fun k q hk hq e1 e2 e3 => ?_)
  subst e1; subst e2; subst e3
  exact m_X7_noEntry hk hq M l1 l2 

/-! SettingsInLayers.drops(II)I -/
noncomputable def f_X7_drops (M : Mem) (l1 : Int32) (l2 : Int32) : Option (Int32 × Mem) :=
    Option.bind (f_X7_noEntry M l1 l2) fun z1 =>
    if z1.1 = 0 then
      Option.bind (f_X7_slotOf z1.2 l1 l2) fun z3 =>
      Option.bind (f_X4_erase z3.2 1 z3.1) fun z4 =>
      Option.bind (f_X4_keyBits z4 1 l1) fun z5 =>
      Option.bind (f_J6_bitCount_0f7a4 z5.2 z5.1) fun z6 =>
      some (z6.1, z6.2)
    else
      Option.bind (f_X7_refuse z1.2 (-1)) fun z7 =>
      some (z7.1, z7.2)
set_option maxRecDepth 20000 in
theorem m_X7_drops {k : KT} {q : Int32 × Mem} (hk : CX k cX7_drops RX7 3 (some .int) 3) (hq : RI k q) (M : Mem) (l1 : Int32) (l2 : Int32)  : GG k q (wM k M) 0 [(0, .ref (kh k + 0)), (1, .int l1), (2, .int l2)] [] (f_X7_drops M l1 l2) := by
  unfold f_X7_drops
  refine GG_aload_n hk (pc' := 1) 0 dX7_drops_0 rfl rfl rfl ?_
  refine GG_iload_n hk (pc' := 2) 1 dX7_drops_1 rfl rfl rfl ?_
  refine GG_iload_n hk (pc' := 3) 2 dX7_drops_2 rfl rfl rfl ?_
  refine GG_callVi hk (st := []) (pc' := 6) mf_X7_noEntry mv_X7_noEntry LC7 rfl (c_X7_noEntry _ _ _ M l1 l2 ) (by omega) tw_530 rfl rfl rfl (Nat.le_of_ble_eq_true rfl) dX7_drops_3 rfl (fun z1 e_z1 => ?_)
  refine GG_if_eq hk 15 (pc' := 9) dX7_drops_6 rfl (by decide) (fun c2 => ?_) (fun c2 => ?_)
  · refine GG_aload_n hk (pc' := 16) 0 dX7_drops_15 rfl rfl rfl ?_
    refine GG_get hk LC7 0 (v := .ref (kh k + 1)) (pc' := 19) tw_298 rfl rfl (by decide) rfl dX7_drops_16 rfl ?_
    refine GG_iload_n hk (pc' := 20) 1 dX7_drops_19 rfl rfl rfl ?_
    refine GG_iload_n hk (pc' := 21) 2 dX7_drops_20 rfl rfl rfl ?_
    refine GG_callSi hk (st := [.ref (kh k + 1)]) (pc' := 24) mf_X7_slotOf tw_460 (c_X7_slotOf _ _ _ z1.2 l1 l2 ) (by omega) tw_507 rfl rfl (Nat.le_of_ble_eq_true rfl) dX7_drops_21 rfl (fun z3 e_z3 => ?_)
    refine GG_callVv hk (st := []) (pc' := 27) mf_X4_erase mv_X4_erase LC4 rfl (c_X4_erase _ _ _ z3.2 1 z3.1 okS_1) (by omega) tw_534 (kdS okS_1) rfl rfl (Nat.le_of_ble_eq_true rfl) dX7_drops_24 rfl (fun z4 e_z4 => ?_)
    refine GG_aload_n hk (pc' := 28) 0 dX7_drops_27 rfl rfl rfl ?_
    refine GG_get hk LC7 0 (v := .ref (kh k + 1)) (pc' := 31) tw_298 rfl rfl (by decide) rfl dX7_drops_28 rfl ?_
    refine GG_iload_n hk (pc' := 32) 1 dX7_drops_31 rfl rfl rfl ?_
    refine GG_callVi hk (st := []) (pc' := 35) mf_X4_keyBits mv_X4_keyBits LC4 rfl (c_X4_keyBits _ _ _ z4 1 l1 okS_1) (by omega) tw_535 (kdS okS_1) rfl rfl (Nat.le_of_ble_eq_true rfl) dX7_drops_32 rfl (fun z5 e_z5 => ?_)
    refine GG_callSi hk (st := []) (pc' := 38) mf_J6_bitCount_0f7a4 tw_541 (c_J6_bitCount_0f7a4 _ _ _ z5.2 z5.1 ) (by omega) tw_540 rfl rfl (Nat.le_of_ble_eq_true rfl) dX7_drops_35 rfl (fun z6 e_z6 => ?_)
    exact GG_iret hk hq dX7_drops_38
  · refine GG_aload_n hk (pc' := 10) 0 dX7_drops_9 rfl rfl rfl ?_
    refine GG_iconst hk (pc' := 11) (-1) dX7_drops_10 rfl rfl ?_
    refine GG_callVi hk (st := []) (pc' := 14) mf_X7_refuse mv_X7_refuse LC7 rfl (c_X7_refuse _ _ _ z1.2 (-1) ) (by omega) tw_333 rfl rfl rfl (Nat.le_of_ble_eq_true rfl) dX7_drops_11 rfl (fun z7 e_z7 => ?_)
    exact GG_iret hk hq dX7_drops_14
theorem c_X7_drops (l : Launch) (C : DD) (a : Nat) (M : Mem) (l1 : Int32) (l2 : Int32)  : CI l C (a) yX7_drops cX7_drops 3 .int 3 [.ref (a + 0), .int l1, .int l2] M (f_X7_drops M l1 l2) := by
  refine CI_of RX7 (by decide +kernel) rfl (Nat.le_of_ble_eq_true rfl) (fun k q hk hq e1 e2 e3 => ?_)
  subst e1; subst e2; subst e3
  exact m_X7_drops hk hq M l1 l2 

/-! SettingsInLayers.layer(II)I -/
noncomputable def f_X7_layer (M : Mem) (l1 : Int32) (l2 : Int32) : Option (Int32 × Mem) :=
    Option.bind (f_X7_noLayer M l1) fun z1 =>
    if z1.1 = 0 then
      if l2 = 0 then
        Option.bind (f_X4_isOn z1.2 1 l1) fun z4 =>
        if z4.1 = 0 then
          some (0, z4.2)
        else
          some (1, z4.2)
      else
        if l2 = 1 then
          Option.bind (rd 6 (z1.2 2) l1) fun v7 =>
          some (v7, z1.2)
        else
          if l2 = 2 then
            Option.bind (rd 6 (z1.2 3) l1) fun v9 =>
            some (v9, z1.2)
          else
            if l2 = 3 then
              Option.bind (f_X4_rank z1.2 1 l1) fun z11 =>
              some ((z11.1 + 100), z11.2)
            else
              if l2 = 4 then
                Option.bind (f_X4_keyBits z1.2 1 l1) fun z13 =>
                some (z13.1, z13.2)
              else
                if l2 = 5 then
                  Option.bind (f_X4_howManyBehind z1.2 1 l1) fun z15 =>
                  some (z15.1, z15.2)
                else
                  Option.bind (f_X7_refuse z1.2 (-2)) fun z16 =>
                  some (z16.1, z16.2)
    else
      Option.bind (f_X7_refuse z1.2 (-1)) fun z17 =>
      some (z17.1, z17.2)
set_option maxRecDepth 20000 in
theorem m_X7_layer {k : KT} {q : Int32 × Mem} (hk : CX k cX7_layer RX7 3 (some .int) 3) (hq : RI k q) (M : Mem) (l1 : Int32) (l2 : Int32)  : GG k q (wM k M) 0 [(0, .ref (kh k + 0)), (1, .int l1), (2, .int l2)] [] (f_X7_layer M l1 l2) := by
  unfold f_X7_layer
  refine GG_iload_n hk (pc' := 1) 1 dX7_layer_0 rfl rfl rfl ?_
  refine GG_callSi hk (st := []) (pc' := 4) mf_X7_noLayer tw_441 (c_X7_noLayer _ _ _ M l1 ) (by omega) tw_480 rfl rfl (Nat.le_of_ble_eq_true rfl) dX7_layer_1 rfl (fun z1 e_z1 => ?_)
  refine GG_if_eq hk 13 (pc' := 7) dX7_layer_4 rfl (by decide) (fun c2 => ?_) (fun c2 => ?_)
  · refine GG_iload_n hk (pc' := 14) 2 dX7_layer_13 rfl rfl rfl ?_
    refine GG_if (fun c3 => ?_) (fun c3 => ?_)
    · refine GG_tabIn hk 52 0 c3 dX7_layer_14 (by decide) (by decide) rfl (by decide) ?_
      refine GG_aload_n hk (pc' := 53) 0 dX7_layer_52 rfl rfl rfl ?_
      refine GG_get hk LC7 0 (v := .ref (kh k + 1)) (pc' := 56) tw_298 rfl rfl (by decide) rfl dX7_layer_53 rfl ?_
      refine GG_iload_n hk (pc' := 57) 1 dX7_layer_56 rfl rfl rfl ?_
      refine GG_callVi hk (st := []) (pc' := 60) mf_X4_isOn mv_X4_isOn LC4 rfl (c_X4_isOn _ _ _ z1.2 1 l1 okS_1) (by omega) tw_482 (kdS okS_1) rfl rfl (Nat.le_of_ble_eq_true rfl) dX7_layer_57 rfl (fun z4 e_z4 => ?_)
      refine GG_if_eq hk 67 (pc' := 63) dX7_layer_60 rfl (by decide) (fun c5 => ?_) (fun c5 => ?_)
      · refine GG_iconst hk (pc' := 68) 0 dX7_layer_67 rfl rfl ?_
        exact GG_iret hk hq dX7_layer_68
      · refine GG_iconst hk (pc' := 64) 1 dX7_layer_63 rfl rfl ?_
        refine GG_goto hk 68 dX7_layer_64 (by decide) ?_
        exact GG_iret hk hq dX7_layer_68
    · refine GG_if (fun c6 => ?_) (fun c6 => ?_)
      · refine GG_tabIn hk 69 1 c6 dX7_layer_14 (by decide) (by decide) rfl (by decide) ?_
        refine GG_aload_n hk (pc' := 70) 0 dX7_layer_69 rfl rfl rfl ?_
        refine GG_get hk LC7 0 (v := .ref (kh k + 1)) (pc' := 73) tw_298 rfl rfl (by decide) rfl dX7_layer_70 rfl ?_
        refine GG_get hk LC4 1 (v := .ref (kh k + 2)) (pc' := 76) tw_47 rfl (kdS okS_1) (by decide) rfl dX7_layer_73 rfl ?_
        refine GG_iload_n hk (pc' := 77) 1 dX7_layer_76 rfl rfl rfl ?_
        refine GG_iald hk (pc' := 78) rfl rfl dX7_layer_77 rfl (fun v7 e_v7 => ?_)
        exact GG_iret hk hq dX7_layer_78
      · refine GG_if (fun c8 => ?_) (fun c8 => ?_)
        · refine GG_tabIn hk 79 2 c8 dX7_layer_14 (by decide) (by decide) rfl (by decide) ?_
          refine GG_aload_n hk (pc' := 80) 0 dX7_layer_79 rfl rfl rfl ?_
          refine GG_get hk LC7 0 (v := .ref (kh k + 1)) (pc' := 83) tw_298 rfl rfl (by decide) rfl dX7_layer_80 rfl ?_
          refine GG_get hk LC4 2 (v := .ref (kh k + 3)) (pc' := 86) tw_50 rfl (kdS okS_1) (by decide) rfl dX7_layer_83 rfl ?_
          refine GG_iload_n hk (pc' := 87) 1 dX7_layer_86 rfl rfl rfl ?_
          refine GG_iald hk (pc' := 88) rfl rfl dX7_layer_87 rfl (fun v9 e_v9 => ?_)
          exact GG_iret hk hq dX7_layer_88
        · refine GG_if (fun c10 => ?_) (fun c10 => ?_)
          · refine GG_tabIn hk 89 3 c10 dX7_layer_14 (by decide) (by decide) rfl (by decide) ?_
            refine GG_aload_n hk (pc' := 90) 0 dX7_layer_89 rfl rfl rfl ?_
            refine GG_get hk LC7 0 (v := .ref (kh k + 1)) (pc' := 93) tw_298 rfl rfl (by decide) rfl dX7_layer_90 rfl ?_
            refine GG_iload_n hk (pc' := 94) 1 dX7_layer_93 rfl rfl rfl ?_
            refine GG_callVi hk (st := []) (pc' := 97) mf_X4_rank mv_X4_rank LC4 rfl (c_X4_rank _ _ _ z1.2 1 l1 okS_1) (by omega) tw_550 (kdS okS_1) rfl rfl (Nat.le_of_ble_eq_true rfl) dX7_layer_94 rfl (fun z11 e_z11 => ?_)
            refine GG_bipush hk (pc' := 99) 100 dX7_layer_97 rfl rfl ?_
            refine GG_iadd hk (pc' := 100) dX7_layer_99 rfl ?_
            exact GG_iret hk hq dX7_layer_100
          · refine GG_if (fun c12 => ?_) (fun c12 => ?_)
            · refine GG_tabIn hk 101 4 c12 dX7_layer_14 (by decide) (by decide) rfl (by decide) ?_
              refine GG_aload_n hk (pc' := 102) 0 dX7_layer_101 rfl rfl rfl ?_
              refine GG_get hk LC7 0 (v := .ref (kh k + 1)) (pc' := 105) tw_298 rfl rfl (by decide) rfl dX7_layer_102 rfl ?_
              refine GG_iload_n hk (pc' := 106) 1 dX7_layer_105 rfl rfl rfl ?_
              refine GG_callVi hk (st := []) (pc' := 109) mf_X4_keyBits mv_X4_keyBits LC4 rfl (c_X4_keyBits _ _ _ z1.2 1 l1 okS_1) (by omega) tw_535 (kdS okS_1) rfl rfl (Nat.le_of_ble_eq_true rfl) dX7_layer_106 rfl (fun z13 e_z13 => ?_)
              exact GG_iret hk hq dX7_layer_109
            · refine GG_if (fun c14 => ?_) (fun c14 => ?_)
              · refine GG_tabIn hk 110 5 c14 dX7_layer_14 (by decide) (by decide) rfl (by decide) ?_
                refine GG_aload_n hk (pc' := 111) 0 dX7_layer_110 rfl rfl rfl ?_
                refine GG_get hk LC7 0 (v := .ref (kh k + 1)) (pc' := 114) tw_298 rfl rfl (by decide) rfl dX7_layer_111 rfl ?_
                refine GG_iload_n hk (pc' := 115) 1 dX7_layer_114 rfl rfl rfl ?_
                refine GG_callVi hk (st := []) (pc' := 118) mf_X4_howManyBehind mv_X4_howManyBehind LC4 rfl (c_X4_howManyBehind _ _ _ z1.2 1 l1 okS_1) (by omega) tw_551 (kdS okS_1) rfl rfl (Nat.le_of_ble_eq_true rfl) dX7_layer_115 rfl (fun z15 e_z15 => ?_)
                exact GG_iret hk hq dX7_layer_118
              · refine GG_tabOut hk 119 dX7_layer_14 (sw_out_0_5 c3 c6 c8 c10 c12 c14) (by decide) ?_
                refine GG_aload_n hk (pc' := 120) 0 dX7_layer_119 rfl rfl rfl ?_
                refine GG_bipush hk (pc' := 122) (-2) dX7_layer_120 rfl rfl ?_
                refine GG_callVi hk (st := []) (pc' := 125) mf_X7_refuse mv_X7_refuse LC7 rfl (c_X7_refuse _ _ _ z1.2 (-2) ) (by omega) tw_333 rfl rfl rfl (Nat.le_of_ble_eq_true rfl) dX7_layer_122 rfl (fun z16 e_z16 => ?_)
                exact GG_iret hk hq dX7_layer_125
  · refine GG_aload_n hk (pc' := 8) 0 dX7_layer_7 rfl rfl rfl ?_
    refine GG_iconst hk (pc' := 9) (-1) dX7_layer_8 rfl rfl ?_
    refine GG_callVi hk (st := []) (pc' := 12) mf_X7_refuse mv_X7_refuse LC7 rfl (c_X7_refuse _ _ _ z1.2 (-1) ) (by omega) tw_333 rfl rfl rfl (Nat.le_of_ble_eq_true rfl) dX7_layer_9 rfl (fun z17 e_z17 => ?_)
    exact GG_iret hk hq dX7_layer_12
theorem c_X7_layer (l : Launch) (C : DD) (a : Nat) (M : Mem) (l1 : Int32) (l2 : Int32)  : CI l C (a) yX7_layer cX7_layer 3 .int 3 [.ref (a + 0), .int l1, .int l2] M (f_X7_layer M l1 l2) := by
  refine CI_of RX7 (by decide +kernel) rfl (Nat.le_of_ble_eq_true rfl) (fun k q hk hq e1 e2 e3 => ?_)
  subst e1; subst e2; subst e3
  exact m_X7_layer hk hq M l1 l2 

/-! SettingsInLayers.entry(III)I -/
noncomputable def f_X7_entry (M : Mem) (l1 : Int32) (l2 : Int32) (l3 : Int32) : Option (Int32 × Mem) :=
    Option.bind (f_X7_noEntry M l1 l2) fun z1 =>
    if z1.1 = 0 then
      Option.bind (f_X7_slotOf z1.2 l1 l2) fun z3 =>
      if l3 = 0 then
        Option.bind (rd 48 (z3.2 6) z3.1) fun v5 =>
        some (v5, z3.2)
      else
        if l3 = 1 then
          Option.bind (rd 48 (z3.2 7) z3.1) fun v7 =>
          some (v7, z3.2)
        else
          if l3 = 2 then
            Option.bind (rd 48 (z3.2 8) z3.1) fun v9 =>
            some (v9, z3.2)
          else
            Option.bind (f_X7_refuse z3.2 (-2)) fun z10 =>
            some (z10.1, z10.2)
    else
      Option.bind (f_X7_refuse z1.2 (-1)) fun z11 =>
      some (z11.1, z11.2)
set_option maxRecDepth 20000 in
theorem m_X7_entry {k : KT} {q : Int32 × Mem} (hk : CX k cX7_entry RX7 5 (some .int) 3) (hq : RI k q) (M : Mem) (l1 : Int32) (l2 : Int32) (l3 : Int32)  : GG k q (wM k M) 0 [(0, .ref (kh k + 0)), (1, .int l1), (2, .int l2), (3, .int l3)] [] (f_X7_entry M l1 l2 l3) := by
  unfold f_X7_entry
  refine GG_aload_n hk (pc' := 1) 0 dX7_entry_0 rfl rfl rfl ?_
  refine GG_iload_n hk (pc' := 2) 1 dX7_entry_1 rfl rfl rfl ?_
  refine GG_iload_n hk (pc' := 3) 2 dX7_entry_2 rfl rfl rfl ?_
  refine GG_callVi hk (st := []) (pc' := 6) mf_X7_noEntry mv_X7_noEntry LC7 rfl (c_X7_noEntry _ _ _ M l1 l2 ) (by omega) tw_530 rfl rfl rfl (Nat.le_of_ble_eq_true rfl) dX7_entry_3 rfl (fun z1 e_z1 => ?_)
  refine GG_if_eq hk 15 (pc' := 9) dX7_entry_6 rfl (by decide) (fun c2 => ?_) (fun c2 => ?_)
  · refine GG_iload_n hk (pc' := 16) 1 dX7_entry_15 rfl rfl rfl ?_
    refine GG_iload_n hk (pc' := 17) 2 dX7_entry_16 rfl rfl rfl ?_
    refine GG_callSi hk (st := []) (pc' := 20) mf_X7_slotOf tw_460 (c_X7_slotOf _ _ _ z1.2 l1 l2 ) (by omega) tw_507 rfl rfl (Nat.le_of_ble_eq_true rfl) dX7_entry_17 rfl (fun z3 e_z3 => ?_)
    refine GG_istore hk (pc' := 22) [(4, .int z3.1), (0, .ref (kh k + 0)), (1, .int l1), (2, .int l2), (3, .int l3)] dX7_entry_20 rfl (by decide) rfl ?_
    refine GG_iload_n hk (pc' := 23) 4 dX7_entry_22 rfl rfl rfl ?_
    refine GG_if (fun c4 => ?_) (fun c4 => ?_)
    · refine GG_tabIn hk 48 0 c4 dX7_entry_23 (by decide) (by decide) rfl (by decide) ?_
      refine GG_aload_n hk (pc' := 49) 1 dX7_entry_48 rfl rfl rfl ?_
      refine GG_get hk LC7 0 (v := .ref (kh k + 1)) (pc' := 52) tw_298 rfl rfl (by decide) rfl dX7_entry_49 rfl ?_
      refine GG_get hk LC4 5 (v := .ref (kh k + 6)) (pc' := 55) tw_61 rfl (kdS okS_1) (by decide) rfl dX7_entry_52 rfl ?_
      refine GG_iload hk (pc' := 57) 0 dX7_entry_55 rfl rfl ?_
      refine GG_iald hk (pc' := 58) rfl rfl dX7_entry_57 rfl (fun v5 e_v5 => ?_)
      exact GG_iret hk hq dX7_entry_58
    · refine GG_if (fun c6 => ?_) (fun c6 => ?_)
      · refine GG_tabIn hk 59 1 c6 dX7_entry_23 (by decide) (by decide) rfl (by decide) ?_
        refine GG_aload_n hk (pc' := 60) 1 dX7_entry_59 rfl rfl rfl ?_
        refine GG_get hk LC7 0 (v := .ref (kh k + 1)) (pc' := 63) tw_298 rfl rfl (by decide) rfl dX7_entry_60 rfl ?_
        refine GG_get hk LC4 6 (v := .ref (kh k + 7)) (pc' := 66) tw_63 rfl (kdS okS_1) (by decide) rfl dX7_entry_63 rfl ?_
        refine GG_iload hk (pc' := 68) 0 dX7_entry_66 rfl rfl ?_
        refine GG_iald hk (pc' := 69) rfl rfl dX7_entry_68 rfl (fun v7 e_v7 => ?_)
        exact GG_iret hk hq dX7_entry_69
      · refine GG_if (fun c8 => ?_) (fun c8 => ?_)
        · refine GG_tabIn hk 70 2 c8 dX7_entry_23 (by decide) (by decide) rfl (by decide) ?_
          refine GG_aload_n hk (pc' := 71) 1 dX7_entry_70 rfl rfl rfl ?_
          refine GG_get hk LC7 0 (v := .ref (kh k + 1)) (pc' := 74) tw_298 rfl rfl (by decide) rfl dX7_entry_71 rfl ?_
          refine GG_get hk LC4 7 (v := .ref (kh k + 8)) (pc' := 77) tw_67 rfl (kdS okS_1) (by decide) rfl dX7_entry_74 rfl ?_
          refine GG_iload hk (pc' := 79) 0 dX7_entry_77 rfl rfl ?_
          refine GG_iald hk (pc' := 80) rfl rfl dX7_entry_79 rfl (fun v9 e_v9 => ?_)
          exact GG_iret hk hq dX7_entry_80
        · refine GG_tabOut hk 81 dX7_entry_23 (sw_out_0_2 c4 c6 c8) (by decide) ?_
          refine GG_aload_n hk (pc' := 82) 1 dX7_entry_81 rfl rfl rfl ?_
          refine GG_bipush hk (pc' := 84) (-2) dX7_entry_82 rfl rfl ?_
          refine GG_callVi hk (st := []) (pc' := 87) mf_X7_refuse mv_X7_refuse LC7 rfl (c_X7_refuse _ _ _ z3.2 (-2) ) (by omega) tw_333 rfl rfl rfl (Nat.le_of_ble_eq_true rfl) dX7_entry_84 rfl (fun z10 e_z10 => ?_)
          exact GG_iret hk hq dX7_entry_87
  · refine GG_aload_n hk (pc' := 10) 0 dX7_entry_9 rfl rfl rfl ?_
    refine GG_iconst hk (pc' := 11) (-1) dX7_entry_10 rfl rfl ?_
    refine GG_callVi hk (st := []) (pc' := 14) mf_X7_refuse mv_X7_refuse LC7 rfl (c_X7_refuse _ _ _ z1.2 (-1) ) (by omega) tw_333 rfl rfl rfl (Nat.le_of_ble_eq_true rfl) dX7_entry_11 rfl (fun z11 e_z11 => ?_)
    exact GG_iret hk hq dX7_entry_14
theorem c_X7_entry (l : Launch) (C : DD) (a : Nat) (M : Mem) (l1 : Int32) (l2 : Int32) (l3 : Int32)  : CI l C (a) yX7_entry cX7_entry 5 .int 3 [.ref (a + 0), .int l1, .int l2, .int l3] M (f_X7_entry M l1 l2 l3) := by
  refine CI_of RX7 (by decide +kernel) rfl (Nat.le_of_ble_eq_true rfl) (fun k q hk hq e1 e2 e3 => ?_)
  subst e1; subst e2; subst e3
  exact m_X7_entry hk hq M l1 l2 l3 

/-! SettingsInLayers.value(II)I -/
noncomputable def f_X7_value (M : Mem) (l1 : Int32) (l2 : Int32) : Option (Int32 × Mem) :=
    Option.bind (f_X7_noKey M l1) fun z1 =>
    if z1.1 = 0 then
      if l2 < 0 then
        Option.bind (f_X7_refuse z1.2 (-2)) fun z4 =>
        some (z4.1, z4.2)
      else
        if l2 ≤ 3 then
          Option.bind (f_X2_ask z1.2 1 l1) fun z6 =>
          if l2 = 0 then
            some ((z6 34 0), z6)
          else
            if l2 = 1 then
              if ¬ (z6 34 0) = 2 then
                some ((z6 34 1), z6)
              else
                Option.bind (rd 9 (z6 38) 0) fun v10 =>
                some (v10, z6)
            else
              if l2 = 2 then
                some ((z6 34 8), z6)
              else
                some ((z6 34 9), z6)
        else
          Option.bind (f_X7_refuse z1.2 (-2)) fun z12 =>
          some (z12.1, z12.2)
    else
      Option.bind (f_X7_refuse z1.2 (-1)) fun z13 =>
      some (z13.1, z13.2)
set_option maxRecDepth 20000 in
theorem m_X7_value {k : KT} {q : Int32 × Mem} (hk : CX k cX7_value RX7 4 (some .int) 132) (hq : RI k q) (M : Mem) (l1 : Int32) (l2 : Int32)  : GG k q (wM k M) 0 [(0, .ref (kh k + 0)), (1, .int l1), (2, .int l2)] [] (f_X7_value M l1 l2) := by
  unfold f_X7_value
  refine GG_iload_n hk (pc' := 1) 1 dX7_value_0 rfl rfl rfl ?_
  refine GG_callSi hk (st := []) (pc' := 4) mf_X7_noKey tw_386 (c_X7_noKey _ _ _ M l1 ) (by omega) tw_498 rfl rfl (Nat.le_of_ble_eq_true rfl) dX7_value_1 rfl (fun z1 e_z1 => ?_)
  refine GG_if_eq hk 13 (pc' := 7) dX7_value_4 rfl (by decide) (fun c2 => ?_) (fun c2 => ?_)
  · refine GG_iload_n hk (pc' := 14) 2 dX7_value_13 rfl rfl rfl ?_
    refine GG_if_lt hk 22 (pc' := 17) dX7_value_14 rfl (by decide) (fun c3 => ?_) (fun c3 => ?_)
    · refine GG_aload_n hk (pc' := 23) 0 dX7_value_22 rfl rfl rfl ?_
      refine GG_bipush hk (pc' := 25) (-2) dX7_value_23 rfl rfl ?_
      refine GG_callVi hk (st := []) (pc' := 28) mf_X7_refuse mv_X7_refuse LC7 rfl (c_X7_refuse _ _ _ z1.2 (-2) ) (by omega) tw_333 rfl rfl rfl (Nat.le_of_ble_eq_true rfl) dX7_value_25 rfl (fun z4 e_z4 => ?_)
      exact GG_iret hk hq dX7_value_28
    · refine GG_iload_n hk (pc' := 18) 2 dX7_value_17 rfl rfl rfl ?_
      refine GG_iconst hk (pc' := 19) 3 dX7_value_18 rfl rfl ?_
      refine GG_icmp_le hk 29 (pc' := 22) dX7_value_19 rfl (by decide) (fun c5 => ?_) (fun c5 => ?_)
      · refine GG_aload_n hk (pc' := 30) 0 dX7_value_29 rfl rfl rfl ?_
        refine GG_get hk LC7 3 (v := .ref (kh k + 31)) (pc' := 33) tw_301 rfl rfl (by decide) rfl dX7_value_30 rfl ?_
        refine GG_aload_n hk (pc' := 34) 0 dX7_value_33 rfl rfl rfl ?_
        refine GG_get hk LC7 0 (v := .ref (kh k + 1)) (pc' := 37) tw_298 rfl rfl (by decide) rfl dX7_value_34 rfl ?_
        refine GG_iload_n hk (pc' := 38) 1 dX7_value_37 rfl rfl rfl ?_
        refine GG_callVr hk (st := []) (pc' := 41) mf_X2_ask mv_X2_ask LC2 rfl (c_X2_ask _ _ _ z1.2 1 l1 okS_1) (by omega) tw_563 rfl rfl rfl (Nat.le_of_ble_eq_true rfl) dX7_value_38 rfl (fun z6 e_z6 => ?_)
        refine GG_astore_n hk (pc' := 42) [(3, .ref (kh k + 34)), (0, .ref (kh k + 0)), (1, .int l1), (2, .int l2)] dX7_value_41 rfl rfl (by decide) rfl ?_
        refine GG_iload_n hk (pc' := 43) 3 dX7_value_42 rfl rfl rfl ?_
        refine GG_if (fun c7 => ?_) (fun c7 => ?_)
        · refine GG_tabIn hk 68 0 c7 dX7_value_43 (by decide) (by decide) rfl (by decide) ?_
          refine GG_aload_n hk (pc' := 69) 0 dX7_value_68 rfl rfl rfl ?_
          refine GG_get hk LC1 0 (v := .int (z6 34 0)) (pc' := 72) tw_109 rfl (kdO okO_34) (by decide) rfl dX7_value_69 rfl ?_
          exact GG_iret hk hq dX7_value_72
        · refine GG_if (fun c8 => ?_) (fun c8 => ?_)
          · refine GG_tabIn hk 73 1 c8 dX7_value_43 (by decide) (by decide) rfl (by decide) ?_
            refine GG_aload_n hk (pc' := 74) 0 dX7_value_73 rfl rfl rfl ?_
            refine GG_get hk LC1 0 (v := .int (z6 34 0)) (pc' := 77) tw_109 rfl (kdO okO_34) (by decide) rfl dX7_value_74 rfl ?_
            refine GG_iconst hk (pc' := 78) 2 dX7_value_77 rfl rfl ?_
            refine GG_icmp_ne hk 90 (pc' := 81) dX7_value_78 rfl (by decide) (fun c9 => ?_) (fun c9 => ?_)
            · refine GG_aload_n hk (pc' := 91) 0 dX7_value_90 rfl rfl rfl ?_
              refine GG_get hk LC1 1 (v := .int (z6 34 1)) (pc' := 94) tw_112 rfl (kdO okO_34) (by decide) rfl dX7_value_91 rfl ?_
              exact GG_iret hk hq dX7_value_94
            · refine GG_aload_n hk (pc' := 82) 0 dX7_value_81 rfl rfl rfl ?_
              refine GG_get hk LC1 6 (v := .ref (kh k + 38)) (pc' := 85) tw_126 rfl (kdO okO_34) (by decide) rfl dX7_value_82 rfl ?_
              refine GG_iconst hk (pc' := 86) 0 dX7_value_85 rfl rfl ?_
              refine GG_iald hk (pc' := 87) rfl rfl dX7_value_86 rfl (fun v10 e_v10 => ?_)
              refine GG_goto hk 94 dX7_value_87 (by decide) ?_
              exact GG_iret hk hq dX7_value_94
          · refine GG_if (fun c11 => ?_) (fun c11 => ?_)
            · refine GG_tabIn hk 95 2 c11 dX7_value_43 (by decide) (by decide) rfl (by decide) ?_
              refine GG_aload_n hk (pc' := 96) 0 dX7_value_95 rfl rfl rfl ?_
              refine GG_get hk LC1 8 (v := .int (z6 34 8)) (pc' := 99) tw_132 rfl (kdO okO_34) (by decide) rfl dX7_value_96 rfl ?_
              exact GG_iret hk hq dX7_value_99
            · refine GG_tabOut hk 100 dX7_value_43 (sw_out_0_2 c7 c8 c11) (by decide) ?_
              refine GG_aload_n hk (pc' := 101) 0 dX7_value_100 rfl rfl rfl ?_
              refine GG_get hk LC1 9 (v := .int (z6 34 9)) (pc' := 104) tw_134 rfl (kdO okO_34) (by decide) rfl dX7_value_101 rfl ?_
              exact GG_iret hk hq dX7_value_104
      · refine GG_aload_n hk (pc' := 23) 0 dX7_value_22 rfl rfl rfl ?_
        refine GG_bipush hk (pc' := 25) (-2) dX7_value_23 rfl rfl ?_
        refine GG_callVi hk (st := []) (pc' := 28) mf_X7_refuse mv_X7_refuse LC7 rfl (c_X7_refuse _ _ _ z1.2 (-2) ) (by omega) tw_333 rfl rfl rfl (Nat.le_of_ble_eq_true rfl) dX7_value_25 rfl (fun z12 e_z12 => ?_)
        exact GG_iret hk hq dX7_value_28
  · refine GG_aload_n hk (pc' := 8) 0 dX7_value_7 rfl rfl rfl ?_
    refine GG_iconst hk (pc' := 9) (-1) dX7_value_8 rfl rfl ?_
    refine GG_callVi hk (st := []) (pc' := 12) mf_X7_refuse mv_X7_refuse LC7 rfl (c_X7_refuse _ _ _ z1.2 (-1) ) (by omega) tw_333 rfl rfl rfl (Nat.le_of_ble_eq_true rfl) dX7_value_9 rfl (fun z13 e_z13 => ?_)
    exact GG_iret hk hq dX7_value_12
theorem c_X7_value (l : Launch) (C : DD) (a : Nat) (M : Mem) (l1 : Int32) (l2 : Int32)  : CI l C (a) yX7_value cX7_value 4 .int 132 [.ref (a + 0), .int l1, .int l2] M (f_X7_value M l1 l2) := by
  refine CI_of RX7 (by decide +kernel) rfl (Nat.le_of_ble_eq_true rfl) (fun k q hk hq e1 e2 e3 => ?_)
  subst e1; subst e2; subst e3
  exact m_X7_value hk hq M l1 l2 

/-! SettingsInLayers.item(III)I -/
noncomputable def f_X7_item (M : Mem) (l1 : Int32) (l2 : Int32) (l3 : Int32) : Option (Int32 × Mem) :=
    Option.bind (f_X7_noKey M l1) fun z1 =>
    if z1.1 = 0 then
      Option.bind (f_X2_ask z1.2 1 l1) fun z3 =>
      if ¬ (z3 34 0) = 1 then
        Option.bind (f_X7_refuse z3 (-1)) fun z5 =>
        some (z5.1, z5.2)
      else
        if l2 < 0 then
          Option.bind (f_X7_refuse z3 (-1)) fun z7 =>
          some (z7.1, z7.2)
        else
          if l2 < (z3 34 1) then
            if l3 = 0 then
              Option.bind (rd 10 (z3 35) l2) fun v10 =>
              some (v10, z3)
            else
              if l3 = 1 then
                Option.bind (rd 10 (z3 36) l2) fun v12 =>
                some (v12, z3)
              else
                if l3 = 2 then
                  Option.bind (rd 10 (z3 37) l2) fun v14 =>
                  some (v14, z3)
                else
                  Option.bind (f_X7_refuse z3 (-2)) fun z15 =>
                  some (z15.1, z15.2)
          else
            Option.bind (f_X7_refuse z3 (-1)) fun z16 =>
            some (z16.1, z16.2)
    else
      Option.bind (f_X7_refuse z1.2 (-1)) fun z17 =>
      some (z17.1, z17.2)
set_option maxRecDepth 20000 in
theorem m_X7_item {k : KT} {q : Int32 × Mem} (hk : CX k cX7_item RX7 5 (some .int) 132) (hq : RI k q) (M : Mem) (l1 : Int32) (l2 : Int32) (l3 : Int32)  : GG k q (wM k M) 0 [(0, .ref (kh k + 0)), (1, .int l1), (2, .int l2), (3, .int l3)] [] (f_X7_item M l1 l2 l3) := by
  unfold f_X7_item
  refine GG_iload_n hk (pc' := 1) 1 dX7_item_0 rfl rfl rfl ?_
  refine GG_callSi hk (st := []) (pc' := 4) mf_X7_noKey tw_386 (c_X7_noKey _ _ _ M l1 ) (by omega) tw_498 rfl rfl (Nat.le_of_ble_eq_true rfl) dX7_item_1 rfl (fun z1 e_z1 => ?_)
  refine GG_if_eq hk 13 (pc' := 7) dX7_item_4 rfl (by decide) (fun c2 => ?_) (fun c2 => ?_)
  · refine GG_aload_n hk (pc' := 14) 0 dX7_item_13 rfl rfl rfl ?_
    refine GG_get hk LC7 3 (v := .ref (kh k + 31)) (pc' := 17) tw_301 rfl rfl (by decide) rfl dX7_item_14 rfl ?_
    refine GG_aload_n hk (pc' := 18) 0 dX7_item_17 rfl rfl rfl ?_
    refine GG_get hk LC7 0 (v := .ref (kh k + 1)) (pc' := 21) tw_298 rfl rfl (by decide) rfl dX7_item_18 rfl ?_
    refine GG_iload_n hk (pc' := 22) 1 dX7_item_21 rfl rfl rfl ?_
    refine GG_callVr hk (st := []) (pc' := 25) mf_X2_ask mv_X2_ask LC2 rfl (c_X2_ask _ _ _ z1.2 1 l1 okS_1) (by omega) tw_563 rfl rfl rfl (Nat.le_of_ble_eq_true rfl) dX7_item_22 rfl (fun z3 e_z3 => ?_)
    refine GG_astore hk (pc' := 27) [(4, .ref (kh k + 34)), (0, .ref (kh k + 0)), (1, .int l1), (2, .int l2), (3, .int l3)] dX7_item_25 rfl (by decide) rfl ?_
    refine GG_aload hk (pc' := 29) 0 dX7_item_27 rfl rfl ?_
    refine GG_get hk LC1 0 (v := .int (z3 34 0)) (pc' := 32) tw_109 rfl (kdO okO_34) (by decide) rfl dX7_item_29 rfl ?_
    refine GG_iconst hk (pc' := 33) 1 dX7_item_32 rfl rfl ?_
    refine GG_icmp_ne hk 49 (pc' := 36) dX7_item_33 rfl (by decide) (fun c4 => ?_) (fun c4 => ?_)
    · refine GG_aload_n hk (pc' := 50) 1 dX7_item_49 rfl rfl rfl ?_
      refine GG_iconst hk (pc' := 51) (-1) dX7_item_50 rfl rfl ?_
      refine GG_callVi hk (st := []) (pc' := 54) mf_X7_refuse mv_X7_refuse LC7 rfl (c_X7_refuse _ _ _ z3 (-1) ) (by omega) tw_333 rfl rfl rfl (Nat.le_of_ble_eq_true rfl) dX7_item_51 rfl (fun z5 e_z5 => ?_)
      exact GG_iret hk hq dX7_item_54
    · refine GG_iload_n hk (pc' := 37) 3 dX7_item_36 rfl rfl rfl ?_
      refine GG_if_lt hk 49 (pc' := 40) dX7_item_37 rfl (by decide) (fun c6 => ?_) (fun c6 => ?_)
      · refine GG_aload_n hk (pc' := 50) 1 dX7_item_49 rfl rfl rfl ?_
        refine GG_iconst hk (pc' := 51) (-1) dX7_item_50 rfl rfl ?_
        refine GG_callVi hk (st := []) (pc' := 54) mf_X7_refuse mv_X7_refuse LC7 rfl (c_X7_refuse _ _ _ z3 (-1) ) (by omega) tw_333 rfl rfl rfl (Nat.le_of_ble_eq_true rfl) dX7_item_51 rfl (fun z7 e_z7 => ?_)
        exact GG_iret hk hq dX7_item_54
      · refine GG_iload_n hk (pc' := 41) 3 dX7_item_40 rfl rfl rfl ?_
        refine GG_aload hk (pc' := 43) 0 dX7_item_41 rfl rfl ?_
        refine GG_get hk LC1 1 (v := .int (z3 34 1)) (pc' := 46) tw_112 rfl (kdO okO_34) (by decide) rfl dX7_item_43 rfl ?_
        refine GG_icmp_lt hk 55 (pc' := 49) dX7_item_46 rfl (by decide) (fun c8 => ?_) (fun c8 => ?_)
        · refine GG_iload_n hk (pc' := 56) 4 dX7_item_55 rfl rfl rfl ?_
          refine GG_if (fun c9 => ?_) (fun c9 => ?_)
          · refine GG_tabIn hk 84 0 c9 dX7_item_56 (by decide) (by decide) rfl (by decide) ?_
            refine GG_aload hk (pc' := 86) 0 dX7_item_84 rfl rfl ?_
            refine GG_get hk LC1 2 (v := .ref (kh k + 35)) (pc' := 89) tw_115 rfl (kdO okO_34) (by decide) rfl dX7_item_86 rfl ?_
            refine GG_iload_n hk (pc' := 90) 3 dX7_item_89 rfl rfl rfl ?_
            refine GG_iald hk (pc' := 91) rfl rfl dX7_item_90 rfl (fun v10 e_v10 => ?_)
            exact GG_iret hk hq dX7_item_91
          · refine GG_if (fun c11 => ?_) (fun c11 => ?_)
            · refine GG_tabIn hk 92 1 c11 dX7_item_56 (by decide) (by decide) rfl (by decide) ?_
              refine GG_aload hk (pc' := 94) 0 dX7_item_92 rfl rfl ?_
              refine GG_get hk LC1 3 (v := .ref (kh k + 36)) (pc' := 97) tw_118 rfl (kdO okO_34) (by decide) rfl dX7_item_94 rfl ?_
              refine GG_iload_n hk (pc' := 98) 3 dX7_item_97 rfl rfl rfl ?_
              refine GG_iald hk (pc' := 99) rfl rfl dX7_item_98 rfl (fun v12 e_v12 => ?_)
              exact GG_iret hk hq dX7_item_99
            · refine GG_if (fun c13 => ?_) (fun c13 => ?_)
              · refine GG_tabIn hk 100 2 c13 dX7_item_56 (by decide) (by decide) rfl (by decide) ?_
                refine GG_aload hk (pc' := 102) 0 dX7_item_100 rfl rfl ?_
                refine GG_get hk LC1 4 (v := .ref (kh k + 37)) (pc' := 105) tw_120 rfl (kdO okO_34) (by decide) rfl dX7_item_102 rfl ?_
                refine GG_iload_n hk (pc' := 106) 3 dX7_item_105 rfl rfl rfl ?_
                refine GG_iald hk (pc' := 107) rfl rfl dX7_item_106 rfl (fun v14 e_v14 => ?_)
                exact GG_iret hk hq dX7_item_107
              · refine GG_tabOut hk 108 dX7_item_56 (sw_out_0_2 c9 c11 c13) (by decide) ?_
                refine GG_aload_n hk (pc' := 109) 1 dX7_item_108 rfl rfl rfl ?_
                refine GG_bipush hk (pc' := 111) (-2) dX7_item_109 rfl rfl ?_
                refine GG_callVi hk (st := []) (pc' := 114) mf_X7_refuse mv_X7_refuse LC7 rfl (c_X7_refuse _ _ _ z3 (-2) ) (by omega) tw_333 rfl rfl rfl (Nat.le_of_ble_eq_true rfl) dX7_item_111 rfl (fun z15 e_z15 => ?_)
                exact GG_iret hk hq dX7_item_114
        · refine GG_aload_n hk (pc' := 50) 1 dX7_item_49 rfl rfl rfl ?_
          refine GG_iconst hk (pc' := 51) (-1) dX7_item_50 rfl rfl ?_
          refine GG_callVi hk (st := []) (pc' := 54) mf_X7_refuse mv_X7_refuse LC7 rfl (c_X7_refuse _ _ _ z3 (-1) ) (by omega) tw_333 rfl rfl rfl (Nat.le_of_ble_eq_true rfl) dX7_item_51 rfl (fun z16 e_z16 => ?_)
          exact GG_iret hk hq dX7_item_54
  · refine GG_aload_n hk (pc' := 8) 0 dX7_item_7 rfl rfl rfl ?_
    refine GG_iconst hk (pc' := 9) (-1) dX7_item_8 rfl rfl ?_
    refine GG_callVi hk (st := []) (pc' := 12) mf_X7_refuse mv_X7_refuse LC7 rfl (c_X7_refuse _ _ _ z1.2 (-1) ) (by omega) tw_333 rfl rfl rfl (Nat.le_of_ble_eq_true rfl) dX7_item_9 rfl (fun z17 e_z17 => ?_)
    exact GG_iret hk hq dX7_item_12
theorem c_X7_item (l : Launch) (C : DD) (a : Nat) (M : Mem) (l1 : Int32) (l2 : Int32) (l3 : Int32)  : CI l C (a) yX7_item cX7_item 5 .int 132 [.ref (a + 0), .int l1, .int l2, .int l3] M (f_X7_item M l1 l2 l3) := by
  refine CI_of RX7 (by decide +kernel) rfl (Nat.le_of_ble_eq_true rfl) (fun k q hk hq e1 e2 e3 => ?_)
  subst e1; subst e2; subst e3
  exact m_X7_item hk hq M l1 l2 l3 

/-! SettingsInLayers.fault(III)I -/
noncomputable def f_X7_fault (M : Mem) (l1 : Int32) (l2 : Int32) (l3 : Int32) : Option (Int32 × Mem) :=
    Option.bind (f_X7_noKey M l1) fun z1 =>
    if z1.1 = 0 then
      Option.bind (f_X2_ask z1.2 1 l1) fun z3 =>
      if ¬ (z3 34 0) = 2 then
        Option.bind (f_X7_refuse z3 (-1)) fun z5 =>
        some (z5.1, z5.2)
      else
        if l2 < 0 then
          Option.bind (f_X7_refuse z3 (-1)) fun z7 =>
          some (z7.1, z7.2)
        else
          if l2 < (z3 34 5) then
            if l3 = 0 then
              Option.bind (rd 9 (z3 38) l2) fun v10 =>
              some (v10, z3)
            else
              if l3 = 1 then
                Option.bind (rd 9 (z3 39) l2) fun v12 =>
                some (v12, z3)
              else
                Option.bind (f_X7_refuse z3 (-2)) fun z13 =>
                some (z13.1, z13.2)
          else
            Option.bind (f_X7_refuse z3 (-1)) fun z14 =>
            some (z14.1, z14.2)
    else
      Option.bind (f_X7_refuse z1.2 (-1)) fun z15 =>
      some (z15.1, z15.2)
set_option maxRecDepth 20000 in
theorem m_X7_fault {k : KT} {q : Int32 × Mem} (hk : CX k cX7_fault RX7 5 (some .int) 132) (hq : RI k q) (M : Mem) (l1 : Int32) (l2 : Int32) (l3 : Int32)  : GG k q (wM k M) 0 [(0, .ref (kh k + 0)), (1, .int l1), (2, .int l2), (3, .int l3)] [] (f_X7_fault M l1 l2 l3) := by
  unfold f_X7_fault
  refine GG_iload_n hk (pc' := 1) 1 dX7_fault_0 rfl rfl rfl ?_
  refine GG_callSi hk (st := []) (pc' := 4) mf_X7_noKey tw_386 (c_X7_noKey _ _ _ M l1 ) (by omega) tw_498 rfl rfl (Nat.le_of_ble_eq_true rfl) dX7_fault_1 rfl (fun z1 e_z1 => ?_)
  refine GG_if_eq hk 13 (pc' := 7) dX7_fault_4 rfl (by decide) (fun c2 => ?_) (fun c2 => ?_)
  · refine GG_aload_n hk (pc' := 14) 0 dX7_fault_13 rfl rfl rfl ?_
    refine GG_get hk LC7 3 (v := .ref (kh k + 31)) (pc' := 17) tw_301 rfl rfl (by decide) rfl dX7_fault_14 rfl ?_
    refine GG_aload_n hk (pc' := 18) 0 dX7_fault_17 rfl rfl rfl ?_
    refine GG_get hk LC7 0 (v := .ref (kh k + 1)) (pc' := 21) tw_298 rfl rfl (by decide) rfl dX7_fault_18 rfl ?_
    refine GG_iload_n hk (pc' := 22) 1 dX7_fault_21 rfl rfl rfl ?_
    refine GG_callVr hk (st := []) (pc' := 25) mf_X2_ask mv_X2_ask LC2 rfl (c_X2_ask _ _ _ z1.2 1 l1 okS_1) (by omega) tw_563 rfl rfl rfl (Nat.le_of_ble_eq_true rfl) dX7_fault_22 rfl (fun z3 e_z3 => ?_)
    refine GG_astore hk (pc' := 27) [(4, .ref (kh k + 34)), (0, .ref (kh k + 0)), (1, .int l1), (2, .int l2), (3, .int l3)] dX7_fault_25 rfl (by decide) rfl ?_
    refine GG_aload hk (pc' := 29) 0 dX7_fault_27 rfl rfl ?_
    refine GG_get hk LC1 0 (v := .int (z3 34 0)) (pc' := 32) tw_109 rfl (kdO okO_34) (by decide) rfl dX7_fault_29 rfl ?_
    refine GG_iconst hk (pc' := 33) 2 dX7_fault_32 rfl rfl ?_
    refine GG_icmp_ne hk 49 (pc' := 36) dX7_fault_33 rfl (by decide) (fun c4 => ?_) (fun c4 => ?_)
    · refine GG_aload_n hk (pc' := 50) 1 dX7_fault_49 rfl rfl rfl ?_
      refine GG_iconst hk (pc' := 51) (-1) dX7_fault_50 rfl rfl ?_
      refine GG_callVi hk (st := []) (pc' := 54) mf_X7_refuse mv_X7_refuse LC7 rfl (c_X7_refuse _ _ _ z3 (-1) ) (by omega) tw_333 rfl rfl rfl (Nat.le_of_ble_eq_true rfl) dX7_fault_51 rfl (fun z5 e_z5 => ?_)
      exact GG_iret hk hq dX7_fault_54
    · refine GG_iload_n hk (pc' := 37) 3 dX7_fault_36 rfl rfl rfl ?_
      refine GG_if_lt hk 49 (pc' := 40) dX7_fault_37 rfl (by decide) (fun c6 => ?_) (fun c6 => ?_)
      · refine GG_aload_n hk (pc' := 50) 1 dX7_fault_49 rfl rfl rfl ?_
        refine GG_iconst hk (pc' := 51) (-1) dX7_fault_50 rfl rfl ?_
        refine GG_callVi hk (st := []) (pc' := 54) mf_X7_refuse mv_X7_refuse LC7 rfl (c_X7_refuse _ _ _ z3 (-1) ) (by omega) tw_333 rfl rfl rfl (Nat.le_of_ble_eq_true rfl) dX7_fault_51 rfl (fun z7 e_z7 => ?_)
        exact GG_iret hk hq dX7_fault_54
      · refine GG_iload_n hk (pc' := 41) 3 dX7_fault_40 rfl rfl rfl ?_
        refine GG_aload hk (pc' := 43) 0 dX7_fault_41 rfl rfl ?_
        refine GG_get hk LC1 5 (v := .int (z3 34 5)) (pc' := 46) tw_123 rfl (kdO okO_34) (by decide) rfl dX7_fault_43 rfl ?_
        refine GG_icmp_lt hk 55 (pc' := 49) dX7_fault_46 rfl (by decide) (fun c8 => ?_) (fun c8 => ?_)
        · refine GG_iload_n hk (pc' := 56) 4 dX7_fault_55 rfl rfl rfl ?_
          refine GG_if (fun c9 => ?_) (fun c9 => ?_)
          · refine GG_look hk 84 dX7_fault_56 (by decide) (off := 28) (by rw [c9]; rfl) (by decide) ?_
            refine GG_aload hk (pc' := 86) 0 dX7_fault_84 rfl rfl ?_
            refine GG_get hk LC1 6 (v := .ref (kh k + 38)) (pc' := 89) tw_126 rfl (kdO okO_34) (by decide) rfl dX7_fault_86 rfl ?_
            refine GG_iload_n hk (pc' := 90) 3 dX7_fault_89 rfl rfl rfl ?_
            refine GG_iald hk (pc' := 91) rfl rfl dX7_fault_90 rfl (fun v10 e_v10 => ?_)
            exact GG_iret hk hq dX7_fault_91
          · refine GG_if (fun c11 => ?_) (fun c11 => ?_)
            · refine GG_look hk 92 dX7_fault_56 (by decide) (off := 36) (by rw [c11]; rfl) (by decide) ?_
              refine GG_aload hk (pc' := 94) 0 dX7_fault_92 rfl rfl ?_
              refine GG_get hk LC1 7 (v := .ref (kh k + 39)) (pc' := 97) tw_129 rfl (kdO okO_34) (by decide) rfl dX7_fault_94 rfl ?_
              refine GG_iload_n hk (pc' := 98) 3 dX7_fault_97 rfl rfl rfl ?_
              refine GG_iald hk (pc' := 99) rfl rfl dX7_fault_98 rfl (fun v12 e_v12 => ?_)
              exact GG_iret hk hq dX7_fault_99
            · refine GG_look hk 100 dX7_fault_56 (by decide) (off := 44) ((lv_osw c9 rfl).trans ((lv_osw c11 rfl).trans rfl)) (by decide) ?_
              refine GG_aload_n hk (pc' := 101) 1 dX7_fault_100 rfl rfl rfl ?_
              refine GG_bipush hk (pc' := 103) (-2) dX7_fault_101 rfl rfl ?_
              refine GG_callVi hk (st := []) (pc' := 106) mf_X7_refuse mv_X7_refuse LC7 rfl (c_X7_refuse _ _ _ z3 (-2) ) (by omega) tw_333 rfl rfl rfl (Nat.le_of_ble_eq_true rfl) dX7_fault_103 rfl (fun z13 e_z13 => ?_)
              exact GG_iret hk hq dX7_fault_106
        · refine GG_aload_n hk (pc' := 50) 1 dX7_fault_49 rfl rfl rfl ?_
          refine GG_iconst hk (pc' := 51) (-1) dX7_fault_50 rfl rfl ?_
          refine GG_callVi hk (st := []) (pc' := 54) mf_X7_refuse mv_X7_refuse LC7 rfl (c_X7_refuse _ _ _ z3 (-1) ) (by omega) tw_333 rfl rfl rfl (Nat.le_of_ble_eq_true rfl) dX7_fault_51 rfl (fun z14 e_z14 => ?_)
          exact GG_iret hk hq dX7_fault_54
  · refine GG_aload_n hk (pc' := 8) 0 dX7_fault_7 rfl rfl rfl ?_
    refine GG_iconst hk (pc' := 9) (-1) dX7_fault_8 rfl rfl ?_
    refine GG_callVi hk (st := []) (pc' := 12) mf_X7_refuse mv_X7_refuse LC7 rfl (c_X7_refuse _ _ _ z1.2 (-1) ) (by omega) tw_333 rfl rfl rfl (Nat.le_of_ble_eq_true rfl) dX7_fault_9 rfl (fun z15 e_z15 => ?_)
    exact GG_iret hk hq dX7_fault_12
theorem c_X7_fault (l : Launch) (C : DD) (a : Nat) (M : Mem) (l1 : Int32) (l2 : Int32) (l3 : Int32)  : CI l C (a) yX7_fault cX7_fault 5 .int 132 [.ref (a + 0), .int l1, .int l2, .int l3] M (f_X7_fault M l1 l2 l3) := by
  refine CI_of RX7 (by decide +kernel) rfl (Nat.le_of_ble_eq_true rfl) (fun k q hk hq e1 e2 e3 => ?_)
  subst e1; subst e2; subst e3
  exact m_X7_fault hk hq M l1 l2 l3 

/-! SettingsInLayers.sources(II)I -/
noncomputable def f_X7_sources (M : Mem) (l1 : Int32) (l2 : Int32) : Option (Int32 × Mem) :=
    Option.bind (f_X7_noKey M l1) fun z1 =>
    if z1.1 = 0 then
      Option.bind (f_X2_ask z1.2 1 l1) fun z3 =>
      if ¬ (z3 34 0) = 2 then
        if l2 = 0 then
          some ((z3 34 11), z3)
        else
          if l2 = 1 then
            some ((z3 34 12), z3)
          else
            Option.bind (f_X7_refuse z3 (-2)) fun z7 =>
            some (z7.1, z7.2)
      else
        Option.bind (f_X7_refuse z3 (-3)) fun z8 =>
        some (z8.1, z8.2)
    else
      Option.bind (f_X7_refuse z1.2 (-1)) fun z9 =>
      some (z9.1, z9.2)
set_option maxRecDepth 20000 in
theorem m_X7_sources {k : KT} {q : Int32 × Mem} (hk : CX k cX7_sources RX7 4 (some .int) 132) (hq : RI k q) (M : Mem) (l1 : Int32) (l2 : Int32)  : GG k q (wM k M) 0 [(0, .ref (kh k + 0)), (1, .int l1), (2, .int l2)] [] (f_X7_sources M l1 l2) := by
  unfold f_X7_sources
  refine GG_iload_n hk (pc' := 1) 1 dX7_sources_0 rfl rfl rfl ?_
  refine GG_callSi hk (st := []) (pc' := 4) mf_X7_noKey tw_386 (c_X7_noKey _ _ _ M l1 ) (by omega) tw_498 rfl rfl (Nat.le_of_ble_eq_true rfl) dX7_sources_1 rfl (fun z1 e_z1 => ?_)
  refine GG_if_eq hk 13 (pc' := 7) dX7_sources_4 rfl (by decide) (fun c2 => ?_) (fun c2 => ?_)
  · refine GG_aload_n hk (pc' := 14) 0 dX7_sources_13 rfl rfl rfl ?_
    refine GG_get hk LC7 3 (v := .ref (kh k + 31)) (pc' := 17) tw_301 rfl rfl (by decide) rfl dX7_sources_14 rfl ?_
    refine GG_aload_n hk (pc' := 18) 0 dX7_sources_17 rfl rfl rfl ?_
    refine GG_get hk LC7 0 (v := .ref (kh k + 1)) (pc' := 21) tw_298 rfl rfl (by decide) rfl dX7_sources_18 rfl ?_
    refine GG_iload_n hk (pc' := 22) 1 dX7_sources_21 rfl rfl rfl ?_
    refine GG_callVr hk (st := []) (pc' := 25) mf_X2_ask mv_X2_ask LC2 rfl (c_X2_ask _ _ _ z1.2 1 l1 okS_1) (by omega) tw_563 rfl rfl rfl (Nat.le_of_ble_eq_true rfl) dX7_sources_22 rfl (fun z3 e_z3 => ?_)
    refine GG_astore_n hk (pc' := 26) [(3, .ref (kh k + 34)), (0, .ref (kh k + 0)), (1, .int l1), (2, .int l2)] dX7_sources_25 rfl rfl (by decide) rfl ?_
    refine GG_aload_n hk (pc' := 27) 0 dX7_sources_26 rfl rfl rfl ?_
    refine GG_get hk LC1 0 (v := .int (z3 34 0)) (pc' := 30) tw_109 rfl (kdO okO_34) (by decide) rfl dX7_sources_27 rfl ?_
    refine GG_iconst hk (pc' := 31) 2 dX7_sources_30 rfl rfl ?_
    refine GG_icmp_ne hk 41 (pc' := 34) dX7_sources_31 rfl (by decide) (fun c4 => ?_) (fun c4 => ?_)
    · refine GG_iload_n hk (pc' := 42) 3 dX7_sources_41 rfl rfl rfl ?_
      refine GG_if (fun c5 => ?_) (fun c5 => ?_)
      · refine GG_look hk 68 dX7_sources_42 (by decide) (off := 26) (by rw [c5]; rfl) (by decide) ?_
        refine GG_aload_n hk (pc' := 69) 0 dX7_sources_68 rfl rfl rfl ?_
        refine GG_get hk LC1 11 (v := .int (z3 34 11)) (pc' := 72) tw_137 rfl (kdO okO_34) (by decide) rfl dX7_sources_69 rfl ?_
        exact GG_iret hk hq dX7_sources_72
      · refine GG_if (fun c6 => ?_) (fun c6 => ?_)
        · refine GG_look hk 73 dX7_sources_42 (by decide) (off := 31) (by rw [c6]; rfl) (by decide) ?_
          refine GG_aload_n hk (pc' := 74) 0 dX7_sources_73 rfl rfl rfl ?_
          refine GG_get hk LC1 12 (v := .int (z3 34 12)) (pc' := 77) tw_139 rfl (kdO okO_34) (by decide) rfl dX7_sources_74 rfl ?_
          exact GG_iret hk hq dX7_sources_77
        · refine GG_look hk 78 dX7_sources_42 (by decide) (off := 36) ((lv_osw c5 rfl).trans ((lv_osw c6 rfl).trans rfl)) (by decide) ?_
          refine GG_aload_n hk (pc' := 79) 1 dX7_sources_78 rfl rfl rfl ?_
          refine GG_bipush hk (pc' := 81) (-2) dX7_sources_79 rfl rfl ?_
          refine GG_callVi hk (st := []) (pc' := 84) mf_X7_refuse mv_X7_refuse LC7 rfl (c_X7_refuse _ _ _ z3 (-2) ) (by omega) tw_333 rfl rfl rfl (Nat.le_of_ble_eq_true rfl) dX7_sources_81 rfl (fun z7 e_z7 => ?_)
          exact GG_iret hk hq dX7_sources_84
    · refine GG_aload_n hk (pc' := 35) 1 dX7_sources_34 rfl rfl rfl ?_
      refine GG_bipush hk (pc' := 37) (-3) dX7_sources_35 rfl rfl ?_
      refine GG_callVi hk (st := []) (pc' := 40) mf_X7_refuse mv_X7_refuse LC7 rfl (c_X7_refuse _ _ _ z3 (-3) ) (by omega) tw_333 rfl rfl rfl (Nat.le_of_ble_eq_true rfl) dX7_sources_37 rfl (fun z8 e_z8 => ?_)
      exact GG_iret hk hq dX7_sources_40
  · refine GG_aload_n hk (pc' := 8) 0 dX7_sources_7 rfl rfl rfl ?_
    refine GG_iconst hk (pc' := 9) (-1) dX7_sources_8 rfl rfl ?_
    refine GG_callVi hk (st := []) (pc' := 12) mf_X7_refuse mv_X7_refuse LC7 rfl (c_X7_refuse _ _ _ z1.2 (-1) ) (by omega) tw_333 rfl rfl rfl (Nat.le_of_ble_eq_true rfl) dX7_sources_9 rfl (fun z9 e_z9 => ?_)
    exact GG_iret hk hq dX7_sources_12
theorem c_X7_sources (l : Launch) (C : DD) (a : Nat) (M : Mem) (l1 : Int32) (l2 : Int32)  : CI l C (a) yX7_sources cX7_sources 4 .int 132 [.ref (a + 0), .int l1, .int l2] M (f_X7_sources M l1 l2) := by
  refine CI_of RX7 (by decide +kernel) rfl (Nat.le_of_ble_eq_true rfl) (fun k q hk hq e1 e2 e3 => ?_)
  subst e1; subst e2; subst e3
  exact m_X7_sources hk hq M l1 l2 

/-! SettingsInLayers.usedBy(I)I -/
noncomputable def f_X7_usedBy_4  : Nat → Mem → Int32 → Int32 → Int32 → Option (Int32 × Mem)
  | 0, _, _, _, _ => none
  | n + 1, M, l1, l2, l3 =>
    if 8 ≤ l3 then
      some (l2, M)
    else
      Option.bind (f_X2_ask M 1 l3) fun z2 =>
      if (((z2 34 13) >>> (l1 &&& 31)) &&& 1) = 0 then
        f_X7_usedBy_4  n z2 l1 l2 (l3 + 1)
      else
        Option.bind (some (l2 ||| (1 <<< (l3 &&& 31)))) fun v4 =>
        f_X7_usedBy_4  n z2 l1 v4 (l3 + 1)
set_option maxRecDepth 20000 in
theorem m_X7_usedBy_4 {k : KT} {q : Int32 × Mem} (hk : CX k cX7_usedBy RX7 4 (some .int) 132) (hq : RI k q) : ∀ (n : Nat) (M : Mem) (l1 : Int32) (l2 : Int32) (l3 : Int32) , GG k q (wM k M) 4 [(0, .ref (kh k + 0)), (1, .int l1), (2, .int l2), (3, .int l3)] [] (f_X7_usedBy_4  n M l1 l2 l3) := by
  intro n
  induction n with
  | zero => intros; exact GG_none
  | succ n ih =>
    intro M l1 l2 l3 
    rw [f_X7_usedBy_4]
    refine GG_iload_n hk (pc' := 5) 3 dX7_usedBy_4 rfl rfl rfl ?_
    refine GG_bipush hk (pc' := 7) 8 dX7_usedBy_5 rfl rfl ?_
    refine GG_icmp_ge hk 44 (pc' := 10) dX7_usedBy_7 rfl (by decide) (fun c1 => ?_) (fun c1 => ?_)
    · refine GG_iload_n hk (pc' := 45) 2 dX7_usedBy_44 rfl rfl rfl ?_
      exact GG_iret hk hq dX7_usedBy_45
    · refine GG_aload_n hk (pc' := 11) 0 dX7_usedBy_10 rfl rfl rfl ?_
      refine GG_get hk LC7 3 (v := .ref (kh k + 31)) (pc' := 14) tw_301 rfl rfl (by decide) rfl dX7_usedBy_11 rfl ?_
      refine GG_aload_n hk (pc' := 15) 0 dX7_usedBy_14 rfl rfl rfl ?_
      refine GG_get hk LC7 0 (v := .ref (kh k + 1)) (pc' := 18) tw_298 rfl rfl (by decide) rfl dX7_usedBy_15 rfl ?_
      refine GG_iload_n hk (pc' := 19) 3 dX7_usedBy_18 rfl rfl rfl ?_
      refine GG_callVr hk (st := []) (pc' := 22) mf_X2_ask mv_X2_ask LC2 rfl (c_X2_ask _ _ _ M 1 l3 okS_1) (by omega) tw_563 rfl rfl rfl (Nat.le_of_ble_eq_true rfl) dX7_usedBy_19 rfl (fun z2 e_z2 => ?_)
      refine GG_get hk LC1 13 (v := .int (z2 34 13)) (pc' := 25) tw_142 rfl (kdO okO_34) (by decide) rfl dX7_usedBy_22 rfl ?_
      refine GG_iload_n hk (pc' := 26) 1 dX7_usedBy_25 rfl rfl rfl ?_
      refine GG_ishr hk (pc' := 27) dX7_usedBy_26 rfl ?_
      refine GG_iconst hk (pc' := 28) 1 dX7_usedBy_27 rfl rfl ?_
      refine GG_iand hk (pc' := 29) dX7_usedBy_28 rfl ?_
      refine GG_if_eq hk 38 (pc' := 32) dX7_usedBy_29 rfl (by decide) (fun c3 => ?_) (fun c3 => ?_)
      · refine GG_iinc hk (pc' := 41) 3 (l3 + 1) [(3, .int (l3 + 1)), (0, .ref (kh k + 0)), (1, .int l1), (2, .int l2)] dX7_usedBy_38 rfl rfl rfl (by decide) rfl ?_
        refine GG_goto hk 4 dX7_usedBy_41 (by decide) ?_
        refine GG_sub (L' := [(0, .ref (kh k + 0)), (1, .int l1), (2, .int l2), (3, .int (l3 + 1))]) [1, 2, 3, 0] rfl ?_
        exact ih z2 l1 l2 (l3 + 1) 
      · refine GG_iload_n hk (pc' := 33) 2 dX7_usedBy_32 rfl rfl rfl ?_
        refine GG_iconst hk (pc' := 34) 1 dX7_usedBy_33 rfl rfl ?_
        refine GG_iload_n hk (pc' := 35) 3 dX7_usedBy_34 rfl rfl rfl ?_
        refine GG_ishl hk (pc' := 36) dX7_usedBy_35 rfl ?_
        refine GG_ior hk (pc' := 37) dX7_usedBy_36 rfl ?_
        refine GG_nm (fun v4 e_v4 => ?_)
        refine GG_istore_n hk (pc' := 38) [(2, .int v4), (0, .ref (kh k + 0)), (1, .int l1), (3, .int l3)] dX7_usedBy_37 rfl rfl (by decide) rfl ?_
        refine GG_iinc hk (pc' := 41) 3 (l3 + 1) [(3, .int (l3 + 1)), (2, .int v4), (0, .ref (kh k + 0)), (1, .int l1)] dX7_usedBy_38 rfl rfl rfl (by decide) rfl ?_
        refine GG_goto hk 4 dX7_usedBy_41 (by decide) ?_
        refine GG_sub (L' := [(0, .ref (kh k + 0)), (1, .int l1), (2, .int v4), (3, .int (l3 + 1))]) [2, 3, 1, 0] rfl ?_
        exact ih z2 l1 v4 (l3 + 1) 
noncomputable def f_X7_usedBy (M : Mem) (l1 : Int32) : Option (Int32 × Mem) :=
    f_X7_usedBy_4  1000 M l1 0 0
set_option maxRecDepth 20000 in
theorem m_X7_usedBy {k : KT} {q : Int32 × Mem} (hk : CX k cX7_usedBy RX7 4 (some .int) 132) (hq : RI k q) (M : Mem) (l1 : Int32)  : GG k q (wM k M) 0 [(0, .ref (kh k + 0)), (1, .int l1)] [] (f_X7_usedBy M l1) := by
  unfold f_X7_usedBy
  refine GG_iconst hk (pc' := 1) 0 dX7_usedBy_0 rfl rfl ?_
  refine GG_istore_n hk (pc' := 2) [(2, .int 0), (0, .ref (kh k + 0)), (1, .int l1)] dX7_usedBy_1 rfl rfl (by decide) rfl ?_
  refine GG_iconst hk (pc' := 3) 0 dX7_usedBy_2 rfl rfl ?_
  refine GG_istore_n hk (pc' := 4) [(3, .int 0), (2, .int 0), (0, .ref (kh k + 0)), (1, .int l1)] dX7_usedBy_3 rfl rfl (by decide) rfl ?_
  refine GG_sub (L' := [(0, .ref (kh k + 0)), (1, .int l1), (2, .int 0), (3, .int 0)]) [2, 3, 1, 0] rfl ?_
  exact m_X7_usedBy_4 hk hq  1000 M l1 0 0 
theorem c_X7_usedBy (l : Launch) (C : DD) (a : Nat) (M : Mem) (l1 : Int32)  : CI l C (a) yX7_usedBy cX7_usedBy 4 .int 132 [.ref (a + 0), .int l1] M (f_X7_usedBy M l1) := by
  refine CI_of RX7 (by decide +kernel) rfl (Nat.le_of_ble_eq_true rfl) (fun k q hk hq e1 e2 e3 => ?_)
  subst e1; subst e2; subst e3
  exact m_X7_usedBy hk hq M l1 

/-! SettingsInLayers.uses(II)I -/
noncomputable def f_X7_uses (M : Mem) (l1 : Int32) (l2 : Int32) : Option (Int32 × Mem) :=
    Option.bind (f_X7_noKey M l1) fun z1 =>
    if z1.1 = 0 then
      if l2 = 0 then
        Option.bind (f_X2_ask z1.2 1 l1) fun z4 =>
        some ((z4 34 13), z4)
      else
        if l2 = 1 then
          Option.bind (f_X7_usedBy z1.2 l1) fun z6 =>
          some (z6.1, z6.2)
        else
          Option.bind (f_X7_refuse z1.2 (-2)) fun z7 =>
          some (z7.1, z7.2)
    else
      Option.bind (f_X7_refuse z1.2 (-1)) fun z8 =>
      some (z8.1, z8.2)
set_option maxRecDepth 20000 in
theorem m_X7_uses {k : KT} {q : Int32 × Mem} (hk : CX k cX7_uses RX7 3 (some .int) 133) (hq : RI k q) (M : Mem) (l1 : Int32) (l2 : Int32)  : GG k q (wM k M) 0 [(0, .ref (kh k + 0)), (1, .int l1), (2, .int l2)] [] (f_X7_uses M l1 l2) := by
  unfold f_X7_uses
  refine GG_iload_n hk (pc' := 1) 1 dX7_uses_0 rfl rfl rfl ?_
  refine GG_callSi hk (st := []) (pc' := 4) mf_X7_noKey tw_386 (c_X7_noKey _ _ _ M l1 ) (by omega) tw_498 rfl rfl (Nat.le_of_ble_eq_true rfl) dX7_uses_1 rfl (fun z1 e_z1 => ?_)
  refine GG_if_eq hk 13 (pc' := 7) dX7_uses_4 rfl (by decide) (fun c2 => ?_) (fun c2 => ?_)
  · refine GG_iload_n hk (pc' := 14) 2 dX7_uses_13 rfl rfl rfl ?_
    refine GG_if (fun c3 => ?_) (fun c3 => ?_)
    · refine GG_look hk 40 dX7_uses_14 (by decide) (off := 26) (by rw [c3]; rfl) (by decide) ?_
      refine GG_aload_n hk (pc' := 41) 0 dX7_uses_40 rfl rfl rfl ?_
      refine GG_get hk LC7 3 (v := .ref (kh k + 31)) (pc' := 44) tw_301 rfl rfl (by decide) rfl dX7_uses_41 rfl ?_
      refine GG_aload_n hk (pc' := 45) 0 dX7_uses_44 rfl rfl rfl ?_
      refine GG_get hk LC7 0 (v := .ref (kh k + 1)) (pc' := 48) tw_298 rfl rfl (by decide) rfl dX7_uses_45 rfl ?_
      refine GG_iload_n hk (pc' := 49) 1 dX7_uses_48 rfl rfl rfl ?_
      refine GG_callVr hk (st := []) (pc' := 52) mf_X2_ask mv_X2_ask LC2 rfl (c_X2_ask _ _ _ z1.2 1 l1 okS_1) (by omega) tw_563 rfl rfl rfl (Nat.le_of_ble_eq_true rfl) dX7_uses_49 rfl (fun z4 e_z4 => ?_)
      refine GG_get hk LC1 13 (v := .int (z4 34 13)) (pc' := 55) tw_142 rfl (kdO okO_34) (by decide) rfl dX7_uses_52 rfl ?_
      exact GG_iret hk hq dX7_uses_55
    · refine GG_if (fun c5 => ?_) (fun c5 => ?_)
      · refine GG_look hk 56 dX7_uses_14 (by decide) (off := 42) (by rw [c5]; rfl) (by decide) ?_
        refine GG_aload_n hk (pc' := 57) 0 dX7_uses_56 rfl rfl rfl ?_
        refine GG_iload_n hk (pc' := 58) 1 dX7_uses_57 rfl rfl rfl ?_
        refine GG_callVi hk (st := []) (pc' := 61) mf_X7_usedBy mv_X7_usedBy LC7 rfl (c_X7_usedBy _ _ _ z1.2 l1 ) (by omega) tw_664 rfl rfl rfl (Nat.le_of_ble_eq_true rfl) dX7_uses_58 rfl (fun z6 e_z6 => ?_)
        exact GG_iret hk hq dX7_uses_61
      · refine GG_look hk 62 dX7_uses_14 (by decide) (off := 48) ((lv_osw c3 rfl).trans ((lv_osw c5 rfl).trans rfl)) (by decide) ?_
        refine GG_aload_n hk (pc' := 63) 0 dX7_uses_62 rfl rfl rfl ?_
        refine GG_bipush hk (pc' := 65) (-2) dX7_uses_63 rfl rfl ?_
        refine GG_callVi hk (st := []) (pc' := 68) mf_X7_refuse mv_X7_refuse LC7 rfl (c_X7_refuse _ _ _ z1.2 (-2) ) (by omega) tw_333 rfl rfl rfl (Nat.le_of_ble_eq_true rfl) dX7_uses_65 rfl (fun z7 e_z7 => ?_)
        exact GG_iret hk hq dX7_uses_68
  · refine GG_aload_n hk (pc' := 8) 0 dX7_uses_7 rfl rfl rfl ?_
    refine GG_iconst hk (pc' := 9) (-1) dX7_uses_8 rfl rfl ?_
    refine GG_callVi hk (st := []) (pc' := 12) mf_X7_refuse mv_X7_refuse LC7 rfl (c_X7_refuse _ _ _ z1.2 (-1) ) (by omega) tw_333 rfl rfl rfl (Nat.le_of_ble_eq_true rfl) dX7_uses_9 rfl (fun z8 e_z8 => ?_)
    exact GG_iret hk hq dX7_uses_12
theorem c_X7_uses (l : Launch) (C : DD) (a : Nat) (M : Mem) (l1 : Int32) (l2 : Int32)  : CI l C (a) yX7_uses cX7_uses 3 .int 133 [.ref (a + 0), .int l1, .int l2] M (f_X7_uses M l1 l2) := by
  refine CI_of RX7 (by decide +kernel) rfl (Nat.le_of_ble_eq_true rfl) (fun k q hk hq e1 e2 e3 => ?_)
  subst e1; subst e2; subst e3
  exact m_X7_uses hk hq M l1 l2 

/-! SettingsInLayers.isAmong(LSettingsInLayers$Outcome;II)Z -/
noncomputable def f_X7_isAmong (M : Mem) (l0 : Nat) (l1 : Int32) (l2 : Int32) : Option (Int32 × Mem) :=
    if l2 = 0 then
      Option.bind (f_X1_isInCycle M l0 l1) fun z2 =>
      bret z2.1 z2.2
    else
      if l2 = 1 then
        if (M l0 0) = 2 then
          bret 0 M
        else
          bret 1 M
      else
        if ¬ (M l0 0) = 0 then
          bret 0 M
        else
          bret 1 M
set_option maxRecDepth 20000 in
theorem m_X7_isAmong {k : KT} {q : Int32 × Mem} (hk : CX k cX7_isAmong RX7 3 (some .boolean) 2) (hq : RI k q) (M : Mem) (l0 : Nat) (l1 : Int32) (l2 : Int32) (h_l0 : okO l0) : GG k q (wM k M) 0 [(0, .ref (kh k + l0)), (1, .int l1), (2, .int l2)] [] (f_X7_isAmong M l0 l1 l2) := by
  unfold f_X7_isAmong
  refine GG_iload_n hk (pc' := 1) 2 dX7_isAmong_0 rfl rfl rfl ?_
  refine GG_if (fun c1 => ?_) (fun c1 => ?_)
  · refine GG_look hk 28 dX7_isAmong_1 (by decide) (off := 27) (by rw [c1]; rfl) (by decide) ?_
    refine GG_aload_n hk (pc' := 29) 0 dX7_isAmong_28 rfl rfl rfl ?_
    refine GG_iload_n hk (pc' := 30) 1 dX7_isAmong_29 rfl rfl rfl ?_
    refine GG_callVi hk (st := []) (pc' := 33) mf_X1_isInCycle mv_X1_isInCycle LC1 rfl (c_X1_isInCycle _ _ _ M l0 l1 h_l0) (by omega) tw_675 (kdO h_l0) rfl rfl (Nat.le_of_ble_eq_true rfl) dX7_isAmong_30 rfl (fun z2 e_z2 => ?_)
    exact GG_zret hk hq dX7_isAmong_33
  · refine GG_if (fun c3 => ?_) (fun c3 => ?_)
    · refine GG_look hk 34 dX7_isAmong_1 (by decide) (off := 33) (by rw [c3]; rfl) (by decide) ?_
      refine GG_aload_n hk (pc' := 35) 0 dX7_isAmong_34 rfl rfl rfl ?_
      refine GG_get hk LC1 0 (v := .int (M l0 0)) (pc' := 38) tw_109 rfl (kdO h_l0) (by decide) rfl dX7_isAmong_35 rfl ?_
      refine GG_iconst hk (pc' := 39) 2 dX7_isAmong_38 rfl rfl ?_
      refine GG_icmp_eq hk 46 (pc' := 42) dX7_isAmong_39 rfl (by decide) (fun c4 => ?_) (fun c4 => ?_)
      · refine GG_iconst hk (pc' := 47) 0 dX7_isAmong_46 rfl rfl ?_
        exact GG_zret hk hq dX7_isAmong_47
      · refine GG_iconst hk (pc' := 43) 1 dX7_isAmong_42 rfl rfl ?_
        refine GG_goto hk 47 dX7_isAmong_43 (by decide) ?_
        exact GG_zret hk hq dX7_isAmong_47
    · refine GG_look hk 48 dX7_isAmong_1 (by decide) (off := 47) ((lv_osw c1 rfl).trans ((lv_osw c3 rfl).trans rfl)) (by decide) ?_
      refine GG_aload_n hk (pc' := 49) 0 dX7_isAmong_48 rfl rfl rfl ?_
      refine GG_get hk LC1 0 (v := .int (M l0 0)) (pc' := 52) tw_109 rfl (kdO h_l0) (by decide) rfl dX7_isAmong_49 rfl ?_
      refine GG_if_ne hk 59 (pc' := 55) dX7_isAmong_52 rfl (by decide) (fun c5 => ?_) (fun c5 => ?_)
      · refine GG_iconst hk (pc' := 60) 0 dX7_isAmong_59 rfl rfl ?_
        exact GG_zret hk hq dX7_isAmong_60
      · refine GG_iconst hk (pc' := 56) 1 dX7_isAmong_55 rfl rfl ?_
        refine GG_goto hk 60 dX7_isAmong_56 (by decide) ?_
        exact GG_zret hk hq dX7_isAmong_60
theorem c_X7_isAmong (l : Launch) (C : DD) (a : Nat) (M : Mem) (l0 : Nat) (l1 : Int32) (l2 : Int32) (h_l0 : okO l0) : CI l C (a) yX7_isAmong cX7_isAmong 3 .boolean 2 [.ref (a + l0), .int l1, .int l2] M (f_X7_isAmong M l0 l1 l2) := by
  refine CI_of RX7 (by decide +kernel) rfl (Nat.le_of_ble_eq_true rfl) (fun k q hk hq e1 e2 e3 => ?_)
  subst e1; subst e2; subst e3
  exact m_X7_isAmong hk hq M l0 l1 l2 h_l0

/-! SettingsInLayers.all(I)I -/
noncomputable def f_X7_all_20  : Nat → Mem → Int32 → Int32 → Int32 → Option (Int32 × Mem)
  | 0, _, _, _, _ => none
  | n + 1, M, l1, l2, l3 =>
    if 8 ≤ l3 then
      some (l2, M)
    else
      Option.bind (f_X2_ask M 1 l3) fun z2 =>
      Option.bind (f_X7_isAmong z2 34 l3 l1) fun z3 =>
      if z3.1 = 0 then
        f_X7_all_20  n z3.2 l1 l2 (l3 + 1)
      else
        Option.bind (some (l2 ||| (1 <<< (l3 &&& 31)))) fun v5 =>
        f_X7_all_20  n z3.2 l1 v5 (l3 + 1)
set_option maxRecDepth 20000 in
theorem m_X7_all_20 {k : KT} {q : Int32 × Mem} (hk : CX k cX7_all RX7 4 (some .int) 132) (hq : RI k q) : ∀ (n : Nat) (M : Mem) (l1 : Int32) (l2 : Int32) (l3 : Int32) , GG k q (wM k M) 20 [(0, .ref (kh k + 0)), (1, .int l1), (2, .int l2), (3, .int l3)] [] (f_X7_all_20  n M l1 l2 l3) := by
  intro n
  induction n with
  | zero => intros; exact GG_none
  | succ n ih =>
    intro M l1 l2 l3 
    rw [f_X7_all_20]
    refine GG_iload_n hk (pc' := 21) 3 dX7_all_20 rfl rfl rfl ?_
    refine GG_bipush hk (pc' := 23) 8 dX7_all_21 rfl rfl ?_
    refine GG_icmp_ge hk 58 (pc' := 26) dX7_all_23 rfl (by decide) (fun c1 => ?_) (fun c1 => ?_)
    · refine GG_iload_n hk (pc' := 59) 2 dX7_all_58 rfl rfl rfl ?_
      exact GG_iret hk hq dX7_all_59
    · refine GG_aload_n hk (pc' := 27) 0 dX7_all_26 rfl rfl rfl ?_
      refine GG_get hk LC7 3 (v := .ref (kh k + 31)) (pc' := 30) tw_301 rfl rfl (by decide) rfl dX7_all_27 rfl ?_
      refine GG_aload_n hk (pc' := 31) 0 dX7_all_30 rfl rfl rfl ?_
      refine GG_get hk LC7 0 (v := .ref (kh k + 1)) (pc' := 34) tw_298 rfl rfl (by decide) rfl dX7_all_31 rfl ?_
      refine GG_iload_n hk (pc' := 35) 3 dX7_all_34 rfl rfl rfl ?_
      refine GG_callVr hk (st := []) (pc' := 38) mf_X2_ask mv_X2_ask LC2 rfl (c_X2_ask _ _ _ M 1 l3 okS_1) (by omega) tw_563 rfl rfl rfl (Nat.le_of_ble_eq_true rfl) dX7_all_35 rfl (fun z2 e_z2 => ?_)
      refine GG_iload_n hk (pc' := 39) 3 dX7_all_38 rfl rfl rfl ?_
      refine GG_iload_n hk (pc' := 40) 1 dX7_all_39 rfl rfl rfl ?_
      refine GG_callSi hk (st := []) (pc' := 43) mf_X7_isAmong tw_673 (c_X7_isAmong _ _ _ z2 34 l3 l1 okO_34) (by omega) tw_672 rfl rfl (Nat.le_of_ble_eq_true rfl) dX7_all_40 rfl (fun z3 e_z3 => ?_)
      refine GG_if_eq hk 52 (pc' := 46) dX7_all_43 rfl (by decide) (fun c4 => ?_) (fun c4 => ?_)
      · refine GG_iinc hk (pc' := 55) 3 (l3 + 1) [(3, .int (l3 + 1)), (0, .ref (kh k + 0)), (1, .int l1), (2, .int l2)] dX7_all_52 rfl rfl rfl (by decide) rfl ?_
        refine GG_goto hk 20 dX7_all_55 (by decide) ?_
        refine GG_sub (L' := [(0, .ref (kh k + 0)), (1, .int l1), (2, .int l2), (3, .int (l3 + 1))]) [1, 2, 3, 0] rfl ?_
        exact ih z3.2 l1 l2 (l3 + 1) 
      · refine GG_iload_n hk (pc' := 47) 2 dX7_all_46 rfl rfl rfl ?_
        refine GG_iconst hk (pc' := 48) 1 dX7_all_47 rfl rfl ?_
        refine GG_iload_n hk (pc' := 49) 3 dX7_all_48 rfl rfl rfl ?_
        refine GG_ishl hk (pc' := 50) dX7_all_49 rfl ?_
        refine GG_ior hk (pc' := 51) dX7_all_50 rfl ?_
        refine GG_nm (fun v5 e_v5 => ?_)
        refine GG_istore_n hk (pc' := 52) [(2, .int v5), (0, .ref (kh k + 0)), (1, .int l1), (3, .int l3)] dX7_all_51 rfl rfl (by decide) rfl ?_
        refine GG_iinc hk (pc' := 55) 3 (l3 + 1) [(3, .int (l3 + 1)), (2, .int v5), (0, .ref (kh k + 0)), (1, .int l1)] dX7_all_52 rfl rfl rfl (by decide) rfl ?_
        refine GG_goto hk 20 dX7_all_55 (by decide) ?_
        refine GG_sub (L' := [(0, .ref (kh k + 0)), (1, .int l1), (2, .int v5), (3, .int (l3 + 1))]) [2, 3, 1, 0] rfl ?_
        exact ih z3.2 l1 v5 (l3 + 1) 
noncomputable def f_X7_all (M : Mem) (l1 : Int32) : Option (Int32 × Mem) :=
    if l1 < 0 then
      Option.bind (f_X7_refuse M (-2)) fun z2 =>
      some (z2.1, z2.2)
    else
      if l1 ≤ 2 then
        f_X7_all_20  1000 M l1 0 0
      else
        Option.bind (f_X7_refuse M (-2)) fun z4 =>
        some (z4.1, z4.2)
set_option maxRecDepth 20000 in
theorem m_X7_all {k : KT} {q : Int32 × Mem} (hk : CX k cX7_all RX7 4 (some .int) 132) (hq : RI k q) (M : Mem) (l1 : Int32)  : GG k q (wM k M) 0 [(0, .ref (kh k + 0)), (1, .int l1)] [] (f_X7_all M l1) := by
  unfold f_X7_all
  refine GG_iload_n hk (pc' := 1) 1 dX7_all_0 rfl rfl rfl ?_
  refine GG_if_lt hk 9 (pc' := 4) dX7_all_1 rfl (by decide) (fun c1 => ?_) (fun c1 => ?_)
  · refine GG_aload_n hk (pc' := 10) 0 dX7_all_9 rfl rfl rfl ?_
    refine GG_bipush hk (pc' := 12) (-2) dX7_all_10 rfl rfl ?_
    refine GG_callVi hk (st := []) (pc' := 15) mf_X7_refuse mv_X7_refuse LC7 rfl (c_X7_refuse _ _ _ M (-2) ) (by omega) tw_333 rfl rfl rfl (Nat.le_of_ble_eq_true rfl) dX7_all_12 rfl (fun z2 e_z2 => ?_)
    exact GG_iret hk hq dX7_all_15
  · refine GG_iload_n hk (pc' := 5) 1 dX7_all_4 rfl rfl rfl ?_
    refine GG_iconst hk (pc' := 6) 2 dX7_all_5 rfl rfl ?_
    refine GG_icmp_le hk 16 (pc' := 9) dX7_all_6 rfl (by decide) (fun c3 => ?_) (fun c3 => ?_)
    · refine GG_iconst hk (pc' := 17) 0 dX7_all_16 rfl rfl ?_
      refine GG_istore_n hk (pc' := 18) [(2, .int 0), (0, .ref (kh k + 0)), (1, .int l1)] dX7_all_17 rfl rfl (by decide) rfl ?_
      refine GG_iconst hk (pc' := 19) 0 dX7_all_18 rfl rfl ?_
      refine GG_istore_n hk (pc' := 20) [(3, .int 0), (2, .int 0), (0, .ref (kh k + 0)), (1, .int l1)] dX7_all_19 rfl rfl (by decide) rfl ?_
      refine GG_sub (L' := [(0, .ref (kh k + 0)), (1, .int l1), (2, .int 0), (3, .int 0)]) [2, 3, 1, 0] rfl ?_
      exact m_X7_all_20 hk hq  1000 M l1 0 0 
    · refine GG_aload_n hk (pc' := 10) 0 dX7_all_9 rfl rfl rfl ?_
      refine GG_bipush hk (pc' := 12) (-2) dX7_all_10 rfl rfl ?_
      refine GG_callVi hk (st := []) (pc' := 15) mf_X7_refuse mv_X7_refuse LC7 rfl (c_X7_refuse _ _ _ M (-2) ) (by omega) tw_333 rfl rfl rfl (Nat.le_of_ble_eq_true rfl) dX7_all_12 rfl (fun z4 e_z4 => ?_)
      exact GG_iret hk hq dX7_all_15
theorem c_X7_all (l : Launch) (C : DD) (a : Nat) (M : Mem) (l1 : Int32)  : CI l C (a) yX7_all cX7_all 4 .int 132 [.ref (a + 0), .int l1] M (f_X7_all M l1) := by
  refine CI_of RX7 (by decide +kernel) rfl (Nat.le_of_ble_eq_true rfl) (fun k q hk hq e1 e2 e3 => ?_)
  subst e1; subst e2; subst e3
  exact m_X7_all hk hq M l1 

/-! SettingsInLayers.hidden(I)I -/
noncomputable def f_X7_hidden_38  : Nat → Mem → Int32 → Int32 → Int32 → Option (Int32 × Mem)
  | 0, _, _, _, _ => none
  | n + 1, M, l1, l2, l3 =>
    if 6 ≤ l3 then
      some (l2, M)
    else
      Option.bind (f_X7_slotOf M l3 l1) fun z2 =>
      Option.bind (rd 48 (z2.2 6) z2.1) fun v3 =>
      if v3 = (-1) then
        f_X7_hidden_38  n z2.2 l1 l2 (l3 + 1)
      else
        Option.bind (f_X4_become z2.2 21 1) fun z5 =>
        Option.bind (f_X4_erase z5 21 z2.1) fun z6 =>
        Option.bind (rdO 8 107 l1) fun o7 =>
        Option.bind (f_X2_ask z6 21 l1) fun z8 =>
        Option.bind (f_X1_isLike z8 o7 34) fun z9 =>
        if z9.1 = 0 then
          f_X7_hidden_38  n z9.2 l1 l2 (l3 + 1)
        else
          Option.bind (some (l2 ||| (1 <<< (l3 &&& 31)))) fun v11 =>
          f_X7_hidden_38  n z9.2 l1 v11 (l3 + 1)
set_option maxRecDepth 20000 in
theorem m_X7_hidden_38 {k : KT} {q : Int32 × Mem} (hk : CX k cX7_hidden RX7 5 (some .int) 132) (hq : RI k q) : ∀ (n : Nat) (M : Mem) (l1 : Int32) (l2 : Int32) (l3 : Int32) , GG k q (wM k M) 38 [(0, .ref (kh k + 0)), (1, .int l1), (2, .int l2), (3, .int l3)] [] (f_X7_hidden_38  n M l1 l2 l3) := by
  intro n
  induction n with
  | zero => intros; exact GG_none
  | succ n ih =>
    intro M l1 l2 l3 
    rw [f_X7_hidden_38]
    refine GG_iload_n hk (pc' := 39) 3 dX7_hidden_38 rfl rfl rfl ?_
    refine GG_bipush hk (pc' := 41) 6 dX7_hidden_39 rfl rfl ?_
    refine GG_icmp_ge hk 121 (pc' := 44) dX7_hidden_41 rfl (by decide) (fun c1 => ?_) (fun c1 => ?_)
    · refine GG_iload_n hk (pc' := 122) 2 dX7_hidden_121 rfl rfl rfl ?_
      exact GG_iret hk hq dX7_hidden_122
    · refine GG_iload_n hk (pc' := 45) 3 dX7_hidden_44 rfl rfl rfl ?_
      refine GG_iload_n hk (pc' := 46) 1 dX7_hidden_45 rfl rfl rfl ?_
      refine GG_callSi hk (st := []) (pc' := 49) mf_X7_slotOf tw_460 (c_X7_slotOf _ _ _ M l3 l1 ) (by omega) tw_507 rfl rfl (Nat.le_of_ble_eq_true rfl) dX7_hidden_46 rfl (fun z2 e_z2 => ?_)
      refine GG_istore hk (pc' := 51) [(4, .int z2.1), (0, .ref (kh k + 0)), (1, .int l1), (2, .int l2), (3, .int l3)] dX7_hidden_49 rfl (by decide) rfl ?_
      refine GG_aload_n hk (pc' := 52) 1 dX7_hidden_51 rfl rfl rfl ?_
      refine GG_get hk LC7 0 (v := .ref (kh k + 1)) (pc' := 55) tw_298 rfl rfl (by decide) rfl dX7_hidden_52 rfl ?_
      refine GG_get hk LC4 5 (v := .ref (kh k + 6)) (pc' := 58) tw_61 rfl (kdS okS_1) (by decide) rfl dX7_hidden_55 rfl ?_
      refine GG_iload hk (pc' := 60) 0 dX7_hidden_58 rfl rfl ?_
      refine GG_iald hk (pc' := 61) rfl rfl dX7_hidden_60 rfl (fun v3 e_v3 => ?_)
      refine GG_iconst hk (pc' := 62) (-1) dX7_hidden_61 rfl rfl ?_
      refine GG_icmp_eq hk 115 (pc' := 65) dX7_hidden_62 rfl (by decide) (fun c4 => ?_) (fun c4 => ?_)
      · refine GG_iinc hk (pc' := 118) 4 (l3 + 1) [(3, .int (l3 + 1)), (4, .int z2.1), (0, .ref (kh k + 0)), (1, .int l1), (2, .int l2)] dX7_hidden_115 rfl rfl rfl (by decide) rfl ?_
        refine GG_goto hk 38 dX7_hidden_118 (by decide) ?_
        refine GG_sub (L' := [(0, .ref (kh k + 0)), (1, .int l1), (2, .int l2), (3, .int (l3 + 1))]) [2, 3, 4, 0] rfl ?_
        exact ih z2.2 l1 l2 (l3 + 1) 
      · refine GG_aload_n hk (pc' := 66) 1 dX7_hidden_65 rfl rfl rfl ?_
        refine GG_get hk LC7 2 (v := .ref (kh k + 21)) (pc' := 69) tw_300 rfl rfl (by decide) rfl dX7_hidden_66 rfl ?_
        refine GG_aload_n hk (pc' := 70) 1 dX7_hidden_69 rfl rfl rfl ?_
        refine GG_get hk LC7 0 (v := .ref (kh k + 1)) (pc' := 73) tw_298 rfl rfl (by decide) rfl dX7_hidden_70 rfl ?_
        refine GG_callVv hk (st := []) (pc' := 76) mf_X4_become mv_X4_become LC4 rfl (c_X4_become _ _ _ z2.2 21 1 okS_21 okS_1) (by omega) tw_424 (kdS okS_21) rfl rfl (Nat.le_of_ble_eq_true rfl) dX7_hidden_73 rfl (fun z5 e_z5 => ?_)
        refine GG_aload_n hk (pc' := 77) 1 dX7_hidden_76 rfl rfl rfl ?_
        refine GG_get hk LC7 2 (v := .ref (kh k + 21)) (pc' := 80) tw_300 rfl rfl (by decide) rfl dX7_hidden_77 rfl ?_
        refine GG_iload hk (pc' := 82) 0 dX7_hidden_80 rfl rfl ?_
        refine GG_callVv hk (st := []) (pc' := 85) mf_X4_erase mv_X4_erase LC4 rfl (c_X4_erase _ _ _ z5 21 z2.1 okS_21) (by omega) tw_534 (kdS okS_21) rfl rfl (Nat.le_of_ble_eq_true rfl) dX7_hidden_82 rfl (fun z6 e_z6 => ?_)
        refine GG_aload_n hk (pc' := 86) 1 dX7_hidden_85 rfl rfl rfl ?_
        refine GG_get hk LC7 7 (v := .ref (kh k + 105)) (pc' := 89) tw_305 rfl rfl (by decide) rfl dX7_hidden_86 rfl ?_
        refine GG_iload_n hk (pc' := 90) 2 dX7_hidden_89 rfl rfl rfl ?_
        refine GG_aald hk (pc' := 91) rfl rfl (b := 107) rfl okO_105 dX7_hidden_90 rfl (fun o7 h_o7 e_o7 => ?_)
        refine GG_aload_n hk (pc' := 92) 1 dX7_hidden_91 rfl rfl rfl ?_
        refine GG_get hk LC7 3 (v := .ref (kh k + 31)) (pc' := 95) tw_301 rfl rfl (by decide) rfl dX7_hidden_92 rfl ?_
        refine GG_aload_n hk (pc' := 96) 1 dX7_hidden_95 rfl rfl rfl ?_
        refine GG_get hk LC7 2 (v := .ref (kh k + 21)) (pc' := 99) tw_300 rfl rfl (by decide) rfl dX7_hidden_96 rfl ?_
        refine GG_iload_n hk (pc' := 100) 2 dX7_hidden_99 rfl rfl rfl ?_
        refine GG_callVr hk (st := [.ref (kh k + o7)]) (pc' := 103) mf_X2_ask mv_X2_ask LC2 rfl (c_X2_ask _ _ _ z6 21 l1 okS_21) (by omega) tw_563 rfl rfl rfl (Nat.le_of_ble_eq_true rfl) dX7_hidden_100 rfl (fun z8 e_z8 => ?_)
        refine GG_callVi hk (st := []) (pc' := 106) mf_X1_isLike mv_X1_isLike LC1 rfl (c_X1_isLike _ _ _ z8 o7 34 h_o7 okO_34) (by omega) tw_687 (kdO h_o7) rfl rfl (Nat.le_of_ble_eq_true rfl) dX7_hidden_103 rfl (fun z9 e_z9 => ?_)
        refine GG_if_eq hk 115 (pc' := 109) dX7_hidden_106 rfl (by decide) (fun c10 => ?_) (fun c10 => ?_)
        · refine GG_iinc hk (pc' := 118) 4 (l3 + 1) [(3, .int (l3 + 1)), (4, .int z2.1), (0, .ref (kh k + 0)), (1, .int l1), (2, .int l2)] dX7_hidden_115 rfl rfl rfl (by decide) rfl ?_
          refine GG_goto hk 38 dX7_hidden_118 (by decide) ?_
          refine GG_sub (L' := [(0, .ref (kh k + 0)), (1, .int l1), (2, .int l2), (3, .int (l3 + 1))]) [2, 3, 4, 0] rfl ?_
          exact ih z9.2 l1 l2 (l3 + 1) 
        · refine GG_iload_n hk (pc' := 110) 3 dX7_hidden_109 rfl rfl rfl ?_
          refine GG_iconst hk (pc' := 111) 1 dX7_hidden_110 rfl rfl ?_
          refine GG_iload_n hk (pc' := 112) 4 dX7_hidden_111 rfl rfl rfl ?_
          refine GG_ishl hk (pc' := 113) dX7_hidden_112 rfl ?_
          refine GG_ior hk (pc' := 114) dX7_hidden_113 rfl ?_
          refine GG_nm (fun v11 e_v11 => ?_)
          refine GG_istore_n hk (pc' := 115) [(2, .int v11), (4, .int z2.1), (0, .ref (kh k + 0)), (1, .int l1), (3, .int l3)] dX7_hidden_114 rfl rfl (by decide) rfl ?_
          refine GG_iinc hk (pc' := 118) 4 (l3 + 1) [(3, .int (l3 + 1)), (2, .int v11), (4, .int z2.1), (0, .ref (kh k + 0)), (1, .int l1)] dX7_hidden_115 rfl rfl rfl (by decide) rfl ?_
          refine GG_goto hk 38 dX7_hidden_118 (by decide) ?_
          refine GG_sub (L' := [(0, .ref (kh k + 0)), (1, .int l1), (2, .int v11), (3, .int (l3 + 1))]) [3, 4, 1, 0] rfl ?_
          exact ih z9.2 l1 v11 (l3 + 1) 
noncomputable def f_X7_hidden (M : Mem) (l1 : Int32) : Option (Int32 × Mem) :=
    Option.bind (f_X7_noKey M l1) fun z1 =>
    if z1.1 = 0 then
      Option.bind (rdO 8 107 l1) fun o3 =>
      Option.bind (f_X2_ask z1.2 1 l1) fun z4 =>
      Option.bind (f_X1_keep z4 o3 34) fun z5 =>
      f_X7_hidden_38  1000 z5 l1 0 0
    else
      Option.bind (f_X7_refuse z1.2 (-1)) fun z6 =>
      some (z6.1, z6.2)
set_option maxRecDepth 20000 in
theorem m_X7_hidden {k : KT} {q : Int32 × Mem} (hk : CX k cX7_hidden RX7 5 (some .int) 132) (hq : RI k q) (M : Mem) (l1 : Int32)  : GG k q (wM k M) 0 [(0, .ref (kh k + 0)), (1, .int l1)] [] (f_X7_hidden M l1) := by
  unfold f_X7_hidden
  refine GG_iload_n hk (pc' := 1) 1 dX7_hidden_0 rfl rfl rfl ?_
  refine GG_callSi hk (st := []) (pc' := 4) mf_X7_noKey tw_386 (c_X7_noKey _ _ _ M l1 ) (by omega) tw_498 rfl rfl (Nat.le_of_ble_eq_true rfl) dX7_hidden_1 rfl (fun z1 e_z1 => ?_)
  refine GG_if_eq hk 13 (pc' := 7) dX7_hidden_4 rfl (by decide) (fun c2 => ?_) (fun c2 => ?_)
  · refine GG_iconst hk (pc' := 14) 0 dX7_hidden_13 rfl rfl ?_
    refine GG_istore_n hk (pc' := 15) [(2, .int 0), (0, .ref (kh k + 0)), (1, .int l1)] dX7_hidden_14 rfl rfl (by decide) rfl ?_
    refine GG_aload_n hk (pc' := 16) 1 dX7_hidden_15 rfl rfl rfl ?_
    refine GG_get hk LC7 7 (v := .ref (kh k + 105)) (pc' := 19) tw_305 rfl rfl (by decide) rfl dX7_hidden_16 rfl ?_
    refine GG_iload_n hk (pc' := 20) 2 dX7_hidden_19 rfl rfl rfl ?_
    refine GG_aald hk (pc' := 21) rfl rfl (b := 107) rfl okO_105 dX7_hidden_20 rfl (fun o3 h_o3 e_o3 => ?_)
    refine GG_aload_n hk (pc' := 22) 1 dX7_hidden_21 rfl rfl rfl ?_
    refine GG_get hk LC7 3 (v := .ref (kh k + 31)) (pc' := 25) tw_301 rfl rfl (by decide) rfl dX7_hidden_22 rfl ?_
    refine GG_aload_n hk (pc' := 26) 1 dX7_hidden_25 rfl rfl rfl ?_
    refine GG_get hk LC7 0 (v := .ref (kh k + 1)) (pc' := 29) tw_298 rfl rfl (by decide) rfl dX7_hidden_26 rfl ?_
    refine GG_iload_n hk (pc' := 30) 2 dX7_hidden_29 rfl rfl rfl ?_
    refine GG_callVr hk (st := [.ref (kh k + o3)]) (pc' := 33) mf_X2_ask mv_X2_ask LC2 rfl (c_X2_ask _ _ _ z1.2 1 l1 okS_1) (by omega) tw_563 rfl rfl rfl (Nat.le_of_ble_eq_true rfl) dX7_hidden_30 rfl (fun z4 e_z4 => ?_)
    refine GG_callVv hk (st := []) (pc' := 36) mf_X1_keep mv_X1_keep LC1 rfl (c_X1_keep _ _ _ z4 o3 34 h_o3 okO_34) (by omega) tw_683 (kdO h_o3) rfl rfl (Nat.le_of_ble_eq_true rfl) dX7_hidden_33 rfl (fun z5 e_z5 => ?_)
    refine GG_iconst hk (pc' := 37) 0 dX7_hidden_36 rfl rfl ?_
    refine GG_istore_n hk (pc' := 38) [(3, .int 0), (2, .int 0), (0, .ref (kh k + 0)), (1, .int l1)] dX7_hidden_37 rfl rfl (by decide) rfl ?_
    refine GG_sub (L' := [(0, .ref (kh k + 0)), (1, .int l1), (2, .int 0), (3, .int 0)]) [2, 3, 1, 0] rfl ?_
    exact m_X7_hidden_38 hk hq  1000 z5 l1 0 0 
  · refine GG_aload_n hk (pc' := 8) 0 dX7_hidden_7 rfl rfl rfl ?_
    refine GG_iconst hk (pc' := 9) (-1) dX7_hidden_8 rfl rfl ?_
    refine GG_callVi hk (st := []) (pc' := 12) mf_X7_refuse mv_X7_refuse LC7 rfl (c_X7_refuse _ _ _ z1.2 (-1) ) (by omega) tw_333 rfl rfl rfl (Nat.le_of_ble_eq_true rfl) dX7_hidden_9 rfl (fun z6 e_z6 => ?_)
    exact GG_iret hk hq dX7_hidden_12
theorem c_X7_hidden (l : Launch) (C : DD) (a : Nat) (M : Mem) (l1 : Int32)  : CI l C (a) yX7_hidden cX7_hidden 5 .int 132 [.ref (a + 0), .int l1] M (f_X7_hidden M l1) := by
  refine CI_of RX7 (by decide +kernel) rfl (Nat.le_of_ble_eq_true rfl) (fun k q hk hq e1 e2 e3 => ?_)
  subst e1; subst e2; subst e3
  exact m_X7_hidden hk hq M l1 

/-! SettingsInLayers.without(II)I -/
noncomputable def f_X7_without (M : Mem) (l1 : Int32) (l2 : Int32) : Option (Int32 × Mem) :=
    Option.bind (f_X7_noLayer M l1) fun z1 =>
    if ¬ z1.1 = 0 then
      Option.bind (f_X7_refuse z1.2 (-1)) fun z3 =>
      some (z3.1, z3.2)
    else
      Option.bind (f_X7_noKey z1.2 l2) fun z4 =>
      if z4.1 = 0 then
        Option.bind (f_X4_become z4.2 21 1) fun z6 =>
        Option.bind (wrf z6 21 0 ((z6 21 0) &&& ((1 <<< (l1 &&& 31)) ^^^ (-1)))) fun M7 =>
        Option.bind (f_X2_ask M7 21 l2) fun z8 =>
        Option.bind (f_X1_numberOrNothing z8 34) fun z9 =>
        some (z9.1, z9.2)
      else
        Option.bind (f_X7_refuse z4.2 (-1)) fun z10 =>
        some (z10.1, z10.2)
set_option maxRecDepth 20000 in
theorem m_X7_without {k : KT} {q : Int32 × Mem} (hk : CX k cX7_without RX7 3 (some .int) 132) (hq : RI k q) (M : Mem) (l1 : Int32) (l2 : Int32)  : GG k q (wM k M) 0 [(0, .ref (kh k + 0)), (1, .int l1), (2, .int l2)] [] (f_X7_without M l1 l2) := by
  unfold f_X7_without
  refine GG_iload_n hk (pc' := 1) 1 dX7_without_0 rfl rfl rfl ?_
  refine GG_callSi hk (st := []) (pc' := 4) mf_X7_noLayer tw_441 (c_X7_noLayer _ _ _ M l1 ) (by omega) tw_480 rfl rfl (Nat.le_of_ble_eq_true rfl) dX7_without_1 rfl (fun z1 e_z1 => ?_)
  refine GG_if_ne hk 14 (pc' := 7) dX7_without_4 rfl (by decide) (fun c2 => ?_) (fun c2 => ?_)
  · refine GG_aload_n hk (pc' := 15) 0 dX7_without_14 rfl rfl rfl ?_
    refine GG_iconst hk (pc' := 16) (-1) dX7_without_15 rfl rfl ?_
    refine GG_callVi hk (st := []) (pc' := 19) mf_X7_refuse mv_X7_refuse LC7 rfl (c_X7_refuse _ _ _ z1.2 (-1) ) (by omega) tw_333 rfl rfl rfl (Nat.le_of_ble_eq_true rfl) dX7_without_16 rfl (fun z3 e_z3 => ?_)
    exact GG_iret hk hq dX7_without_19
  · refine GG_iload_n hk (pc' := 8) 2 dX7_without_7 rfl rfl rfl ?_
    refine GG_callSi hk (st := []) (pc' := 11) mf_X7_noKey tw_386 (c_X7_noKey _ _ _ z1.2 l2 ) (by omega) tw_498 rfl rfl (Nat.le_of_ble_eq_true rfl) dX7_without_8 rfl (fun z4 e_z4 => ?_)
    refine GG_if_eq hk 20 (pc' := 14) dX7_without_11 rfl (by decide) (fun c5 => ?_) (fun c5 => ?_)
    · refine GG_aload_n hk (pc' := 21) 0 dX7_without_20 rfl rfl rfl ?_
      refine GG_get hk LC7 2 (v := .ref (kh k + 21)) (pc' := 24) tw_300 rfl rfl (by decide) rfl dX7_without_21 rfl ?_
      refine GG_aload_n hk (pc' := 25) 0 dX7_without_24 rfl rfl rfl ?_
      refine GG_get hk LC7 0 (v := .ref (kh k + 1)) (pc' := 28) tw_298 rfl rfl (by decide) rfl dX7_without_25 rfl ?_
      refine GG_callVv hk (st := []) (pc' := 31) mf_X4_become mv_X4_become LC4 rfl (c_X4_become _ _ _ z4.2 21 1 okS_21 okS_1) (by omega) tw_424 (kdS okS_21) rfl rfl (Nat.le_of_ble_eq_true rfl) dX7_without_28 rfl (fun z6 e_z6 => ?_)
      refine GG_aload_n hk (pc' := 32) 0 dX7_without_31 rfl rfl rfl ?_
      refine GG_get hk LC7 2 (v := .ref (kh k + 21)) (pc' := 35) tw_300 rfl rfl (by decide) rfl dX7_without_32 rfl ?_
      refine GG_dup hk (pc' := 36) dX7_without_35 rfl rfl ?_
      refine GG_get hk LC4 0 (v := .int (z6 21 0)) (pc' := 39) tw_45 rfl (kdS okS_21) (by decide) rfl dX7_without_36 rfl ?_
      refine GG_iconst hk (pc' := 40) 1 dX7_without_39 rfl rfl ?_
      refine GG_iload_n hk (pc' := 41) 1 dX7_without_40 rfl rfl rfl ?_
      refine GG_ishl hk (pc' := 42) dX7_without_41 rfl ?_
      refine GG_iconst hk (pc' := 43) (-1) dX7_without_42 rfl rfl ?_
      refine GG_ixor hk (pc' := 44) dX7_without_43 rfl ?_
      refine GG_iand hk (pc' := 45) dX7_without_44 rfl ?_
      refine GG_put hk LC4 0 (pc' := 48) tw_45 rfl (kdS okS_21) (by decide) rfl rfl (Nat.le_of_ble_eq_true rfl) (pv_4_0 _ _ _ _) dX7_without_45 rfl (fun M7 e_M7 => ?_)
      refine GG_aload_n hk (pc' := 49) 0 dX7_without_48 rfl rfl rfl ?_
      refine GG_get hk LC7 3 (v := .ref (kh k + 31)) (pc' := 52) tw_301 rfl rfl (by decide) rfl dX7_without_49 rfl ?_
      refine GG_aload_n hk (pc' := 53) 0 dX7_without_52 rfl rfl rfl ?_
      refine GG_get hk LC7 2 (v := .ref (kh k + 21)) (pc' := 56) tw_300 rfl rfl (by decide) rfl dX7_without_53 rfl ?_
      refine GG_iload_n hk (pc' := 57) 2 dX7_without_56 rfl rfl rfl ?_
      refine GG_callVr hk (st := []) (pc' := 60) mf_X2_ask mv_X2_ask LC2 rfl (c_X2_ask _ _ _ M7 21 l2 okS_21) (by omega) tw_563 rfl rfl rfl (Nat.le_of_ble_eq_true rfl) dX7_without_57 rfl (fun z8 e_z8 => ?_)
      refine GG_callVi hk (st := []) (pc' := 63) mf_X1_numberOrNothing mv_X1_numberOrNothing LC1 rfl (c_X1_numberOrNothing _ _ _ z8 34 okO_34) (by omega) tw_698 (kdO okO_34) rfl rfl (Nat.le_of_ble_eq_true rfl) dX7_without_60 rfl (fun z9 e_z9 => ?_)
      exact GG_iret hk hq dX7_without_63
    · refine GG_aload_n hk (pc' := 15) 0 dX7_without_14 rfl rfl rfl ?_
      refine GG_iconst hk (pc' := 16) (-1) dX7_without_15 rfl rfl ?_
      refine GG_callVi hk (st := []) (pc' := 19) mf_X7_refuse mv_X7_refuse LC7 rfl (c_X7_refuse _ _ _ z4.2 (-1) ) (by omega) tw_333 rfl rfl rfl (Nat.le_of_ble_eq_true rfl) dX7_without_16 rfl (fun z10 e_z10 => ?_)
      exact GG_iret hk hq dX7_without_19
theorem c_X7_without (l : Launch) (C : DD) (a : Nat) (M : Mem) (l1 : Int32) (l2 : Int32)  : CI l C (a) yX7_without cX7_without 3 .int 132 [.ref (a + 0), .int l1, .int l2] M (f_X7_without M l1 l2) := by
  refine CI_of RX7 (by decide +kernel) rfl (Nat.le_of_ble_eq_true rfl) (fun k q hk hq e1 e2 e3 => ?_)
  subst e1; subst e2; subst e3
  exact m_X7_without hk hq M l1 l2 

/-! SettingsInLayers.turn(II)I -/
noncomputable def f_X7_turn_65  : Nat → Mem → Int32 → Int32 → Int32 → Option (Int32 × Mem)
  | 0, _, _, _, _ => none
  | n + 1, M, l1, l2, l4 =>
    if 6 ≤ l4 then
      some ((-9), M)
    else
      Option.bind (wrf M 21 0 ((M 1 0) ^^^ (1 <<< (l4 &&& 31)))) fun M2 =>
      Option.bind (f_X2_ask M2 21 l1) fun z3 =>
      Option.bind (f_X1_numberOrNothing z3 34) fun z4 =>
      if ¬ z4.1 = l2 then
        f_X7_turn_65  n z4.2 l1 l2 (l4 + 1)
      else
        some (l4, z4.2)
set_option maxRecDepth 20000 in
theorem m_X7_turn_65 {k : KT} {q : Int32 × Mem} (hk : CX k cX7_turn RX7 5 (some .int) 132) (hq : RI k q) : ∀ (n : Nat) (M : Mem) (l1 : Int32) (l2 : Int32) (l4 : Int32) , GG k q (wM k M) 65 [(0, .ref (kh k + 0)), (1, .int l1), (2, .int l2), (4, .int l4)] [] (f_X7_turn_65  n M l1 l2 l4) := by
  intro n
  induction n with
  | zero => intros; exact GG_none
  | succ n ih =>
    intro M l1 l2 l4 
    rw [f_X7_turn_65]
    refine GG_iload hk (pc' := 67) 3 dX7_turn_65 rfl rfl ?_
    refine GG_bipush hk (pc' := 69) 6 dX7_turn_67 rfl rfl ?_
    refine GG_icmp_ge hk 119 (pc' := 72) dX7_turn_69 rfl (by decide) (fun c1 => ?_) (fun c1 => ?_)
    · refine GG_bipush hk (pc' := 121) (-9) dX7_turn_119 rfl rfl ?_
      exact GG_iret hk hq dX7_turn_121
    · refine GG_aload_n hk (pc' := 73) 0 dX7_turn_72 rfl rfl rfl ?_
      refine GG_get hk LC7 2 (v := .ref (kh k + 21)) (pc' := 76) tw_300 rfl rfl (by decide) rfl dX7_turn_73 rfl ?_
      refine GG_aload_n hk (pc' := 77) 0 dX7_turn_76 rfl rfl rfl ?_
      refine GG_get hk LC7 0 (v := .ref (kh k + 1)) (pc' := 80) tw_298 rfl rfl (by decide) rfl dX7_turn_77 rfl ?_
      refine GG_get hk LC4 0 (v := .int (M 1 0)) (pc' := 83) tw_45 rfl (kdS okS_1) (by decide) rfl dX7_turn_80 rfl ?_
      refine GG_iconst hk (pc' := 84) 1 dX7_turn_83 rfl rfl ?_
      refine GG_iload hk (pc' := 86) 3 dX7_turn_84 rfl rfl ?_
      refine GG_ishl hk (pc' := 87) dX7_turn_86 rfl ?_
      refine GG_ixor hk (pc' := 88) dX7_turn_87 rfl ?_
      refine GG_put hk LC4 0 (pc' := 91) tw_45 rfl (kdS okS_21) (by decide) rfl rfl (Nat.le_of_ble_eq_true rfl) (pv_4_0 _ _ _ _) dX7_turn_88 rfl (fun M2 e_M2 => ?_)
      refine GG_aload_n hk (pc' := 92) 0 dX7_turn_91 rfl rfl rfl ?_
      refine GG_get hk LC7 3 (v := .ref (kh k + 31)) (pc' := 95) tw_301 rfl rfl (by decide) rfl dX7_turn_92 rfl ?_
      refine GG_aload_n hk (pc' := 96) 0 dX7_turn_95 rfl rfl rfl ?_
      refine GG_get hk LC7 2 (v := .ref (kh k + 21)) (pc' := 99) tw_300 rfl rfl (by decide) rfl dX7_turn_96 rfl ?_
      refine GG_iload_n hk (pc' := 100) 1 dX7_turn_99 rfl rfl rfl ?_
      refine GG_callVr hk (st := []) (pc' := 103) mf_X2_ask mv_X2_ask LC2 rfl (c_X2_ask _ _ _ M2 21 l1 okS_21) (by omega) tw_563 rfl rfl rfl (Nat.le_of_ble_eq_true rfl) dX7_turn_100 rfl (fun z3 e_z3 => ?_)
      refine GG_callVi hk (st := []) (pc' := 106) mf_X1_numberOrNothing mv_X1_numberOrNothing LC1 rfl (c_X1_numberOrNothing _ _ _ z3 34 okO_34) (by omega) tw_698 (kdO okO_34) rfl rfl (Nat.le_of_ble_eq_true rfl) dX7_turn_103 rfl (fun z4 e_z4 => ?_)
      refine GG_iload_n hk (pc' := 107) 2 dX7_turn_106 rfl rfl rfl ?_
      refine GG_icmp_ne hk 113 (pc' := 110) dX7_turn_107 rfl (by decide) (fun c5 => ?_) (fun c5 => ?_)
      · refine GG_iinc hk (pc' := 116) 3 (l4 + 1) [(4, .int (l4 + 1)), (0, .ref (kh k + 0)), (1, .int l1), (2, .int l2)] dX7_turn_113 rfl rfl rfl (by decide) rfl ?_
        refine GG_goto hk 65 dX7_turn_116 (by decide) ?_
        refine GG_sub (L' := [(0, .ref (kh k + 0)), (1, .int l1), (2, .int l2), (4, .int (l4 + 1))]) [1, 2, 3, 0] rfl ?_
        exact ih z4.2 l1 l2 (l4 + 1) 
      · refine GG_iload hk (pc' := 112) 3 dX7_turn_110 rfl rfl ?_
        exact GG_iret hk hq dX7_turn_112
noncomputable def f_X7_turn_18  (M : Mem) (l1 : Int32) (l2 : Int32) (t0 : Int32) : Option (Int32 × Mem) :=
    if t0 = 0 then
      Option.bind (f_X2_ask M 1 l1) fun z2 =>
      Option.bind (f_X1_numberOrNothing z2 34) fun z3 =>
      if ¬ z3.1 = l2 then
        Option.bind (f_X4_become z3.2 21 1) fun z5 =>
        f_X7_turn_65  1000 z5 l1 l2 0
      else
        some ((-9), z3.2)
    else
      Option.bind (f_X7_refuse M t0) fun z6 =>
      some (z6.1, z6.2)
set_option maxRecDepth 20000 in
theorem m_X7_turn_18 {k : KT} {q : Int32 × Mem} (hk : CX k cX7_turn RX7 5 (some .int) 132) (hq : RI k q) (M : Mem) (l1 : Int32) (l2 : Int32) (t0 : Int32)  : GG k q (wM k M) 18 [(0, .ref (kh k + 0)), (1, .int l1), (2, .int l2)] [.int t0] (f_X7_turn_18  M l1 l2 t0) := by
  unfold f_X7_turn_18
  refine GG_istore_n hk (pc' := 19) [(3, .int t0), (0, .ref (kh k + 0)), (1, .int l1), (2, .int l2)] dX7_turn_18 rfl rfl (by decide) rfl ?_
  refine GG_iload_n hk (pc' := 20) 0 dX7_turn_19 rfl rfl rfl ?_
  refine GG_if_eq hk 29 (pc' := 23) dX7_turn_20 rfl (by decide) (fun c1 => ?_) (fun c1 => ?_)
  · refine GG_aload_n hk (pc' := 30) 1 dX7_turn_29 rfl rfl rfl ?_
    refine GG_get hk LC7 3 (v := .ref (kh k + 31)) (pc' := 33) tw_301 rfl rfl (by decide) rfl dX7_turn_30 rfl ?_
    refine GG_aload_n hk (pc' := 34) 1 dX7_turn_33 rfl rfl rfl ?_
    refine GG_get hk LC7 0 (v := .ref (kh k + 1)) (pc' := 37) tw_298 rfl rfl (by decide) rfl dX7_turn_34 rfl ?_
    refine GG_iload_n hk (pc' := 38) 2 dX7_turn_37 rfl rfl rfl ?_
    refine GG_callVr hk (st := []) (pc' := 41) mf_X2_ask mv_X2_ask LC2 rfl (c_X2_ask _ _ _ M 1 l1 okS_1) (by omega) tw_563 rfl rfl rfl (Nat.le_of_ble_eq_true rfl) dX7_turn_38 rfl (fun z2 e_z2 => ?_)
    refine GG_callVi hk (st := []) (pc' := 44) mf_X1_numberOrNothing mv_X1_numberOrNothing LC1 rfl (c_X1_numberOrNothing _ _ _ z2 34 okO_34) (by omega) tw_698 (kdO okO_34) rfl rfl (Nat.le_of_ble_eq_true rfl) dX7_turn_41 rfl (fun z3 e_z3 => ?_)
    refine GG_iload_n hk (pc' := 45) 3 dX7_turn_44 rfl rfl rfl ?_
    refine GG_icmp_ne hk 51 (pc' := 48) dX7_turn_45 rfl (by decide) (fun c4 => ?_) (fun c4 => ?_)
    · refine GG_aload_n hk (pc' := 52) 1 dX7_turn_51 rfl rfl rfl ?_
      refine GG_get hk LC7 2 (v := .ref (kh k + 21)) (pc' := 55) tw_300 rfl rfl (by decide) rfl dX7_turn_52 rfl ?_
      refine GG_aload_n hk (pc' := 56) 1 dX7_turn_55 rfl rfl rfl ?_
      refine GG_get hk LC7 0 (v := .ref (kh k + 1)) (pc' := 59) tw_298 rfl rfl (by decide) rfl dX7_turn_56 rfl ?_
      refine GG_callVv hk (st := []) (pc' := 62) mf_X4_become mv_X4_become LC4 rfl (c_X4_become _ _ _ z3.2 21 1 okS_21 okS_1) (by omega) tw_424 (kdS okS_21) rfl rfl (Nat.le_of_ble_eq_true rfl) dX7_turn_59 rfl (fun z5 e_z5 => ?_)
      refine GG_iconst hk (pc' := 63) 0 dX7_turn_62 rfl rfl ?_
      refine GG_istore hk (pc' := 65) [(4, .int 0), (3, .int t0), (0, .ref (kh k + 0)), (1, .int l1), (2, .int l2)] dX7_turn_63 rfl (by decide) rfl ?_
      refine GG_sub (L' := [(0, .ref (kh k + 0)), (1, .int l1), (2, .int l2), (4, .int 0)]) [2, 3, 4, 0] rfl ?_
      exact m_X7_turn_65 hk hq  1000 z5 l1 l2 0 
    · refine GG_bipush hk (pc' := 50) (-9) dX7_turn_48 rfl rfl ?_
      exact GG_iret hk hq dX7_turn_50
  · refine GG_aload_n hk (pc' := 24) 1 dX7_turn_23 rfl rfl rfl ?_
    refine GG_iload_n hk (pc' := 25) 0 dX7_turn_24 rfl rfl rfl ?_
    refine GG_callVi hk (st := []) (pc' := 28) mf_X7_refuse mv_X7_refuse LC7 rfl (c_X7_refuse _ _ _ M t0 ) (by omega) tw_333 rfl rfl rfl (Nat.le_of_ble_eq_true rfl) dX7_turn_25 rfl (fun z6 e_z6 => ?_)
    exact GG_iret hk hq dX7_turn_28
noncomputable def f_X7_turn (M : Mem) (l1 : Int32) (l2 : Int32) : Option (Int32 × Mem) :=
    Option.bind (f_X7_noKey M l1) fun z1 =>
    if z1.1 = 0 then
      Option.bind (f_X7_outside z1.2 l2 999) fun z3 =>
      f_X7_turn_18  z3.2 l1 l2 z3.1
    else
      f_X7_turn_18  z1.2 l1 l2 (-1)
set_option maxRecDepth 20000 in
theorem m_X7_turn {k : KT} {q : Int32 × Mem} (hk : CX k cX7_turn RX7 5 (some .int) 132) (hq : RI k q) (M : Mem) (l1 : Int32) (l2 : Int32)  : GG k q (wM k M) 0 [(0, .ref (kh k + 0)), (1, .int l1), (2, .int l2)] [] (f_X7_turn M l1 l2) := by
  unfold f_X7_turn
  refine GG_iload_n hk (pc' := 1) 1 dX7_turn_0 rfl rfl rfl ?_
  refine GG_callSi hk (st := []) (pc' := 4) mf_X7_noKey tw_386 (c_X7_noKey _ _ _ M l1 ) (by omega) tw_498 rfl rfl (Nat.le_of_ble_eq_true rfl) dX7_turn_1 rfl (fun z1 e_z1 => ?_)
  refine GG_if_eq hk 11 (pc' := 7) dX7_turn_4 rfl (by decide) (fun c2 => ?_) (fun c2 => ?_)
  · refine GG_iload_n hk (pc' := 12) 2 dX7_turn_11 rfl rfl rfl ?_
    refine GG_sipush hk (pc' := 15) 999 dX7_turn_12 rfl rfl ?_
    refine GG_callSi hk (st := []) (pc' := 18) mf_X7_outside tw_491 (c_X7_outside _ _ _ z1.2 l2 999 ) (by omega) tw_490 rfl rfl (Nat.le_of_ble_eq_true rfl) dX7_turn_15 rfl (fun z3 e_z3 => ?_)
    exact m_X7_turn_18 hk hq  z3.2 l1 l2 z3.1 
  · refine GG_iconst hk (pc' := 8) (-1) dX7_turn_7 rfl rfl ?_
    refine GG_goto hk 18 dX7_turn_8 (by decide) ?_
    exact m_X7_turn_18 hk hq  z1.2 l1 l2 (-1) 
theorem c_X7_turn (l : Launch) (C : DD) (a : Nat) (M : Mem) (l1 : Int32) (l2 : Int32)  : CI l C (a) yX7_turn cX7_turn 5 .int 132 [.ref (a + 0), .int l1, .int l2] M (f_X7_turn M l1 l2) := by
  refine CI_of RX7 (by decide +kernel) rfl (Nat.le_of_ble_eq_true rfl) (fun k q hk hq e1 e2 e3 => ?_)
  subst e1; subst e2; subst e3
  exact m_X7_turn hk hq M l1 l2 

/-! SettingsInLayers.set(IIII)I -/
noncomputable def f_X7_set_73  : Nat → Mem → Int32 → Int32 → Int32 → Int32 → Int32 → Option (Int32 × Mem)
  | 0, _, _, _, _, _, _ => none
  | n + 1, M, l1, l2, l3, l4, l7 =>
    if 99 < l7 then
      some ((-9), M)
    else
      Option.bind (f_X4_putOn M 21 l1 l2 l7) fun z2 =>
      Option.bind (f_X2_ask z2 21 l3) fun z3 =>
      Option.bind (f_X1_numberOrNothing z3 34) fun z4 =>
      if ¬ z4.1 = l4 then
        f_X7_set_73  n z4.2 l1 l2 l3 l4 (l7 + 1)
      else
        some (l7, z4.2)
set_option maxRecDepth 20000 in
theorem m_X7_set_73 {k : KT} {q : Int32 × Mem} (hk : CX k cX7_set RX7 8 (some .int) 132) (hq : RI k q) : ∀ (n : Nat) (M : Mem) (l1 : Int32) (l2 : Int32) (l3 : Int32) (l4 : Int32) (l7 : Int32) , GG k q (wM k M) 73 [(0, .ref (kh k + 0)), (1, .int l1), (2, .int l2), (3, .int l3), (4, .int l4), (7, .int l7)] [] (f_X7_set_73  n M l1 l2 l3 l4 l7) := by
  intro n
  induction n with
  | zero => intros; exact GG_none
  | succ n ih =>
    intro M l1 l2 l3 l4 l7 
    rw [f_X7_set_73]
    refine GG_iload hk (pc' := 75) 5 dX7_set_73 rfl rfl ?_
    refine GG_bipush hk (pc' := 77) 99 dX7_set_75 rfl rfl ?_
    refine GG_icmp_gt hk 120 (pc' := 80) dX7_set_77 rfl (by decide) (fun c1 => ?_) (fun c1 => ?_)
    · refine GG_bipush hk (pc' := 122) (-9) dX7_set_120 rfl rfl ?_
      exact GG_iret hk hq dX7_set_122
    · refine GG_aload_n hk (pc' := 81) 0 dX7_set_80 rfl rfl rfl ?_
      refine GG_get hk LC7 2 (v := .ref (kh k + 21)) (pc' := 84) tw_300 rfl rfl (by decide) rfl dX7_set_81 rfl ?_
      refine GG_iload_n hk (pc' := 85) 1 dX7_set_84 rfl rfl rfl ?_
      refine GG_iload_n hk (pc' := 86) 2 dX7_set_85 rfl rfl rfl ?_
      refine GG_iload hk (pc' := 88) 5 dX7_set_86 rfl rfl ?_
      refine GG_callVv hk (st := []) (pc' := 91) mf_X4_putOn mv_X4_putOn LC4 rfl (c_X4_putOn _ _ _ M 21 l1 l2 l7 okS_21) (by omega) tw_710 (kdS okS_21) rfl rfl (Nat.le_of_ble_eq_true rfl) dX7_set_88 rfl (fun z2 e_z2 => ?_)
      refine GG_aload_n hk (pc' := 92) 0 dX7_set_91 rfl rfl rfl ?_
      refine GG_get hk LC7 3 (v := .ref (kh k + 31)) (pc' := 95) tw_301 rfl rfl (by decide) rfl dX7_set_92 rfl ?_
      refine GG_aload_n hk (pc' := 96) 0 dX7_set_95 rfl rfl rfl ?_
      refine GG_get hk LC7 2 (v := .ref (kh k + 21)) (pc' := 99) tw_300 rfl rfl (by decide) rfl dX7_set_96 rfl ?_
      refine GG_iload_n hk (pc' := 100) 3 dX7_set_99 rfl rfl rfl ?_
      refine GG_callVr hk (st := []) (pc' := 103) mf_X2_ask mv_X2_ask LC2 rfl (c_X2_ask _ _ _ z2 21 l3 okS_21) (by omega) tw_563 rfl rfl rfl (Nat.le_of_ble_eq_true rfl) dX7_set_100 rfl (fun z3 e_z3 => ?_)
      refine GG_callVi hk (st := []) (pc' := 106) mf_X1_numberOrNothing mv_X1_numberOrNothing LC1 rfl (c_X1_numberOrNothing _ _ _ z3 34 okO_34) (by omega) tw_698 (kdO okO_34) rfl rfl (Nat.le_of_ble_eq_true rfl) dX7_set_103 rfl (fun z4 e_z4 => ?_)
      refine GG_iload hk (pc' := 108) 4 dX7_set_106 rfl rfl ?_
      refine GG_icmp_ne hk 114 (pc' := 111) dX7_set_108 rfl (by decide) (fun c5 => ?_) (fun c5 => ?_)
      · refine GG_iinc hk (pc' := 117) 5 (l7 + 1) [(7, .int (l7 + 1)), (0, .ref (kh k + 0)), (1, .int l1), (2, .int l2), (3, .int l3), (4, .int l4)] dX7_set_114 rfl rfl rfl (by decide) rfl ?_
        refine GG_goto hk 73 dX7_set_117 (by decide) ?_
        refine GG_sub (L' := [(0, .ref (kh k + 0)), (1, .int l1), (2, .int l2), (3, .int l3), (4, .int l4), (7, .int (l7 + 1))]) [1, 2, 3, 4, 5, 0] rfl ?_
        exact ih z4.2 l1 l2 l3 l4 (l7 + 1) 
      · refine GG_iload hk (pc' := 113) 5 dX7_set_111 rfl rfl ?_
        exact GG_iret hk hq dX7_set_113
noncomputable def f_X7_set_45  (M : Mem) (l1 : Int32) (l2 : Int32) (l3 : Int32) (l4 : Int32) (t0 : Int32) : Option (Int32 × Mem) :=
    if t0 = 0 then
      Option.bind (f_X4_become M 21 1) fun z2 =>
      f_X7_set_73  1000 z2 l1 l2 l3 l4 0
    else
      Option.bind (f_X7_refuse M t0) fun z3 =>
      some (z3.1, z3.2)
set_option maxRecDepth 20000 in
theorem m_X7_set_45 {k : KT} {q : Int32 × Mem} (hk : CX k cX7_set RX7 8 (some .int) 132) (hq : RI k q) (M : Mem) (l1 : Int32) (l2 : Int32) (l3 : Int32) (l4 : Int32) (t0 : Int32)  : GG k q (wM k M) 45 [(0, .ref (kh k + 0)), (1, .int l1), (2, .int l2), (3, .int l3), (4, .int l4)] [.int t0] (f_X7_set_45  M l1 l2 l3 l4 t0) := by
  unfold f_X7_set_45
  refine GG_istore hk (pc' := 47) [(6, .int t0), (0, .ref (kh k + 0)), (1, .int l1), (2, .int l2), (3, .int l3), (4, .int l4)] dX7_set_45 rfl (by decide) rfl ?_
  refine GG_iload hk (pc' := 49) 0 dX7_set_47 rfl rfl ?_
  refine GG_if_eq hk 59 (pc' := 52) dX7_set_49 rfl (by decide) (fun c1 => ?_) (fun c1 => ?_)
  · refine GG_aload_n hk (pc' := 60) 1 dX7_set_59 rfl rfl rfl ?_
    refine GG_get hk LC7 2 (v := .ref (kh k + 21)) (pc' := 63) tw_300 rfl rfl (by decide) rfl dX7_set_60 rfl ?_
    refine GG_aload_n hk (pc' := 64) 1 dX7_set_63 rfl rfl rfl ?_
    refine GG_get hk LC7 0 (v := .ref (kh k + 1)) (pc' := 67) tw_298 rfl rfl (by decide) rfl dX7_set_64 rfl ?_
    refine GG_callVv hk (st := []) (pc' := 70) mf_X4_become mv_X4_become LC4 rfl (c_X4_become _ _ _ M 21 1 okS_21 okS_1) (by omega) tw_424 (kdS okS_21) rfl rfl (Nat.le_of_ble_eq_true rfl) dX7_set_67 rfl (fun z2 e_z2 => ?_)
    refine GG_iconst hk (pc' := 71) 0 dX7_set_70 rfl rfl ?_
    refine GG_istore hk (pc' := 73) [(7, .int 0), (6, .int t0), (0, .ref (kh k + 0)), (1, .int l1), (2, .int l2), (3, .int l3), (4, .int l4)] dX7_set_71 rfl (by decide) rfl ?_
    refine GG_sub (L' := [(0, .ref (kh k + 0)), (1, .int l1), (2, .int l2), (3, .int l3), (4, .int l4), (7, .int 0)]) [2, 3, 4, 5, 6, 0] rfl ?_
    exact m_X7_set_73 hk hq  1000 z2 l1 l2 l3 l4 0 
  · refine GG_aload_n hk (pc' := 53) 1 dX7_set_52 rfl rfl rfl ?_
    refine GG_iload hk (pc' := 55) 0 dX7_set_53 rfl rfl ?_
    refine GG_callVi hk (st := []) (pc' := 58) mf_X7_refuse mv_X7_refuse LC7 rfl (c_X7_refuse _ _ _ M t0 ) (by omega) tw_333 rfl rfl rfl (Nat.le_of_ble_eq_true rfl) dX7_set_55 rfl (fun z3 e_z3 => ?_)
    exact GG_iret hk hq dX7_set_58
noncomputable def f_X7_set_26  (M : Mem) (l1 : Int32) (l2 : Int32) (l3 : Int32) (l4 : Int32) (t0 : Int32) : Option (Int32 × Mem) :=
    if t0 = 0 then
      Option.bind (f_X7_outside M l4 999) fun z2 =>
      f_X7_set_45  z2.2 l1 l2 l3 l4 z2.1
    else
      f_X7_set_45  M l1 l2 l3 l4 (-1)
set_option maxRecDepth 20000 in
theorem m_X7_set_26 {k : KT} {q : Int32 × Mem} (hk : CX k cX7_set RX7 8 (some .int) 132) (hq : RI k q) (M : Mem) (l1 : Int32) (l2 : Int32) (l3 : Int32) (l4 : Int32) (t0 : Int32)  : GG k q (wM k M) 26 [(0, .ref (kh k + 0)), (1, .int l1), (2, .int l2), (3, .int l3), (4, .int l4)] [.int t0] (f_X7_set_26  M l1 l2 l3 l4 t0) := by
  unfold f_X7_set_26
  refine GG_istore hk (pc' := 28) [(5, .int t0), (0, .ref (kh k + 0)), (1, .int l1), (2, .int l2), (3, .int l3), (4, .int l4)] dX7_set_26 rfl (by decide) rfl ?_
  refine GG_iload hk (pc' := 30) 0 dX7_set_28 rfl rfl ?_
  refine GG_if_eq hk 37 (pc' := 33) dX7_set_30 rfl (by decide) (fun c1 => ?_) (fun c1 => ?_)
  · refine GG_iload hk (pc' := 39) 5 dX7_set_37 rfl rfl ?_
    refine GG_sipush hk (pc' := 42) 999 dX7_set_39 rfl rfl ?_
    refine GG_callSi hk (st := []) (pc' := 45) mf_X7_outside tw_491 (c_X7_outside _ _ _ M l4 999 ) (by omega) tw_490 rfl rfl (Nat.le_of_ble_eq_true rfl) dX7_set_42 rfl (fun z2 e_z2 => ?_)
    refine GG_sub (L' := [(0, .ref (kh k + 0)), (1, .int l1), (2, .int l2), (3, .int l3), (4, .int l4)]) [1, 2, 3, 4, 5] rfl ?_
    exact m_X7_set_45 hk hq  z2.2 l1 l2 l3 l4 z2.1 
  · refine GG_iconst hk (pc' := 34) (-1) dX7_set_33 rfl rfl ?_
    refine GG_goto hk 45 dX7_set_34 (by decide) ?_
    refine GG_sub (L' := [(0, .ref (kh k + 0)), (1, .int l1), (2, .int l2), (3, .int l3), (4, .int l4)]) [1, 2, 3, 4, 5] rfl ?_
    exact m_X7_set_45 hk hq  M l1 l2 l3 l4 (-1) 
noncomputable def f_X7_set_21  (M : Mem) (l1 : Int32) (l2 : Int32) (l3 : Int32) (l4 : Int32) : Option (Int32 × Mem) :=
    f_X7_set_26  M l1 l2 l3 l4 1
set_option maxRecDepth 20000 in
theorem m_X7_set_21 {k : KT} {q : Int32 × Mem} (hk : CX k cX7_set RX7 8 (some .int) 132) (hq : RI k q) (M : Mem) (l1 : Int32) (l2 : Int32) (l3 : Int32) (l4 : Int32)  : GG k q (wM k M) 21 [(0, .ref (kh k + 0)), (1, .int l1), (2, .int l2), (3, .int l3), (4, .int l4)] [] (f_X7_set_21  M l1 l2 l3 l4) := by
  unfold f_X7_set_21
  refine GG_iconst hk (pc' := 22) 1 dX7_set_21 rfl rfl ?_
  refine GG_goto hk 26 dX7_set_22 (by decide) ?_
  exact m_X7_set_26 hk hq  M l1 l2 l3 l4 1 
noncomputable def f_X7_set (M : Mem) (l1 : Int32) (l2 : Int32) (l3 : Int32) (l4 : Int32) : Option (Int32 × Mem) :=
    Option.bind (f_X7_noLayer M l1) fun z1 =>
    if ¬ z1.1 = 0 then
      f_X7_set_21  z1.2 l1 l2 l3 l4
    else
      Option.bind (f_X7_noKey z1.2 l2) fun z3 =>
      if ¬ z3.1 = 0 then
        f_X7_set_21  z3.2 l1 l2 l3 l4
      else
        Option.bind (f_X7_noKey z3.2 l3) fun z5 =>
        if z5.1 = 0 then
          f_X7_set_26  z5.2 l1 l2 l3 l4 0
        else
          f_X7_set_21  z5.2 l1 l2 l3 l4
set_option maxRecDepth 20000 in
theorem m_X7_set {k : KT} {q : Int32 × Mem} (hk : CX k cX7_set RX7 8 (some .int) 132) (hq : RI k q) (M : Mem) (l1 : Int32) (l2 : Int32) (l3 : Int32) (l4 : Int32)  : GG k q (wM k M) 0 [(0, .ref (kh k + 0)), (1, .int l1), (2, .int l2), (3, .int l3), (4, .int l4)] [] (f_X7_set M l1 l2 l3 l4) := by
  unfold f_X7_set
  refine GG_iload_n hk (pc' := 1) 1 dX7_set_0 rfl rfl rfl ?_
  refine GG_callSi hk (st := []) (pc' := 4) mf_X7_noLayer tw_441 (c_X7_noLayer _ _ _ M l1 ) (by omega) tw_480 rfl rfl (Nat.le_of_ble_eq_true rfl) dX7_set_1 rfl (fun z1 e_z1 => ?_)
  refine GG_if_ne hk 21 (pc' := 7) dX7_set_4 rfl (by decide) (fun c2 => ?_) (fun c2 => ?_)
  · exact m_X7_set_21 hk hq  z1.2 l1 l2 l3 l4 
  · refine GG_iload_n hk (pc' := 8) 2 dX7_set_7 rfl rfl rfl ?_
    refine GG_callSi hk (st := []) (pc' := 11) mf_X7_noKey tw_386 (c_X7_noKey _ _ _ z1.2 l2 ) (by omega) tw_498 rfl rfl (Nat.le_of_ble_eq_true rfl) dX7_set_8 rfl (fun z3 e_z3 => ?_)
    refine GG_if_ne hk 21 (pc' := 14) dX7_set_11 rfl (by decide) (fun c4 => ?_) (fun c4 => ?_)
    · exact m_X7_set_21 hk hq  z3.2 l1 l2 l3 l4 
    · refine GG_iload_n hk (pc' := 15) 3 dX7_set_14 rfl rfl rfl ?_
      refine GG_callSi hk (st := []) (pc' := 18) mf_X7_noKey tw_386 (c_X7_noKey _ _ _ z3.2 l3 ) (by omega) tw_498 rfl rfl (Nat.le_of_ble_eq_true rfl) dX7_set_15 rfl (fun z5 e_z5 => ?_)
      refine GG_if_eq hk 25 (pc' := 21) dX7_set_18 rfl (by decide) (fun c6 => ?_) (fun c6 => ?_)
      · refine GG_iconst hk (pc' := 26) 0 dX7_set_25 rfl rfl ?_
        exact m_X7_set_26 hk hq  z5.2 l1 l2 l3 l4 0 
      · exact m_X7_set_21 hk hq  z5.2 l1 l2 l3 l4 
theorem c_X7_set (l : Launch) (C : DD) (a : Nat) (M : Mem) (l1 : Int32) (l2 : Int32) (l3 : Int32) (l4 : Int32)  : CI l C (a) yX7_set cX7_set 8 .int 132 [.ref (a + 0), .int l1, .int l2, .int l3, .int l4] M (f_X7_set M l1 l2 l3 l4) := by
  refine CI_of RX7 (by decide +kernel) rfl (Nat.le_of_ble_eq_true rfl) (fun k q hk hq e1 e2 e3 => ?_)
  subst e1; subst e2; subst e3
  exact m_X7_set hk hq M l1 l2 l3 l4 

/-! SettingsInLayers.byManner(II)I -/
noncomputable def f_X7_byManner_46  : Nat → Mem → Int32 → Int32 → Int32 → Int32 → Option (Int32 × Mem)
  | 0, _, _, _, _, _ => none
  | n + 1, M, l1, l2, l4, l5 =>
    if 5 ≤ l5 then
      some (l4, M)
    else
      Option.bind (wra 8 M 24 l1 l5) fun M2 =>
      Option.bind (f_X2_ask M2 21 l1) fun z3 =>
      Option.bind (f_X1_numberOrNothing z3 34) fun z4 =>
      if ¬ z4.1 = l2 then
        f_X7_byManner_46  n z4.2 l1 l2 l4 (l5 + 1)
      else
        Option.bind (some (l4 ||| (1 <<< (l5 &&& 31)))) fun v6 =>
        f_X7_byManner_46  n z4.2 l1 l2 v6 (l5 + 1)
set_option maxRecDepth 20000 in
theorem m_X7_byManner_46 {k : KT} {q : Int32 × Mem} (hk : CX k cX7_byManner RX7 6 (some .int) 132) (hq : RI k q) : ∀ (n : Nat) (M : Mem) (l1 : Int32) (l2 : Int32) (l4 : Int32) (l5 : Int32) , GG k q (wM k M) 46 [(0, .ref (kh k + 0)), (1, .int l1), (2, .int l2), (4, .int l4), (5, .int l5)] [] (f_X7_byManner_46  n M l1 l2 l4 l5) := by
  intro n
  induction n with
  | zero => intros; exact GG_none
  | succ n ih =>
    intro M l1 l2 l4 l5 
    rw [f_X7_byManner_46]
    refine GG_iload hk (pc' := 48) 4 dX7_byManner_46 rfl rfl ?_
    refine GG_iconst hk (pc' := 49) 5 dX7_byManner_48 rfl rfl ?_
    refine GG_icmp_ge hk 97 (pc' := 52) dX7_byManner_49 rfl (by decide) (fun c1 => ?_) (fun c1 => ?_)
    · refine GG_iload hk (pc' := 99) 3 dX7_byManner_97 rfl rfl ?_
      exact GG_iret hk hq dX7_byManner_99
    · refine GG_aload_n hk (pc' := 53) 0 dX7_byManner_52 rfl rfl rfl ?_
      refine GG_get hk LC7 2 (v := .ref (kh k + 21)) (pc' := 56) tw_300 rfl rfl (by decide) rfl dX7_byManner_53 rfl ?_
      refine GG_get hk LC4 3 (v := .ref (kh k + 24)) (pc' := 59) tw_53 rfl (kdS okS_21) (by decide) rfl dX7_byManner_56 rfl ?_
      refine GG_iload_n hk (pc' := 60) 1 dX7_byManner_59 rfl rfl rfl ?_
      refine GG_iload hk (pc' := 62) 4 dX7_byManner_60 rfl rfl ?_
      refine GG_iast hk (pc' := 63) rfl rfl dX7_byManner_62 rfl (fun M2 e_M2 => ?_)
      refine GG_aload_n hk (pc' := 64) 0 dX7_byManner_63 rfl rfl rfl ?_
      refine GG_get hk LC7 3 (v := .ref (kh k + 31)) (pc' := 67) tw_301 rfl rfl (by decide) rfl dX7_byManner_64 rfl ?_
      refine GG_aload_n hk (pc' := 68) 0 dX7_byManner_67 rfl rfl rfl ?_
      refine GG_get hk LC7 2 (v := .ref (kh k + 21)) (pc' := 71) tw_300 rfl rfl (by decide) rfl dX7_byManner_68 rfl ?_
      refine GG_iload_n hk (pc' := 72) 1 dX7_byManner_71 rfl rfl rfl ?_
      refine GG_callVr hk (st := []) (pc' := 75) mf_X2_ask mv_X2_ask LC2 rfl (c_X2_ask _ _ _ M2 21 l1 okS_21) (by omega) tw_563 rfl rfl rfl (Nat.le_of_ble_eq_true rfl) dX7_byManner_72 rfl (fun z3 e_z3 => ?_)
      refine GG_callVi hk (st := []) (pc' := 78) mf_X1_numberOrNothing mv_X1_numberOrNothing LC1 rfl (c_X1_numberOrNothing _ _ _ z3 34 okO_34) (by omega) tw_698 (kdO okO_34) rfl rfl (Nat.le_of_ble_eq_true rfl) dX7_byManner_75 rfl (fun z4 e_z4 => ?_)
      refine GG_iload_n hk (pc' := 79) 2 dX7_byManner_78 rfl rfl rfl ?_
      refine GG_icmp_ne hk 91 (pc' := 82) dX7_byManner_79 rfl (by decide) (fun c5 => ?_) (fun c5 => ?_)
      · refine GG_iinc hk (pc' := 94) 4 (l5 + 1) [(5, .int (l5 + 1)), (0, .ref (kh k + 0)), (1, .int l1), (2, .int l2), (4, .int l4)] dX7_byManner_91 rfl rfl rfl (by decide) rfl ?_
        refine GG_goto hk 46 dX7_byManner_94 (by decide) ?_
        refine GG_sub (L' := [(0, .ref (kh k + 0)), (1, .int l1), (2, .int l2), (4, .int l4), (5, .int (l5 + 1))]) [1, 2, 3, 4, 0] rfl ?_
        exact ih z4.2 l1 l2 l4 (l5 + 1) 
      · refine GG_iload hk (pc' := 84) 3 dX7_byManner_82 rfl rfl ?_
        refine GG_iconst hk (pc' := 85) 1 dX7_byManner_84 rfl rfl ?_
        refine GG_iload hk (pc' := 87) 4 dX7_byManner_85 rfl rfl ?_
        refine GG_ishl hk (pc' := 88) dX7_byManner_87 rfl ?_
        refine GG_ior hk (pc' := 89) dX7_byManner_88 rfl ?_
        refine GG_nm (fun v6 e_v6 => ?_)
        refine GG_istore hk (pc' := 91) [(4, .int v6), (0, .ref (kh k + 0)), (1, .int l1), (2, .int l2), (5, .int l5)] dX7_byManner_89 rfl (by decide) rfl ?_
        refine GG_iinc hk (pc' := 94) 4 (l5 + 1) [(5, .int (l5 + 1)), (4, .int v6), (0, .ref (kh k + 0)), (1, .int l1), (2, .int l2)] dX7_byManner_91 rfl rfl rfl (by decide) rfl ?_
        refine GG_goto hk 46 dX7_byManner_94 (by decide) ?_
        refine GG_sub (L' := [(0, .ref (kh k + 0)), (1, .int l1), (2, .int l2), (4, .int v6), (5, .int (l5 + 1))]) [2, 3, 4, 1, 0] rfl ?_
        exact ih z4.2 l1 l2 v6 (l5 + 1) 
noncomputable def f_X7_byManner_18  (M : Mem) (l1 : Int32) (l2 : Int32) (t0 : Int32) : Option (Int32 × Mem) :=
    if t0 = 0 then
      Option.bind (f_X4_become M 21 1) fun z2 =>
      f_X7_byManner_46  1000 z2 l1 l2 0 0
    else
      Option.bind (f_X7_refuse M t0) fun z3 =>
      some (z3.1, z3.2)
set_option maxRecDepth 20000 in
theorem m_X7_byManner_18 {k : KT} {q : Int32 × Mem} (hk : CX k cX7_byManner RX7 6 (some .int) 132) (hq : RI k q) (M : Mem) (l1 : Int32) (l2 : Int32) (t0 : Int32)  : GG k q (wM k M) 18 [(0, .ref (kh k + 0)), (1, .int l1), (2, .int l2)] [.int t0] (f_X7_byManner_18  M l1 l2 t0) := by
  unfold f_X7_byManner_18
  refine GG_istore_n hk (pc' := 19) [(3, .int t0), (0, .ref (kh k + 0)), (1, .int l1), (2, .int l2)] dX7_byManner_18 rfl rfl (by decide) rfl ?_
  refine GG_iload_n hk (pc' := 20) 0 dX7_byManner_19 rfl rfl rfl ?_
  refine GG_if_eq hk 29 (pc' := 23) dX7_byManner_20 rfl (by decide) (fun c1 => ?_) (fun c1 => ?_)
  · refine GG_iconst hk (pc' := 30) 0 dX7_byManner_29 rfl rfl ?_
    refine GG_istore hk (pc' := 32) [(4, .int 0), (3, .int t0), (0, .ref (kh k + 0)), (1, .int l1), (2, .int l2)] dX7_byManner_30 rfl (by decide) rfl ?_
    refine GG_aload_n hk (pc' := 33) 2 dX7_byManner_32 rfl rfl rfl ?_
    refine GG_get hk LC7 2 (v := .ref (kh k + 21)) (pc' := 36) tw_300 rfl rfl (by decide) rfl dX7_byManner_33 rfl ?_
    refine GG_aload_n hk (pc' := 37) 2 dX7_byManner_36 rfl rfl rfl ?_
    refine GG_get hk LC7 0 (v := .ref (kh k + 1)) (pc' := 40) tw_298 rfl rfl (by decide) rfl dX7_byManner_37 rfl ?_
    refine GG_callVv hk (st := []) (pc' := 43) mf_X4_become mv_X4_become LC4 rfl (c_X4_become _ _ _ M 21 1 okS_21 okS_1) (by omega) tw_424 (kdS okS_21) rfl rfl (Nat.le_of_ble_eq_true rfl) dX7_byManner_40 rfl (fun z2 e_z2 => ?_)
    refine GG_iconst hk (pc' := 44) 0 dX7_byManner_43 rfl rfl ?_
    refine GG_istore hk (pc' := 46) [(5, .int 0), (4, .int 0), (3, .int t0), (0, .ref (kh k + 0)), (1, .int l1), (2, .int l2)] dX7_byManner_44 rfl (by decide) rfl ?_
    refine GG_sub (L' := [(0, .ref (kh k + 0)), (1, .int l1), (2, .int l2), (4, .int 0), (5, .int 0)]) [3, 4, 5, 1, 0] rfl ?_
    exact m_X7_byManner_46 hk hq  1000 z2 l1 l2 0 0 
  · refine GG_aload_n hk (pc' := 24) 1 dX7_byManner_23 rfl rfl rfl ?_
    refine GG_iload_n hk (pc' := 25) 0 dX7_byManner_24 rfl rfl rfl ?_
    refine GG_callVi hk (st := []) (pc' := 28) mf_X7_refuse mv_X7_refuse LC7 rfl (c_X7_refuse _ _ _ M t0 ) (by omega) tw_333 rfl rfl rfl (Nat.le_of_ble_eq_true rfl) dX7_byManner_25 rfl (fun z3 e_z3 => ?_)
    exact GG_iret hk hq dX7_byManner_28
noncomputable def f_X7_byManner (M : Mem) (l1 : Int32) (l2 : Int32) : Option (Int32 × Mem) :=
    Option.bind (f_X7_noKey M l1) fun z1 =>
    if z1.1 = 0 then
      Option.bind (f_X7_outside z1.2 l2 999) fun z3 =>
      f_X7_byManner_18  z3.2 l1 l2 z3.1
    else
      f_X7_byManner_18  z1.2 l1 l2 (-1)
set_option maxRecDepth 20000 in
theorem m_X7_byManner {k : KT} {q : Int32 × Mem} (hk : CX k cX7_byManner RX7 6 (some .int) 132) (hq : RI k q) (M : Mem) (l1 : Int32) (l2 : Int32)  : GG k q (wM k M) 0 [(0, .ref (kh k + 0)), (1, .int l1), (2, .int l2)] [] (f_X7_byManner M l1 l2) := by
  unfold f_X7_byManner
  refine GG_iload_n hk (pc' := 1) 1 dX7_byManner_0 rfl rfl rfl ?_
  refine GG_callSi hk (st := []) (pc' := 4) mf_X7_noKey tw_386 (c_X7_noKey _ _ _ M l1 ) (by omega) tw_498 rfl rfl (Nat.le_of_ble_eq_true rfl) dX7_byManner_1 rfl (fun z1 e_z1 => ?_)
  refine GG_if_eq hk 11 (pc' := 7) dX7_byManner_4 rfl (by decide) (fun c2 => ?_) (fun c2 => ?_)
  · refine GG_iload_n hk (pc' := 12) 2 dX7_byManner_11 rfl rfl rfl ?_
    refine GG_sipush hk (pc' := 15) 999 dX7_byManner_12 rfl rfl ?_
    refine GG_callSi hk (st := []) (pc' := 18) mf_X7_outside tw_491 (c_X7_outside _ _ _ z1.2 l2 999 ) (by omega) tw_490 rfl rfl (Nat.le_of_ble_eq_true rfl) dX7_byManner_15 rfl (fun z3 e_z3 => ?_)
    exact m_X7_byManner_18 hk hq  z3.2 l1 l2 z3.1 
  · refine GG_iconst hk (pc' := 8) (-1) dX7_byManner_7 rfl rfl ?_
    refine GG_goto hk 18 dX7_byManner_8 (by decide) ?_
    exact m_X7_byManner_18 hk hq  z1.2 l1 l2 (-1) 
theorem c_X7_byManner (l : Launch) (C : DD) (a : Nat) (M : Mem) (l1 : Int32) (l2 : Int32)  : CI l C (a) yX7_byManner cX7_byManner 6 .int 132 [.ref (a + 0), .int l1, .int l2] M (f_X7_byManner M l1 l2) := by
  refine CI_of RX7 (by decide +kernel) rfl (Nat.le_of_ble_eq_true rfl) (fun k q hk hq e1 e2 e3 => ?_)
  subst e1; subst e2; subst e3
  exact m_X7_byManner hk hq M l1 l2 

/-! SettingsInLayers.keepPresent()V -/
noncomputable def f_X7_keepPresent_2  : Nat → Mem → Int32 → Option Mem
  | 0, _, _ => none
  | n + 1, M, l1 =>
    if 8 ≤ l1 then
      some M
    else
      Option.bind (rdO 8 107 l1) fun o2 =>
      Option.bind (f_X2_ask M 1 l1) fun z3 =>
      Option.bind (f_X1_keep z3 o2 34) fun z4 =>
      f_X7_keepPresent_2  n z4 (l1 + 1)
set_option maxRecDepth 20000 in
theorem m_X7_keepPresent_2 {k : KT} {q : Mem} (hk : CX k cX7_keepPresent RX7 2 none 132) (hq : RV k q) : ∀ (n : Nat) (M : Mem) (l1 : Int32) , GG k q (wM k M) 2 [(0, .ref (kh k + 0)), (1, .int l1)] [] (f_X7_keepPresent_2  n M l1) := by
  intro n
  induction n with
  | zero => intros; exact GG_none
  | succ n ih =>
    intro M l1 
    rw [f_X7_keepPresent_2]
    refine GG_iload_n hk (pc' := 3) 1 dX7_keepPresent_2 rfl rfl rfl ?_
    refine GG_bipush hk (pc' := 5) 8 dX7_keepPresent_3 rfl rfl ?_
    refine GG_icmp_ge hk 35 (pc' := 8) dX7_keepPresent_5 rfl (by decide) (fun c1 => ?_) (fun c1 => ?_)
    · exact GG_vret hk hq dX7_keepPresent_35
    · refine GG_aload_n hk (pc' := 9) 0 dX7_keepPresent_8 rfl rfl rfl ?_
      refine GG_get hk LC7 7 (v := .ref (kh k + 105)) (pc' := 12) tw_305 rfl rfl (by decide) rfl dX7_keepPresent_9 rfl ?_
      refine GG_iload_n hk (pc' := 13) 1 dX7_keepPresent_12 rfl rfl rfl ?_
      refine GG_aald hk (pc' := 14) rfl rfl (b := 107) rfl okO_105 dX7_keepPresent_13 rfl (fun o2 h_o2 e_o2 => ?_)
      refine GG_aload_n hk (pc' := 15) 0 dX7_keepPresent_14 rfl rfl rfl ?_
      refine GG_get hk LC7 3 (v := .ref (kh k + 31)) (pc' := 18) tw_301 rfl rfl (by decide) rfl dX7_keepPresent_15 rfl ?_
      refine GG_aload_n hk (pc' := 19) 0 dX7_keepPresent_18 rfl rfl rfl ?_
      refine GG_get hk LC7 0 (v := .ref (kh k + 1)) (pc' := 22) tw_298 rfl rfl (by decide) rfl dX7_keepPresent_19 rfl ?_
      refine GG_iload_n hk (pc' := 23) 1 dX7_keepPresent_22 rfl rfl rfl ?_
      refine GG_callVr hk (st := [.ref (kh k + o2)]) (pc' := 26) mf_X2_ask mv_X2_ask LC2 rfl (c_X2_ask _ _ _ M 1 l1 okS_1) (by omega) tw_563 rfl rfl rfl (Nat.le_of_ble_eq_true rfl) dX7_keepPresent_23 rfl (fun z3 e_z3 => ?_)
      refine GG_callVv hk (st := []) (pc' := 29) mf_X1_keep mv_X1_keep LC1 rfl (c_X1_keep _ _ _ z3 o2 34 h_o2 okO_34) (by omega) tw_683 (kdO h_o2) rfl rfl (Nat.le_of_ble_eq_true rfl) dX7_keepPresent_26 rfl (fun z4 e_z4 => ?_)
      refine GG_iinc hk (pc' := 32) 1 (l1 + 1) [(1, .int (l1 + 1)), (0, .ref (kh k + 0))] dX7_keepPresent_29 rfl rfl rfl (by decide) rfl ?_
      refine GG_goto hk 2 dX7_keepPresent_32 (by decide) ?_
      refine GG_sub (L' := [(0, .ref (kh k + 0)), (1, .int (l1 + 1))]) [1, 0] rfl ?_
      exact ih z4 (l1 + 1) 
noncomputable def f_X7_keepPresent (M : Mem)  : Option Mem :=
    f_X7_keepPresent_2  1000 M 0
set_option maxRecDepth 20000 in
theorem m_X7_keepPresent {k : KT} {q : Mem} (hk : CX k cX7_keepPresent RX7 2 none 132) (hq : RV k q) (M : Mem)   : GG k q (wM k M) 0 [(0, .ref (kh k + 0))] [] (f_X7_keepPresent M ) := by
  unfold f_X7_keepPresent
  refine GG_iconst hk (pc' := 1) 0 dX7_keepPresent_0 rfl rfl ?_
  refine GG_istore_n hk (pc' := 2) [(1, .int 0), (0, .ref (kh k + 0))] dX7_keepPresent_1 rfl rfl (by decide) rfl ?_
  refine GG_sub (L' := [(0, .ref (kh k + 0)), (1, .int 0)]) [1, 0] rfl ?_
  exact m_X7_keepPresent_2 hk hq  1000 M 0 
theorem c_X7_keepPresent (l : Launch) (C : DD) (a : Nat) (M : Mem)   : CV l C (a) yX7_keepPresent cX7_keepPresent 2 132 [.ref (a + 0)] M (f_X7_keepPresent M ) := by
  refine CV_of RX7 (by decide +kernel) rfl (Nat.le_of_ble_eq_true rfl) (fun k q hk hq e1 e2 e3 => ?_)
  subst e1; subst e2; subst e3
  exact m_X7_keepPresent hk hq M  

/-! SettingsInLayers.isPresentBy(I)Z -/
noncomputable def f_X7_isPresentBy_10  : Nat → Mem → Int32 → Option (Int32 × Mem)
  | 0, _, _ => none
  | n + 1, M, l2 =>
    if 8 ≤ l2 then
      bret 1 M
    else
      Option.bind (rdO 8 107 l2) fun o2 =>
      Option.bind (f_X2_ask M 21 l2) fun z3 =>
      Option.bind (f_X1_isLike z3 o2 34) fun z4 =>
      if ¬ z4.1 = 0 then
        f_X7_isPresentBy_10  n z4.2 (l2 + 1)
      else
        bret 0 z4.2
set_option maxRecDepth 20000 in
theorem m_X7_isPresentBy_10 {k : KT} {q : Int32 × Mem} (hk : CX k cX7_isPresentBy RX7 3 (some .boolean) 132) (hq : RI k q) : ∀ (n : Nat) (M : Mem) (l2 : Int32) , GG k q (wM k M) 10 [(0, .ref (kh k + 0)), (2, .int l2)] [] (f_X7_isPresentBy_10  n M l2) := by
  intro n
  induction n with
  | zero => intros; exact GG_none
  | succ n ih =>
    intro M l2 
    rw [f_X7_isPresentBy_10]
    refine GG_iload_n hk (pc' := 11) 1 dX7_isPresentBy_10 rfl rfl rfl ?_
    refine GG_bipush hk (pc' := 13) 8 dX7_isPresentBy_11 rfl rfl ?_
    refine GG_icmp_ge hk 48 (pc' := 16) dX7_isPresentBy_13 rfl (by decide) (fun c1 => ?_) (fun c1 => ?_)
    · refine GG_iconst hk (pc' := 49) 1 dX7_isPresentBy_48 rfl rfl ?_
      exact GG_zret hk hq dX7_isPresentBy_49
    · refine GG_aload_n hk (pc' := 17) 0 dX7_isPresentBy_16 rfl rfl rfl ?_
      refine GG_get hk LC7 7 (v := .ref (kh k + 105)) (pc' := 20) tw_305 rfl rfl (by decide) rfl dX7_isPresentBy_17 rfl ?_
      refine GG_iload_n hk (pc' := 21) 1 dX7_isPresentBy_20 rfl rfl rfl ?_
      refine GG_aald hk (pc' := 22) rfl rfl (b := 107) rfl okO_105 dX7_isPresentBy_21 rfl (fun o2 h_o2 e_o2 => ?_)
      refine GG_aload_n hk (pc' := 23) 0 dX7_isPresentBy_22 rfl rfl rfl ?_
      refine GG_get hk LC7 3 (v := .ref (kh k + 31)) (pc' := 26) tw_301 rfl rfl (by decide) rfl dX7_isPresentBy_23 rfl ?_
      refine GG_aload_n hk (pc' := 27) 0 dX7_isPresentBy_26 rfl rfl rfl ?_
      refine GG_get hk LC7 2 (v := .ref (kh k + 21)) (pc' := 30) tw_300 rfl rfl (by decide) rfl dX7_isPresentBy_27 rfl ?_
      refine GG_iload_n hk (pc' := 31) 1 dX7_isPresentBy_30 rfl rfl rfl ?_
      refine GG_callVr hk (st := [.ref (kh k + o2)]) (pc' := 34) mf_X2_ask mv_X2_ask LC2 rfl (c_X2_ask _ _ _ M 21 l2 okS_21) (by omega) tw_563 rfl rfl rfl (Nat.le_of_ble_eq_true rfl) dX7_isPresentBy_31 rfl (fun z3 e_z3 => ?_)
      refine GG_callVi hk (st := []) (pc' := 37) mf_X1_isLike mv_X1_isLike LC1 rfl (c_X1_isLike _ _ _ z3 o2 34 h_o2 okO_34) (by omega) tw_687 (kdO h_o2) rfl rfl (Nat.le_of_ble_eq_true rfl) dX7_isPresentBy_34 rfl (fun z4 e_z4 => ?_)
      refine GG_if_ne hk 42 (pc' := 40) dX7_isPresentBy_37 rfl (by decide) (fun c5 => ?_) (fun c5 => ?_)
      · refine GG_iinc hk (pc' := 45) 1 (l2 + 1) [(2, .int (l2 + 1)), (0, .ref (kh k + 0))] dX7_isPresentBy_42 rfl rfl rfl (by decide) rfl ?_
        refine GG_goto hk 10 dX7_isPresentBy_45 (by decide) ?_
        refine GG_sub (L' := [(0, .ref (kh k + 0)), (2, .int (l2 + 1))]) [1, 0] rfl ?_
        exact ih z4.2 (l2 + 1) 
      · refine GG_iconst hk (pc' := 41) 0 dX7_isPresentBy_40 rfl rfl ?_
        exact GG_zret hk hq dX7_isPresentBy_41
noncomputable def f_X7_isPresentBy (M : Mem) (l1 : Int32) : Option (Int32 × Mem) :=
    Option.bind (wrf M 21 0 l1) fun M1 =>
    f_X7_isPresentBy_10  1000 M1 0
set_option maxRecDepth 20000 in
theorem m_X7_isPresentBy {k : KT} {q : Int32 × Mem} (hk : CX k cX7_isPresentBy RX7 3 (some .boolean) 132) (hq : RI k q) (M : Mem) (l1 : Int32)  : GG k q (wM k M) 0 [(0, .ref (kh k + 0)), (1, .int l1)] [] (f_X7_isPresentBy M l1) := by
  unfold f_X7_isPresentBy
  refine GG_aload_n hk (pc' := 1) 0 dX7_isPresentBy_0 rfl rfl rfl ?_
  refine GG_get hk LC7 2 (v := .ref (kh k + 21)) (pc' := 4) tw_300 rfl rfl (by decide) rfl dX7_isPresentBy_1 rfl ?_
  refine GG_iload_n hk (pc' := 5) 1 dX7_isPresentBy_4 rfl rfl rfl ?_
  refine GG_put hk LC4 0 (pc' := 8) tw_45 rfl (kdS okS_21) (by decide) rfl rfl (Nat.le_of_ble_eq_true rfl) (pv_4_0 _ _ _ _) dX7_isPresentBy_5 rfl (fun M1 e_M1 => ?_)
  refine GG_iconst hk (pc' := 9) 0 dX7_isPresentBy_8 rfl rfl ?_
  refine GG_istore_n hk (pc' := 10) [(2, .int 0), (0, .ref (kh k + 0)), (1, .int l1)] dX7_isPresentBy_9 rfl rfl (by decide) rfl ?_
  refine GG_sub (L' := [(0, .ref (kh k + 0)), (2, .int 0)]) [1, 0] rfl ?_
  exact m_X7_isPresentBy_10 hk hq  1000 M1 0 
theorem c_X7_isPresentBy (l : Launch) (C : DD) (a : Nat) (M : Mem) (l1 : Int32)  : CI l C (a) yX7_isPresentBy cX7_isPresentBy 3 .boolean 132 [.ref (a + 0), .int l1] M (f_X7_isPresentBy M l1) := by
  refine CI_of RX7 (by decide +kernel) rfl (Nat.le_of_ble_eq_true rfl) (fun k q hk hq e1 e2 e3 => ?_)
  subst e1; subst e2; subst e3
  exact m_X7_isPresentBy hk hq M l1 

/-! SettingsInLayers.fewest()I -/
noncomputable def f_X7_fewest_25  (k17 : Mem → Int32 → Option (Int32 × Mem)) : Nat → Mem → Int32 → Int32 → Option (Int32 × Mem)
  | 0, _, _, _ => none
  | n + 1, M, l1, l2 =>
    if 64 ≤ l2 then
      k17 M (l1 + 1)
    else
      Option.bind (f_J6_bitCount_0f7a4 M l2) fun z2 =>
      if ¬ z2.1 = l1 then
        f_X7_fewest_25 k17 n z2.2 l1 (l2 + 1)
      else
        Option.bind (f_X7_isPresentBy z2.2 l2) fun z4 =>
        if z4.1 = 0 then
          f_X7_fewest_25 k17 n z4.2 l1 (l2 + 1)
        else
          some (l2, z4.2)
set_option maxRecDepth 20000 in
theorem m_X7_fewest_25 {k : KT} {q : Int32 × Mem} (hk : CX k cX7_fewest RX7 3 (some .int) 133) (hq : RI k q) (k17 : Mem → Int32 → Option (Int32 × Mem)) (hk17 : ∀ (M : Mem) (l1 : Int32) , GG k q (wM k M) 17 [(0, .ref (kh k + 0)), (1, .int l1)] [] (k17 M l1)) : ∀ (n : Nat) (M : Mem) (l1 : Int32) (l2 : Int32) , GG k q (wM k M) 25 [(0, .ref (kh k + 0)), (1, .int l1), (2, .int l2)] [] (f_X7_fewest_25 k17 n M l1 l2) := by
  intro n
  induction n with
  | zero => intros; exact GG_none
  | succ n ih =>
    intro M l1 l2 
    rw [f_X7_fewest_25]
    refine GG_iload_n hk (pc' := 26) 2 dX7_fewest_25 rfl rfl rfl ?_
    refine GG_bipush hk (pc' := 28) 64 dX7_fewest_26 rfl rfl ?_
    refine GG_icmp_ge hk 55 (pc' := 31) dX7_fewest_28 rfl (by decide) (fun c1 => ?_) (fun c1 => ?_)
    · refine GG_iinc hk (pc' := 58) 1 (l1 + 1) [(1, .int (l1 + 1)), (0, .ref (kh k + 0)), (2, .int l2)] dX7_fewest_55 rfl rfl rfl (by decide) rfl ?_
      refine GG_goto hk 17 dX7_fewest_58 (by decide) ?_
      refine GG_sub (L' := [(0, .ref (kh k + 0)), (1, .int (l1 + 1))]) [1, 0] rfl ?_
      exact hk17 M (l1 + 1) 
    · refine GG_iload_n hk (pc' := 32) 2 dX7_fewest_31 rfl rfl rfl ?_
      refine GG_callSi hk (st := []) (pc' := 35) mf_J6_bitCount_0f7a4 tw_541 (c_J6_bitCount_0f7a4 _ _ _ M l2 ) (by omega) tw_540 rfl rfl (Nat.le_of_ble_eq_true rfl) dX7_fewest_32 rfl (fun z2 e_z2 => ?_)
      refine GG_iload_n hk (pc' := 36) 1 dX7_fewest_35 rfl rfl rfl ?_
      refine GG_icmp_ne hk 49 (pc' := 39) dX7_fewest_36 rfl (by decide) (fun c3 => ?_) (fun c3 => ?_)
      · refine GG_iinc hk (pc' := 52) 2 (l2 + 1) [(2, .int (l2 + 1)), (0, .ref (kh k + 0)), (1, .int l1)] dX7_fewest_49 rfl rfl rfl (by decide) rfl ?_
        refine GG_goto hk 25 dX7_fewest_52 (by decide) ?_
        refine GG_sub (L' := [(0, .ref (kh k + 0)), (1, .int l1), (2, .int (l2 + 1))]) [1, 2, 0] rfl ?_
        exact ih z2.2 l1 (l2 + 1) 
      · refine GG_aload_n hk (pc' := 40) 0 dX7_fewest_39 rfl rfl rfl ?_
        refine GG_iload_n hk (pc' := 41) 2 dX7_fewest_40 rfl rfl rfl ?_
        refine GG_callVi hk (st := []) (pc' := 44) mf_X7_isPresentBy mv_X7_isPresentBy LC7 rfl (c_X7_isPresentBy _ _ _ z2.2 l2 ) (by omega) tw_726 rfl rfl rfl (Nat.le_of_ble_eq_true rfl) dX7_fewest_41 rfl (fun z4 e_z4 => ?_)
        refine GG_if_eq hk 49 (pc' := 47) dX7_fewest_44 rfl (by decide) (fun c5 => ?_) (fun c5 => ?_)
        · refine GG_iinc hk (pc' := 52) 2 (l2 + 1) [(2, .int (l2 + 1)), (0, .ref (kh k + 0)), (1, .int l1)] dX7_fewest_49 rfl rfl rfl (by decide) rfl ?_
          refine GG_goto hk 25 dX7_fewest_52 (by decide) ?_
          refine GG_sub (L' := [(0, .ref (kh k + 0)), (1, .int l1), (2, .int (l2 + 1))]) [1, 2, 0] rfl ?_
          exact ih z4.2 l1 (l2 + 1) 
        · refine GG_iload_n hk (pc' := 48) 2 dX7_fewest_47 rfl rfl rfl ?_
          exact GG_iret hk hq dX7_fewest_48
noncomputable def f_X7_fewest_17  : Nat → Mem → Int32 → Option (Int32 × Mem)
  | 0, _, _ => none
  | n + 1, M, l1 =>
    if 6 < l1 then
      some ((-9), M)
    else
      f_X7_fewest_25 (f_X7_fewest_17  n) 1000 M l1 0
set_option maxRecDepth 20000 in
theorem m_X7_fewest_17 {k : KT} {q : Int32 × Mem} (hk : CX k cX7_fewest RX7 3 (some .int) 133) (hq : RI k q) : ∀ (n : Nat) (M : Mem) (l1 : Int32) , GG k q (wM k M) 17 [(0, .ref (kh k + 0)), (1, .int l1)] [] (f_X7_fewest_17  n M l1) := by
  intro n
  induction n with
  | zero => intros; exact GG_none
  | succ n ih =>
    intro M l1 
    rw [f_X7_fewest_17]
    refine GG_iload_n hk (pc' := 18) 1 dX7_fewest_17 rfl rfl rfl ?_
    refine GG_bipush hk (pc' := 20) 6 dX7_fewest_18 rfl rfl ?_
    refine GG_icmp_gt hk 61 (pc' := 23) dX7_fewest_20 rfl (by decide) (fun c1 => ?_) (fun c1 => ?_)
    · refine GG_bipush hk (pc' := 63) (-9) dX7_fewest_61 rfl rfl ?_
      exact GG_iret hk hq dX7_fewest_63
    · refine GG_iconst hk (pc' := 24) 0 dX7_fewest_23 rfl rfl ?_
      refine GG_istore_n hk (pc' := 25) [(2, .int 0), (0, .ref (kh k + 0)), (1, .int l1)] dX7_fewest_24 rfl rfl (by decide) rfl ?_
      refine GG_sub (L' := [(0, .ref (kh k + 0)), (1, .int l1), (2, .int 0)]) [1, 2, 0] rfl ?_
      exact m_X7_fewest_25 hk hq (f_X7_fewest_17  n) ih 1000 M l1 0 
noncomputable def f_X7_fewest (M : Mem)  : Option (Int32 × Mem) :=
    Option.bind (f_X7_keepPresent M ) fun z1 =>
    Option.bind (f_X4_become z1 21 1) fun z2 =>
    f_X7_fewest_17  1000 z2 0
set_option maxRecDepth 20000 in
theorem m_X7_fewest {k : KT} {q : Int32 × Mem} (hk : CX k cX7_fewest RX7 3 (some .int) 133) (hq : RI k q) (M : Mem)   : GG k q (wM k M) 0 [(0, .ref (kh k + 0))] [] (f_X7_fewest M ) := by
  unfold f_X7_fewest
  refine GG_aload_n hk (pc' := 1) 0 dX7_fewest_0 rfl rfl rfl ?_
  refine GG_callVv hk (st := []) (pc' := 4) mf_X7_keepPresent mv_X7_keepPresent LC7 rfl (c_X7_keepPresent _ _ _ M  ) (by omega) tw_722 rfl rfl rfl (Nat.le_of_ble_eq_true rfl) dX7_fewest_1 rfl (fun z1 e_z1 => ?_)
  refine GG_aload_n hk (pc' := 5) 0 dX7_fewest_4 rfl rfl rfl ?_
  refine GG_get hk LC7 2 (v := .ref (kh k + 21)) (pc' := 8) tw_300 rfl rfl (by decide) rfl dX7_fewest_5 rfl ?_
  refine GG_aload_n hk (pc' := 9) 0 dX7_fewest_8 rfl rfl rfl ?_
  refine GG_get hk LC7 0 (v := .ref (kh k + 1)) (pc' := 12) tw_298 rfl rfl (by decide) rfl dX7_fewest_9 rfl ?_
  refine GG_callVv hk (st := []) (pc' := 15) mf_X4_become mv_X4_become LC4 rfl (c_X4_become _ _ _ z1 21 1 okS_21 okS_1) (by omega) tw_424 (kdS okS_21) rfl rfl (Nat.le_of_ble_eq_true rfl) dX7_fewest_12 rfl (fun z2 e_z2 => ?_)
  refine GG_iconst hk (pc' := 16) 0 dX7_fewest_15 rfl rfl ?_
  refine GG_istore_n hk (pc' := 17) [(1, .int 0), (0, .ref (kh k + 0))] dX7_fewest_16 rfl rfl (by decide) rfl ?_
  refine GG_sub (L' := [(0, .ref (kh k + 0)), (1, .int 0)]) [1, 0] rfl ?_
  exact m_X7_fewest_17 hk hq  1000 z2 0 
theorem c_X7_fewest (l : Launch) (C : DD) (a : Nat) (M : Mem)   : CI l C (a) yX7_fewest cX7_fewest 3 .int 133 [.ref (a + 0)] M (f_X7_fewest M ) := by
  refine CI_of RX7 (by decide +kernel) rfl (Nat.le_of_ble_eq_true rfl) (fun k q hk hq e1 e2 e3 => ?_)
  subst e1; subst e2; subst e3
  exact m_X7_fewest hk hq M  

/-! SettingsInLayers.since()I -/
noncomputable def f_X7_since_22  : Nat → Mem → Int32 → Int32 → Option (Int32 × Mem)
  | 0, _, _, _ => none
  | n + 1, M, l1, l2 =>
    if 8 ≤ l2 then
      some (l1, M)
    else
      Option.bind (rdO 8 107 l2) fun o2 =>
      Option.bind (f_X2_ask M 11 l2) fun z3 =>
      Option.bind (f_X1_isLike z3 o2 34) fun z4 =>
      if ¬ z4.1 = 0 then
        f_X7_since_22  n z4.2 l1 (l2 + 1)
      else
        Option.bind (some (l1 ||| (1 <<< (l2 &&& 31)))) fun v6 =>
        f_X7_since_22  n z4.2 v6 (l2 + 1)
set_option maxRecDepth 20000 in
theorem m_X7_since_22 {k : KT} {q : Int32 × Mem} (hk : CX k cX7_since RX7 3 (some .int) 133) (hq : RI k q) : ∀ (n : Nat) (M : Mem) (l1 : Int32) (l2 : Int32) , GG k q (wM k M) 22 [(0, .ref (kh k + 0)), (1, .int l1), (2, .int l2)] [] (f_X7_since_22  n M l1 l2) := by
  intro n
  induction n with
  | zero => intros; exact GG_none
  | succ n ih =>
    intro M l1 l2 
    rw [f_X7_since_22]
    refine GG_iload_n hk (pc' := 23) 2 dX7_since_22 rfl rfl rfl ?_
    refine GG_bipush hk (pc' := 25) 8 dX7_since_23 rfl rfl ?_
    refine GG_icmp_ge hk 64 (pc' := 28) dX7_since_25 rfl (by decide) (fun c1 => ?_) (fun c1 => ?_)
    · refine GG_iload_n hk (pc' := 65) 1 dX7_since_64 rfl rfl rfl ?_
      exact GG_iret hk hq dX7_since_65
    · refine GG_aload_n hk (pc' := 29) 0 dX7_since_28 rfl rfl rfl ?_
      refine GG_get hk LC7 7 (v := .ref (kh k + 105)) (pc' := 32) tw_305 rfl rfl (by decide) rfl dX7_since_29 rfl ?_
      refine GG_iload_n hk (pc' := 33) 2 dX7_since_32 rfl rfl rfl ?_
      refine GG_aald hk (pc' := 34) rfl rfl (b := 107) rfl okO_105 dX7_since_33 rfl (fun o2 h_o2 e_o2 => ?_)
      refine GG_aload_n hk (pc' := 35) 0 dX7_since_34 rfl rfl rfl ?_
      refine GG_get hk LC7 3 (v := .ref (kh k + 31)) (pc' := 38) tw_301 rfl rfl (by decide) rfl dX7_since_35 rfl ?_
      refine GG_aload_n hk (pc' := 39) 0 dX7_since_38 rfl rfl rfl ?_
      refine GG_get hk LC7 1 (v := .ref (kh k + 11)) (pc' := 42) tw_299 rfl rfl (by decide) rfl dX7_since_39 rfl ?_
      refine GG_iload_n hk (pc' := 43) 2 dX7_since_42 rfl rfl rfl ?_
      refine GG_callVr hk (st := [.ref (kh k + o2)]) (pc' := 46) mf_X2_ask mv_X2_ask LC2 rfl (c_X2_ask _ _ _ M 11 l2 okS_11) (by omega) tw_563 rfl rfl rfl (Nat.le_of_ble_eq_true rfl) dX7_since_43 rfl (fun z3 e_z3 => ?_)
      refine GG_callVi hk (st := []) (pc' := 49) mf_X1_isLike mv_X1_isLike LC1 rfl (c_X1_isLike _ _ _ z3 o2 34 h_o2 okO_34) (by omega) tw_687 (kdO h_o2) rfl rfl (Nat.le_of_ble_eq_true rfl) dX7_since_46 rfl (fun z4 e_z4 => ?_)
      refine GG_if_ne hk 58 (pc' := 52) dX7_since_49 rfl (by decide) (fun c5 => ?_) (fun c5 => ?_)
      · refine GG_iinc hk (pc' := 61) 2 (l2 + 1) [(2, .int (l2 + 1)), (0, .ref (kh k + 0)), (1, .int l1)] dX7_since_58 rfl rfl rfl (by decide) rfl ?_
        refine GG_goto hk 22 dX7_since_61 (by decide) ?_
        refine GG_sub (L' := [(0, .ref (kh k + 0)), (1, .int l1), (2, .int (l2 + 1))]) [1, 2, 0] rfl ?_
        exact ih z4.2 l1 (l2 + 1) 
      · refine GG_iload_n hk (pc' := 53) 1 dX7_since_52 rfl rfl rfl ?_
        refine GG_iconst hk (pc' := 54) 1 dX7_since_53 rfl rfl ?_
        refine GG_iload_n hk (pc' := 55) 2 dX7_since_54 rfl rfl rfl ?_
        refine GG_ishl hk (pc' := 56) dX7_since_55 rfl ?_
        refine GG_ior hk (pc' := 57) dX7_since_56 rfl ?_
        refine GG_nm (fun v6 e_v6 => ?_)
        refine GG_istore_n hk (pc' := 58) [(1, .int v6), (0, .ref (kh k + 0)), (2, .int l2)] dX7_since_57 rfl rfl (by decide) rfl ?_
        refine GG_iinc hk (pc' := 61) 2 (l2 + 1) [(2, .int (l2 + 1)), (1, .int v6), (0, .ref (kh k + 0))] dX7_since_58 rfl rfl rfl (by decide) rfl ?_
        refine GG_goto hk 22 dX7_since_61 (by decide) ?_
        refine GG_sub (L' := [(0, .ref (kh k + 0)), (1, .int v6), (2, .int (l2 + 1))]) [2, 1, 0] rfl ?_
        exact ih z4.2 v6 (l2 + 1) 
noncomputable def f_X7_since (M : Mem)  : Option (Int32 × Mem) :=
    if ¬ (M 0 9) = 0 then
      Option.bind (f_X7_keepPresent M ) fun z2 =>
      f_X7_since_22  1000 z2 0 0
    else
      Option.bind (f_X7_refuse M (-3)) fun z3 =>
      some (z3.1, z3.2)
set_option maxRecDepth 20000 in
theorem m_X7_since {k : KT} {q : Int32 × Mem} (hk : CX k cX7_since RX7 3 (some .int) 133) (hq : RI k q) (M : Mem)   : GG k q (wM k M) 0 [(0, .ref (kh k + 0))] [] (f_X7_since M ) := by
  unfold f_X7_since
  refine GG_aload_n hk (pc' := 1) 0 dX7_since_0 rfl rfl rfl ?_
  refine GG_get hk LC7 9 (v := .int (M 0 9)) (pc' := 4) tw_307 rfl rfl (by decide) rfl dX7_since_1 rfl ?_
  refine GG_if_ne hk 14 (pc' := 7) dX7_since_4 rfl (by decide) (fun c1 => ?_) (fun c1 => ?_)
  · refine GG_aload_n hk (pc' := 15) 0 dX7_since_14 rfl rfl rfl ?_
    refine GG_callVv hk (st := []) (pc' := 18) mf_X7_keepPresent mv_X7_keepPresent LC7 rfl (c_X7_keepPresent _ _ _ M  ) (by omega) tw_722 rfl rfl rfl (Nat.le_of_ble_eq_true rfl) dX7_since_15 rfl (fun z2 e_z2 => ?_)
    refine GG_iconst hk (pc' := 19) 0 dX7_since_18 rfl rfl ?_
    refine GG_istore_n hk (pc' := 20) [(1, .int 0), (0, .ref (kh k + 0))] dX7_since_19 rfl rfl (by decide) rfl ?_
    refine GG_iconst hk (pc' := 21) 0 dX7_since_20 rfl rfl ?_
    refine GG_istore_n hk (pc' := 22) [(2, .int 0), (1, .int 0), (0, .ref (kh k + 0))] dX7_since_21 rfl rfl (by decide) rfl ?_
    refine GG_sub (L' := [(0, .ref (kh k + 0)), (1, .int 0), (2, .int 0)]) [2, 1, 0] rfl ?_
    exact m_X7_since_22 hk hq  1000 z2 0 0 
  · refine GG_aload_n hk (pc' := 8) 0 dX7_since_7 rfl rfl rfl ?_
    refine GG_bipush hk (pc' := 10) (-3) dX7_since_8 rfl rfl ?_
    refine GG_callVi hk (st := []) (pc' := 13) mf_X7_refuse mv_X7_refuse LC7 rfl (c_X7_refuse _ _ _ M (-3) ) (by omega) tw_333 rfl rfl rfl (Nat.le_of_ble_eq_true rfl) dX7_since_10 rfl (fun z3 e_z3 => ?_)
    exact GG_iret hk hq dX7_since_13
theorem c_X7_since (l : Launch) (C : DD) (a : Nat) (M : Mem)   : CI l C (a) yX7_since cX7_since 3 .int 133 [.ref (a + 0)] M (f_X7_since M ) := by
  refine CI_of RX7 (by decide +kernel) rfl (Nat.le_of_ble_eq_true rfl) (fun k q hk hq e1 e2 e3 => ?_)
  subst e1; subst e2; subst e3
  exact m_X7_since hk hq M  

/-! SettingsInLayers.refuseLong(I)J -/
noncomputable def f_X7_refuseLong (M : Mem) (l1 : Int32) : Option (Int64 × Mem) :=
    Option.bind (f_X7_refuse M l1) fun z1 =>
    some ((4000000000000000000 - (Int32.toInt64 z1.1)), z1.2)
set_option maxRecDepth 20000 in
theorem m_X7_refuseLong {k : KT} {q : Int64 × Mem} (hk : CX k cX7_refuseLong RX7 2 (some .long) 2) (hq : RL_ k q) (M : Mem) (l1 : Int32)  : GG k q (wM k M) 0 [(0, .ref (kh k + 0)), (1, .int l1)] [] (f_X7_refuseLong M l1) := by
  unfold f_X7_refuseLong
  refine GG_ldc2 hk (pc' := 3) (v := 4000000000000000000) tw_742 dX7_refuseLong_0 rfl ?_
  refine GG_aload_n hk (pc' := 4) 0 dX7_refuseLong_3 rfl rfl rfl ?_
  refine GG_iload_n hk (pc' := 5) 1 dX7_refuseLong_4 rfl rfl rfl ?_
  refine GG_callVi hk (st := [.long 4000000000000000000]) (pc' := 8) mf_X7_refuse mv_X7_refuse LC7 rfl (c_X7_refuse _ _ _ M l1 ) (by omega) tw_333 rfl rfl rfl (Nat.le_of_ble_eq_true rfl) dX7_refuseLong_5 rfl (fun z1 e_z1 => ?_)
  refine GG_i2l hk (pc' := 9) dX7_refuseLong_8 rfl ?_
  refine GG_lsub hk (pc' := 10) dX7_refuseLong_9 rfl ?_
  exact GG_lret hk hq dX7_refuseLong_10
theorem c_X7_refuseLong (l : Launch) (C : DD) (a : Nat) (M : Mem) (l1 : Int32)  : CL l C (a) yX7_refuseLong cX7_refuseLong 2 2 [.ref (a + 0), .int l1] M (f_X7_refuseLong M l1) := by
  refine CL_of RX7 (by decide +kernel) rfl (Nat.le_of_ble_eq_true rfl) (fun k q hk hq e1 e2 e3 => ?_)
  subst e1; subst e2; subst e3
  exact m_X7_refuseLong hk hq M l1 

/-! SettingsInLayers.power(JI)J -/
noncomputable def f_X7_power_5  : Nat → Mem → Int64 → Int32 → Int64 → Int32 → Option (Int64 × Mem)
  | 0, _, _, _, _, _ => none
  | n + 1, M, l0, l2, l3, l5 =>
    if l2 ≤ l5 then
      some (l3, M)
    else
      f_X7_power_5  n M l0 l2 (l3 * l0) (l5 + 1)
set_option maxRecDepth 20000 in
theorem m_X7_power_5 {k : KT} {q : Int64 × Mem} (hk : CX k cX7_power RX7 6 (some .long) 1) (hq : RL_ k q) : ∀ (n : Nat) (M : Mem) (l0 : Int64) (l2 : Int32) (l3 : Int64) (l5 : Int32) , GG k q (wM k M) 5 [(0, .long l0), (2, .int l2), (3, .long l3), (5, .int l5)] [] (f_X7_power_5  n M l0 l2 l3 l5) := by
  intro n
  induction n with
  | zero => intros; exact GG_none
  | succ n ih =>
    intro M l0 l2 l3 l5 
    rw [f_X7_power_5]
    refine GG_iload hk (pc' := 7) 3 dX7_power_5 rfl rfl ?_
    refine GG_iload_n hk (pc' := 8) 1 dX7_power_7 rfl rfl rfl ?_
    refine GG_icmp_ge hk 21 (pc' := 11) dX7_power_8 rfl (by decide) (fun c1 => ?_) (fun c1 => ?_)
    · refine GG_lload_n hk (pc' := 22) 2 dX7_power_21 rfl rfl rfl ?_
      exact GG_lret hk hq dX7_power_22
    · refine GG_lload_n hk (pc' := 12) 2 dX7_power_11 rfl rfl rfl ?_
      refine GG_lload_n hk (pc' := 13) 0 dX7_power_12 rfl rfl rfl ?_
      refine GG_lmul hk (pc' := 14) dX7_power_13 rfl ?_
      refine GG_lstore_n hk (pc' := 15) [(3, .long (l3 * l0)), (0, .long l0), (2, .int l2), (5, .int l5)] dX7_power_14 rfl rfl (by decide) rfl ?_
      refine GG_iinc hk (pc' := 18) 3 (l5 + 1) [(5, .int (l5 + 1)), (3, .long (l3 * l0)), (0, .long l0), (2, .int l2)] dX7_power_15 rfl rfl rfl (by decide) rfl ?_
      refine GG_goto hk 5 dX7_power_18 (by decide) ?_
      refine GG_sub (L' := [(0, .long l0), (2, .int l2), (3, .long (l3 * l0)), (5, .int (l5 + 1))]) [2, 3, 1, 0] rfl ?_
      exact ih M l0 l2 (l3 * l0) (l5 + 1) 
noncomputable def f_X7_power (M : Mem) (l0 : Int64) (l2 : Int32) : Option (Int64 × Mem) :=
    f_X7_power_5  1000 M l0 l2 1 0
set_option maxRecDepth 20000 in
theorem m_X7_power {k : KT} {q : Int64 × Mem} (hk : CX k cX7_power RX7 6 (some .long) 1) (hq : RL_ k q) (M : Mem) (l0 : Int64) (l2 : Int32)  : GG k q (wM k M) 0 [(0, .long l0), (2, .int l2)] [] (f_X7_power M l0 l2) := by
  unfold f_X7_power
  refine GG_lconst hk (pc' := 1) 1 dX7_power_0 rfl rfl ?_
  refine GG_lstore_n hk (pc' := 2) [(3, .long 1), (0, .long l0), (2, .int l2)] dX7_power_1 rfl rfl (by decide) rfl ?_
  refine GG_iconst hk (pc' := 3) 0 dX7_power_2 rfl rfl ?_
  refine GG_istore hk (pc' := 5) [(5, .int 0), (3, .long 1), (0, .long l0), (2, .int l2)] dX7_power_3 rfl (by decide) rfl ?_
  refine GG_sub (L' := [(0, .long l0), (2, .int l2), (3, .long 1), (5, .int 0)]) [2, 3, 1, 0] rfl ?_
  exact m_X7_power_5 hk hq  1000 M l0 l2 1 0 
theorem c_X7_power (l : Launch) (C : DD) (a : Nat) (M : Mem) (l0 : Int64) (l2 : Int32)  : CL l C (a) yX7_power cX7_power 6 1 [.long l0, .int l2] M (f_X7_power M l0 l2) := by
  refine CL_of RX7 (by decide +kernel) rfl (Nat.le_of_ble_eq_true rfl) (fun k q hk hq e1 e2 e3 => ?_)
  subst e1; subst e2; subst e3
  exact m_X7_power hk hq M l0 l2 

/-! SettingsInLayers.commonDivisor(JJ)J -/
noncomputable def f_X7_commonDivisor_9  : Nat → Mem → Int64 → Int64 → Int32 → Option (Int64 × Mem)
  | 0, _, _, _, _ => none
  | n + 1, M, l4, l6, l8 =>
    if 100 ≤ l8 then
      some (l4, M)
    else
      if (lg_cmp l6 0) = 0 then
        some (l4, M)
      else
        Option.bind (rmL l4 l6) fun v3 =>
        f_X7_commonDivisor_9  n M l6 v3 (l8 + 1)
set_option maxRecDepth 20000 in
theorem m_X7_commonDivisor_9 {k : KT} {q : Int64 × Mem} (hk : CX k cX7_commonDivisor RX7 11 (some .long) 1) (hq : RL_ k q) : ∀ (n : Nat) (M : Mem) (l4 : Int64) (l6 : Int64) (l8 : Int32) , GG k q (wM k M) 9 [(4, .long l4), (6, .long l6), (8, .int l8)] [] (f_X7_commonDivisor_9  n M l4 l6 l8) := by
  intro n
  induction n with
  | zero => intros; exact GG_none
  | succ n ih =>
    intro M l4 l6 l8 
    rw [f_X7_commonDivisor_9]
    refine GG_iload hk (pc' := 11) 2 dX7_commonDivisor_9 rfl rfl ?_
    refine GG_bipush hk (pc' := 13) 100 dX7_commonDivisor_11 rfl rfl ?_
    refine GG_icmp_ge hk 44 (pc' := 16) dX7_commonDivisor_13 rfl (by decide) (fun c1 => ?_) (fun c1 => ?_)
    · refine GG_lload hk (pc' := 46) 0 dX7_commonDivisor_44 rfl rfl ?_
      exact GG_lret hk hq dX7_commonDivisor_46
    · refine GG_lload hk (pc' := 18) 1 dX7_commonDivisor_16 rfl rfl ?_
      refine GG_lconst hk (pc' := 19) 0 dX7_commonDivisor_18 rfl rfl ?_
      refine GG_lcmp hk (pc' := 20) dX7_commonDivisor_19 rfl ?_
      refine GG_if_eq hk 44 (pc' := 23) dX7_commonDivisor_20 rfl (by decide) (fun c2 => ?_) (fun c2 => ?_)
      · refine GG_lload hk (pc' := 46) 0 dX7_commonDivisor_44 rfl rfl ?_
        exact GG_lret hk hq dX7_commonDivisor_46
      · refine GG_lload hk (pc' := 25) 0 dX7_commonDivisor_23 rfl rfl ?_
        refine GG_lload hk (pc' := 27) 1 dX7_commonDivisor_25 rfl rfl ?_
        refine GG_lrem hk (pc' := 28) dX7_commonDivisor_27 rfl (fun v3 e_v3 => ?_)
        refine GG_lstore hk (pc' := 30) [(9, .long v3), (4, .long l4), (6, .long l6), (8, .int l8)] dX7_commonDivisor_28 rfl (by decide) rfl ?_
        refine GG_lload hk (pc' := 32) 2 dX7_commonDivisor_30 rfl rfl ?_
        refine GG_lstore hk (pc' := 34) [(4, .long l6), (9, .long v3), (6, .long l6), (8, .int l8)] dX7_commonDivisor_32 rfl (by decide) rfl ?_
        refine GG_lload hk (pc' := 36) 1 dX7_commonDivisor_34 rfl rfl ?_
        refine GG_lstore hk (pc' := 38) [(6, .long v3), (4, .long l6), (9, .long v3), (8, .int l8)] dX7_commonDivisor_36 rfl (by decide) rfl ?_
        refine GG_iinc hk (pc' := 41) 3 (l8 + 1) [(8, .int (l8 + 1)), (6, .long v3), (4, .long l6), (9, .long v3)] dX7_commonDivisor_38 rfl rfl rfl (by decide) rfl ?_
        refine GG_goto hk 9 dX7_commonDivisor_41 (by decide) ?_
        refine GG_sub (L' := [(4, .long l6), (6, .long v3), (8, .int (l8 + 1))]) [2, 1, 0] rfl ?_
        exact ih M l6 v3 (l8 + 1) 
noncomputable def f_X7_commonDivisor (M : Mem) (l0 : Int64) (l2 : Int64) : Option (Int64 × Mem) :=
    f_X7_commonDivisor_9  1000 M l0 l2 0
set_option maxRecDepth 20000 in
theorem m_X7_commonDivisor {k : KT} {q : Int64 × Mem} (hk : CX k cX7_commonDivisor RX7 11 (some .long) 1) (hq : RL_ k q) (M : Mem) (l0 : Int64) (l2 : Int64)  : GG k q (wM k M) 0 [(0, .long l0), (2, .long l2)] [] (f_X7_commonDivisor M l0 l2) := by
  unfold f_X7_commonDivisor
  refine GG_lload_n hk (pc' := 1) 0 dX7_commonDivisor_0 rfl rfl rfl ?_
  refine GG_lstore hk (pc' := 3) [(4, .long l0), (0, .long l0), (2, .long l2)] dX7_commonDivisor_1 rfl (by decide) rfl ?_
  refine GG_lload_n hk (pc' := 4) 2 dX7_commonDivisor_3 rfl rfl rfl ?_
  refine GG_lstore hk (pc' := 6) [(6, .long l2), (4, .long l0), (0, .long l0), (2, .long l2)] dX7_commonDivisor_4 rfl (by decide) rfl ?_
  refine GG_iconst hk (pc' := 7) 0 dX7_commonDivisor_6 rfl rfl ?_
  refine GG_istore hk (pc' := 9) [(8, .int 0), (6, .long l2), (4, .long l0), (0, .long l0), (2, .long l2)] dX7_commonDivisor_7 rfl (by decide) rfl ?_
  refine GG_sub (L' := [(4, .long l0), (6, .long l2), (8, .int 0)]) [2, 1, 0] rfl ?_
  exact m_X7_commonDivisor_9 hk hq  1000 M l0 l2 0 
theorem c_X7_commonDivisor (l : Launch) (C : DD) (a : Nat) (M : Mem) (l0 : Int64) (l2 : Int64)  : CL l C (a) yX7_commonDivisor cX7_commonDivisor 11 1 [.long l0, .long l2] M (f_X7_commonDivisor M l0 l2) := by
  refine CL_of RX7 (by decide +kernel) rfl (Nat.le_of_ble_eq_true rfl) (fun k q hk hq e1 e2 e3 => ?_)
  subst e1; subst e2; subst e3
  exact m_X7_commonDivisor hk hq M l0 l2 

/-! SettingsInLayers.leastTerms(JJI)J -/
noncomputable def f_X7_leastTerms (M : Mem) (l0 : Int64) (l2 : Int64) (l4 : Int32) : Option (Int64 × Mem) :=
    Option.bind (f_X7_commonDivisor M l0 l2) fun z1 =>
    if ¬ (lg_cmp z1.1 0) = 0 then
      if ¬ l4 = 0 then
        Option.bind (dvL l2 z1.1) fun v4 =>
        some (v4, z1.2)
      else
        Option.bind (dvL l0 z1.1) fun v5 =>
        some (v5, z1.2)
    else
      some ((Int32.toInt64 l4), z1.2)
set_option maxRecDepth 20000 in
theorem m_X7_leastTerms {k : KT} {q : Int64 × Mem} (hk : CX k cX7_leastTerms RX7 7 (some .long) 2) (hq : RL_ k q) (M : Mem) (l0 : Int64) (l2 : Int64) (l4 : Int32)  : GG k q (wM k M) 0 [(0, .long l0), (2, .long l2), (4, .int l4)] [] (f_X7_leastTerms M l0 l2 l4) := by
  unfold f_X7_leastTerms
  refine GG_lload_n hk (pc' := 1) 0 dX7_leastTerms_0 rfl rfl rfl ?_
  refine GG_lload_n hk (pc' := 2) 1 dX7_leastTerms_1 rfl rfl rfl ?_
  refine GG_callSl hk (st := []) (pc' := 5) mf_X7_commonDivisor tw_750 (c_X7_commonDivisor _ _ _ M l0 l2 ) (by omega) tw_749 rfl rfl (Nat.le_of_ble_eq_true rfl) dX7_leastTerms_2 rfl (fun z1 e_z1 => ?_)
  refine GG_lstore hk (pc' := 7) [(5, .long z1.1), (0, .long l0), (2, .long l2), (4, .int l4)] dX7_leastTerms_5 rfl (by decide) rfl ?_
  refine GG_lload hk (pc' := 9) 0 dX7_leastTerms_7 rfl rfl ?_
  refine GG_lconst hk (pc' := 10) 0 dX7_leastTerms_9 rfl rfl ?_
  refine GG_lcmp hk (pc' := 11) dX7_leastTerms_10 rfl ?_
  refine GG_if_ne hk 18 (pc' := 14) dX7_leastTerms_11 rfl (by decide) (fun c2 => ?_) (fun c2 => ?_)
  · refine GG_iload hk (pc' := 20) 3 dX7_leastTerms_18 rfl rfl ?_
    refine GG_if_ne hk 27 (pc' := 23) dX7_leastTerms_20 rfl (by decide) (fun c3 => ?_) (fun c3 => ?_)
    · refine GG_lload_n hk (pc' := 28) 2 dX7_leastTerms_27 rfl rfl rfl ?_
      refine GG_lload hk (pc' := 30) 0 dX7_leastTerms_28 rfl rfl ?_
      refine GG_ldiv hk (pc' := 31) dX7_leastTerms_30 rfl (fun v4 e_v4 => ?_)
      exact GG_lret hk hq dX7_leastTerms_31
    · refine GG_lload_n hk (pc' := 24) 1 dX7_leastTerms_23 rfl rfl rfl ?_
      refine GG_goto hk 28 dX7_leastTerms_24 (by decide) ?_
      refine GG_lload hk (pc' := 30) 0 dX7_leastTerms_28 rfl rfl ?_
      refine GG_ldiv hk (pc' := 31) dX7_leastTerms_30 rfl (fun v5 e_v5 => ?_)
      exact GG_lret hk hq dX7_leastTerms_31
  · refine GG_iload hk (pc' := 16) 3 dX7_leastTerms_14 rfl rfl ?_
    refine GG_i2l hk (pc' := 17) dX7_leastTerms_16 rfl ?_
    exact GG_lret hk hq dX7_leastTerms_17
theorem c_X7_leastTerms (l : Launch) (C : DD) (a : Nat) (M : Mem) (l0 : Int64) (l2 : Int64) (l4 : Int32)  : CL l C (a) yX7_leastTerms cX7_leastTerms 7 2 [.long l0, .long l2, .int l4] M (f_X7_leastTerms M l0 l2 l4) := by
  refine CL_of RX7 (by decide +kernel) rfl (Nat.le_of_ble_eq_true rfl) (fun k q hk hq e1 e2 e3 => ?_)
  subst e1; subst e2; subst e3
  exact m_X7_leastTerms hk hq M l0 l2 l4 

/-! SettingsInLayers.missing(IIII)J -/
noncomputable def f_X7_missing_157  (M : Mem) (l3 : Int32) (l4 : Int32) (l5 : Int64) : Option (Int64 × Mem) :=
    Option.bind (f_J6_bitCount_0f7a4 M (M 1 0)) fun z1 =>
    Option.bind (f_X7_power z1.2 (Int32.toInt64 l3) z1.1) fun z2 =>
    Option.bind (f_X7_leastTerms z2.2 l5 z2.1 l4) fun z3 =>
    some (z3.1, z3.2)
set_option maxRecDepth 20000 in
theorem m_X7_missing_157 {k : KT} {q : Int64 × Mem} (hk : CX k cX7_missing RX7 8 (some .long) 132) (hq : RL_ k q) (M : Mem) (l3 : Int32) (l4 : Int32) (l5 : Int64)  : GG k q (wM k M) 157 [(0, .ref (kh k + 0)), (3, .int l3), (4, .int l4), (5, .long l5)] [] (f_X7_missing_157  M l3 l4 l5) := by
  unfold f_X7_missing_157
  refine GG_lload hk (pc' := 159) 3 dX7_missing_157 rfl rfl ?_
  refine GG_iload_n hk (pc' := 160) 1 dX7_missing_159 rfl rfl rfl ?_
  refine GG_i2l hk (pc' := 161) dX7_missing_160 rfl ?_
  refine GG_aload_n hk (pc' := 162) 0 dX7_missing_161 rfl rfl rfl ?_
  refine GG_get hk LC7 0 (v := .ref (kh k + 1)) (pc' := 165) tw_298 rfl rfl (by decide) rfl dX7_missing_162 rfl ?_
  refine GG_get hk LC4 0 (v := .int (M 1 0)) (pc' := 168) tw_45 rfl (kdS okS_1) (by decide) rfl dX7_missing_165 rfl ?_
  refine GG_callSi hk (st := [.long (Int32.toInt64 l3), .long l5]) (pc' := 171) mf_J6_bitCount_0f7a4 tw_541 (c_J6_bitCount_0f7a4 _ _ _ M (M 1 0) ) (by omega) tw_540 rfl rfl (Nat.le_of_ble_eq_true rfl) dX7_missing_168 rfl (fun z1 e_z1 => ?_)
  refine GG_callSl hk (st := [.long l5]) (pc' := 174) mf_X7_power tw_744 (c_X7_power _ _ _ z1.2 (Int32.toInt64 l3) z1.1 ) (by omega) tw_743 rfl rfl (Nat.le_of_ble_eq_true rfl) dX7_missing_171 rfl (fun z2 e_z2 => ?_)
  refine GG_iload hk (pc' := 176) 2 dX7_missing_174 rfl rfl ?_
  refine GG_callSl hk (st := []) (pc' := 179) mf_X7_leastTerms tw_747 (c_X7_leastTerms _ _ _ z2.2 l5 z2.1 l4 ) (by omega) tw_746 rfl rfl (Nat.le_of_ble_eq_true rfl) dX7_missing_176 rfl (fun z3 e_z3 => ?_)
  exact GG_lret hk hq dX7_missing_179
noncomputable def f_X7_missing_84  : Nat → Mem → Int32 → Int32 → Int32 → Int32 → Int64 → Int32 → Option (Int64 × Mem)
  | 0, _, _, _, _, _, _, _ => none
  | n + 1, M, l1, l2, l3, l4, l5, l7 =>
    if 64 ≤ l7 then
      f_X7_missing_157  M l3 l4 l5
    else
      Option.bind (wrf M 21 0 l7) fun M2 =>
      if ¬ (l7 &&& ((M2 1 0) ^^^ (-1))) = 0 then
        f_X7_missing_84  n M2 l1 l2 l3 l4 l5 (l7 + 1)
      else
        Option.bind (f_X2_ask M2 21 l1) fun z4 =>
        Option.bind (f_X1_numberOrNothing z4 34) fun z5 =>
        if ¬ z5.1 = l2 then
          f_X7_missing_84  n z5.2 l1 l2 l3 l4 l5 (l7 + 1)
        else
          Option.bind (f_J6_bitCount_0f7a4 z5.2 l7) fun z7 =>
          Option.bind (f_X7_power z7.2 (Int32.toInt64 (l3 - 1)) z7.1) fun z8 =>
          f_X7_missing_84  n z8.2 l1 l2 l3 l4 (l5 + z8.1) (l7 + 1)
set_option maxRecDepth 20000 in
theorem m_X7_missing_84 {k : KT} {q : Int64 × Mem} (hk : CX k cX7_missing RX7 8 (some .long) 132) (hq : RL_ k q) : ∀ (n : Nat) (M : Mem) (l1 : Int32) (l2 : Int32) (l3 : Int32) (l4 : Int32) (l5 : Int64) (l7 : Int32) , GG k q (wM k M) 84 [(0, .ref (kh k + 0)), (1, .int l1), (2, .int l2), (3, .int l3), (4, .int l4), (5, .long l5), (7, .int l7)] [] (f_X7_missing_84  n M l1 l2 l3 l4 l5 l7) := by
  intro n
  induction n with
  | zero => intros; exact GG_none
  | succ n ih =>
    intro M l1 l2 l3 l4 l5 l7 
    rw [f_X7_missing_84]
    refine GG_iload hk (pc' := 86) 6 dX7_missing_84 rfl rfl ?_
    refine GG_bipush hk (pc' := 88) 64 dX7_missing_86 rfl rfl ?_
    refine GG_icmp_ge hk 157 (pc' := 91) dX7_missing_88 rfl (by decide) (fun c1 => ?_) (fun c1 => ?_)
    · refine GG_sub (L' := [(0, .ref (kh k + 0)), (3, .int l3), (4, .int l4), (5, .long l5)]) [0, 3, 4, 5] rfl ?_
      exact m_X7_missing_157 hk hq  M l3 l4 l5 
    · refine GG_aload_n hk (pc' := 92) 0 dX7_missing_91 rfl rfl rfl ?_
      refine GG_get hk LC7 2 (v := .ref (kh k + 21)) (pc' := 95) tw_300 rfl rfl (by decide) rfl dX7_missing_92 rfl ?_
      refine GG_iload hk (pc' := 97) 6 dX7_missing_95 rfl rfl ?_
      refine GG_put hk LC4 0 (pc' := 100) tw_45 rfl (kdS okS_21) (by decide) rfl rfl (Nat.le_of_ble_eq_true rfl) (pv_4_0 _ _ _ _) dX7_missing_97 rfl (fun M2 e_M2 => ?_)
      refine GG_iload hk (pc' := 102) 6 dX7_missing_100 rfl rfl ?_
      refine GG_aload_n hk (pc' := 103) 0 dX7_missing_102 rfl rfl rfl ?_
      refine GG_get hk LC7 0 (v := .ref (kh k + 1)) (pc' := 106) tw_298 rfl rfl (by decide) rfl dX7_missing_103 rfl ?_
      refine GG_get hk LC4 0 (v := .int (M2 1 0)) (pc' := 109) tw_45 rfl (kdS okS_1) (by decide) rfl dX7_missing_106 rfl ?_
      refine GG_iconst hk (pc' := 110) (-1) dX7_missing_109 rfl rfl ?_
      refine GG_ixor hk (pc' := 111) dX7_missing_110 rfl ?_
      refine GG_iand hk (pc' := 112) dX7_missing_111 rfl ?_
      refine GG_if_ne hk 151 (pc' := 115) dX7_missing_112 rfl (by decide) (fun c3 => ?_) (fun c3 => ?_)
      · refine GG_iinc hk (pc' := 154) 6 (l7 + 1) [(7, .int (l7 + 1)), (0, .ref (kh k + 0)), (1, .int l1), (2, .int l2), (3, .int l3), (4, .int l4), (5, .long l5)] dX7_missing_151 rfl rfl rfl (by decide) rfl ?_
        refine GG_goto hk 84 dX7_missing_154 (by decide) ?_
        refine GG_sub (L' := [(0, .ref (kh k + 0)), (1, .int l1), (2, .int l2), (3, .int l3), (4, .int l4), (5, .long l5), (7, .int (l7 + 1))]) [1, 2, 3, 4, 5, 6, 0] rfl ?_
        exact ih M2 l1 l2 l3 l4 l5 (l7 + 1) 
      · refine GG_aload_n hk (pc' := 116) 0 dX7_missing_115 rfl rfl rfl ?_
        refine GG_get hk LC7 3 (v := .ref (kh k + 31)) (pc' := 119) tw_301 rfl rfl (by decide) rfl dX7_missing_116 rfl ?_
        refine GG_aload_n hk (pc' := 120) 0 dX7_missing_119 rfl rfl rfl ?_
        refine GG_get hk LC7 2 (v := .ref (kh k + 21)) (pc' := 123) tw_300 rfl rfl (by decide) rfl dX7_missing_120 rfl ?_
        refine GG_iload_n hk (pc' := 124) 1 dX7_missing_123 rfl rfl rfl ?_
        refine GG_callVr hk (st := []) (pc' := 127) mf_X2_ask mv_X2_ask LC2 rfl (c_X2_ask _ _ _ M2 21 l1 okS_21) (by omega) tw_563 rfl rfl rfl (Nat.le_of_ble_eq_true rfl) dX7_missing_124 rfl (fun z4 e_z4 => ?_)
        refine GG_callVi hk (st := []) (pc' := 130) mf_X1_numberOrNothing mv_X1_numberOrNothing LC1 rfl (c_X1_numberOrNothing _ _ _ z4 34 okO_34) (by omega) tw_698 (kdO okO_34) rfl rfl (Nat.le_of_ble_eq_true rfl) dX7_missing_127 rfl (fun z5 e_z5 => ?_)
        refine GG_iload_n hk (pc' := 131) 2 dX7_missing_130 rfl rfl rfl ?_
        refine GG_icmp_ne hk 151 (pc' := 134) dX7_missing_131 rfl (by decide) (fun c6 => ?_) (fun c6 => ?_)
        · refine GG_iinc hk (pc' := 154) 6 (l7 + 1) [(7, .int (l7 + 1)), (0, .ref (kh k + 0)), (1, .int l1), (2, .int l2), (3, .int l3), (4, .int l4), (5, .long l5)] dX7_missing_151 rfl rfl rfl (by decide) rfl ?_
          refine GG_goto hk 84 dX7_missing_154 (by decide) ?_
          refine GG_sub (L' := [(0, .ref (kh k + 0)), (1, .int l1), (2, .int l2), (3, .int l3), (4, .int l4), (5, .long l5), (7, .int (l7 + 1))]) [1, 2, 3, 4, 5, 6, 0] rfl ?_
          exact ih z5.2 l1 l2 l3 l4 l5 (l7 + 1) 
        · refine GG_lload hk (pc' := 136) 5 dX7_missing_134 rfl rfl ?_
          refine GG_iload_n hk (pc' := 137) 3 dX7_missing_136 rfl rfl rfl ?_
          refine GG_iconst hk (pc' := 138) 1 dX7_missing_137 rfl rfl ?_
          refine GG_isub hk (pc' := 139) dX7_missing_138 rfl ?_
          refine GG_i2l hk (pc' := 140) dX7_missing_139 rfl ?_
          refine GG_iload hk (pc' := 142) 6 dX7_missing_140 rfl rfl ?_
          refine GG_callSi hk (st := [.long (Int32.toInt64 (l3 - 1)), .long l5]) (pc' := 145) mf_J6_bitCount_0f7a4 tw_541 (c_J6_bitCount_0f7a4 _ _ _ z5.2 l7 ) (by omega) tw_540 rfl rfl (Nat.le_of_ble_eq_true rfl) dX7_missing_142 rfl (fun z7 e_z7 => ?_)
          refine GG_callSl hk (st := [.long l5]) (pc' := 148) mf_X7_power tw_744 (c_X7_power _ _ _ z7.2 (Int32.toInt64 (l3 - 1)) z7.1 ) (by omega) tw_743 rfl rfl (Nat.le_of_ble_eq_true rfl) dX7_missing_145 rfl (fun z8 e_z8 => ?_)
          refine GG_ladd hk (pc' := 149) dX7_missing_148 rfl ?_
          refine GG_lstore hk (pc' := 151) [(5, .long (l5 + z8.1)), (0, .ref (kh k + 0)), (1, .int l1), (2, .int l2), (3, .int l3), (4, .int l4), (7, .int l7)] dX7_missing_149 rfl (by decide) rfl ?_
          refine GG_iinc hk (pc' := 154) 6 (l7 + 1) [(7, .int (l7 + 1)), (5, .long (l5 + z8.1)), (0, .ref (kh k + 0)), (1, .int l1), (2, .int l2), (3, .int l3), (4, .int l4)] dX7_missing_151 rfl rfl rfl (by decide) rfl ?_
          refine GG_goto hk 84 dX7_missing_154 (by decide) ?_
          refine GG_sub (L' := [(0, .ref (kh k + 0)), (1, .int l1), (2, .int l2), (3, .int l3), (4, .int l4), (5, .long (l5 + z8.1)), (7, .int (l7 + 1))]) [2, 3, 4, 5, 6, 1, 0] rfl ?_
          exact ih z8.2 l1 l2 l3 l4 (l5 + z8.1) (l7 + 1) 
noncomputable def f_X7_missing (M : Mem) (l1 : Int32) (l2 : Int32) (l3 : Int32) (l4 : Int32) : Option (Int64 × Mem) :=
    Option.bind (f_X7_noKey M l1) fun z1 =>
    if z1.1 = 0 then
      if l2 < 0 then
        Option.bind (f_X7_refuseLong z1.2 (-4)) fun z4 =>
        some (z4.1, z4.2)
      else
        if 2 ≤ l3 then
          if 999 < l2 then
            Option.bind (f_X7_refuseLong z1.2 (-6)) fun z7 =>
            some (z7.1, z7.2)
          else
            if l3 ≤ 20 then
              if l4 < 0 then
                Option.bind (f_X7_refuseLong z1.2 (-2)) fun z10 =>
                some (z10.1, z10.2)
              else
                if l4 ≤ 1 then
                  Option.bind (f_X4_become z1.2 21 1) fun z12 =>
                  f_X7_missing_84  1000 z12 l1 l2 l3 l4 0 0
                else
                  Option.bind (f_X7_refuseLong z1.2 (-2)) fun z13 =>
                  some (z13.1, z13.2)
            else
              Option.bind (f_X7_refuseLong z1.2 (-6)) fun z14 =>
              some (z14.1, z14.2)
        else
          Option.bind (f_X7_refuseLong z1.2 (-4)) fun z15 =>
          some (z15.1, z15.2)
    else
      Option.bind (f_X7_refuseLong z1.2 (-1)) fun z16 =>
      some (z16.1, z16.2)
set_option maxRecDepth 20000 in
theorem m_X7_missing {k : KT} {q : Int64 × Mem} (hk : CX k cX7_missing RX7 8 (some .long) 132) (hq : RL_ k q) (M : Mem) (l1 : Int32) (l2 : Int32) (l3 : Int32) (l4 : Int32)  : GG k q (wM k M) 0 [(0, .ref (kh k + 0)), (1, .int l1), (2, .int l2), (3, .int l3), (4, .int l4)] [] (f_X7_missing M l1 l2 l3 l4) := by
  unfold f_X7_missing
  refine GG_iload_n hk (pc' := 1) 1 dX7_missing_0 rfl rfl rfl ?_
  refine GG_callSi hk (st := []) (pc' := 4) mf_X7_noKey tw_386 (c_X7_noKey _ _ _ M l1 ) (by omega) tw_498 rfl rfl (Nat.le_of_ble_eq_true rfl) dX7_missing_1 rfl (fun z1 e_z1 => ?_)
  refine GG_if_eq hk 13 (pc' := 7) dX7_missing_4 rfl (by decide) (fun c2 => ?_) (fun c2 => ?_)
  · refine GG_iload_n hk (pc' := 14) 2 dX7_missing_13 rfl rfl rfl ?_
    refine GG_if_lt hk 22 (pc' := 17) dX7_missing_14 rfl (by decide) (fun c3 => ?_) (fun c3 => ?_)
    · refine GG_aload_n hk (pc' := 23) 0 dX7_missing_22 rfl rfl rfl ?_
      refine GG_bipush hk (pc' := 25) (-4) dX7_missing_23 rfl rfl ?_
      refine GG_callVl hk (st := []) (pc' := 28) mf_X7_refuseLong mv_X7_refuseLong LC7 rfl (c_X7_refuseLong _ _ _ z1.2 (-4) ) (by omega) tw_738 rfl rfl rfl (Nat.le_of_ble_eq_true rfl) dX7_missing_25 rfl (fun z4 e_z4 => ?_)
      exact GG_lret hk hq dX7_missing_28
    · refine GG_iload_n hk (pc' := 18) 3 dX7_missing_17 rfl rfl rfl ?_
      refine GG_iconst hk (pc' := 19) 2 dX7_missing_18 rfl rfl ?_
      refine GG_icmp_ge hk 29 (pc' := 22) dX7_missing_19 rfl (by decide) (fun c5 => ?_) (fun c5 => ?_)
      · refine GG_iload_n hk (pc' := 30) 2 dX7_missing_29 rfl rfl rfl ?_
        refine GG_sipush hk (pc' := 33) 999 dX7_missing_30 rfl rfl ?_
        refine GG_icmp_gt hk 42 (pc' := 36) dX7_missing_33 rfl (by decide) (fun c6 => ?_) (fun c6 => ?_)
        · refine GG_aload_n hk (pc' := 43) 0 dX7_missing_42 rfl rfl rfl ?_
          refine GG_bipush hk (pc' := 45) (-6) dX7_missing_43 rfl rfl ?_
          refine GG_callVl hk (st := []) (pc' := 48) mf_X7_refuseLong mv_X7_refuseLong LC7 rfl (c_X7_refuseLong _ _ _ z1.2 (-6) ) (by omega) tw_738 rfl rfl rfl (Nat.le_of_ble_eq_true rfl) dX7_missing_45 rfl (fun z7 e_z7 => ?_)
          exact GG_lret hk hq dX7_missing_48
        · refine GG_iload_n hk (pc' := 37) 3 dX7_missing_36 rfl rfl rfl ?_
          refine GG_bipush hk (pc' := 39) 20 dX7_missing_37 rfl rfl ?_
          refine GG_icmp_le hk 49 (pc' := 42) dX7_missing_39 rfl (by decide) (fun c8 => ?_) (fun c8 => ?_)
          · refine GG_iload hk (pc' := 51) 4 dX7_missing_49 rfl rfl ?_
            refine GG_if_lt hk 60 (pc' := 54) dX7_missing_51 rfl (by decide) (fun c9 => ?_) (fun c9 => ?_)
            · refine GG_aload_n hk (pc' := 61) 0 dX7_missing_60 rfl rfl rfl ?_
              refine GG_bipush hk (pc' := 63) (-2) dX7_missing_61 rfl rfl ?_
              refine GG_callVl hk (st := []) (pc' := 66) mf_X7_refuseLong mv_X7_refuseLong LC7 rfl (c_X7_refuseLong _ _ _ z1.2 (-2) ) (by omega) tw_738 rfl rfl rfl (Nat.le_of_ble_eq_true rfl) dX7_missing_63 rfl (fun z10 e_z10 => ?_)
              exact GG_lret hk hq dX7_missing_66
            · refine GG_iload hk (pc' := 56) 4 dX7_missing_54 rfl rfl ?_
              refine GG_iconst hk (pc' := 57) 1 dX7_missing_56 rfl rfl ?_
              refine GG_icmp_le hk 67 (pc' := 60) dX7_missing_57 rfl (by decide) (fun c11 => ?_) (fun c11 => ?_)
              · refine GG_lconst hk (pc' := 68) 0 dX7_missing_67 rfl rfl ?_
                refine GG_lstore hk (pc' := 70) [(5, .long 0), (0, .ref (kh k + 0)), (1, .int l1), (2, .int l2), (3, .int l3), (4, .int l4)] dX7_missing_68 rfl (by decide) rfl ?_
                refine GG_aload_n hk (pc' := 71) 1 dX7_missing_70 rfl rfl rfl ?_
                refine GG_get hk LC7 2 (v := .ref (kh k + 21)) (pc' := 74) tw_300 rfl rfl (by decide) rfl dX7_missing_71 rfl ?_
                refine GG_aload_n hk (pc' := 75) 1 dX7_missing_74 rfl rfl rfl ?_
                refine GG_get hk LC7 0 (v := .ref (kh k + 1)) (pc' := 78) tw_298 rfl rfl (by decide) rfl dX7_missing_75 rfl ?_
                refine GG_callVv hk (st := []) (pc' := 81) mf_X4_become mv_X4_become LC4 rfl (c_X4_become _ _ _ z1.2 21 1 okS_21 okS_1) (by omega) tw_424 (kdS okS_21) rfl rfl (Nat.le_of_ble_eq_true rfl) dX7_missing_78 rfl (fun z12 e_z12 => ?_)
                refine GG_iconst hk (pc' := 82) 0 dX7_missing_81 rfl rfl ?_
                refine GG_istore hk (pc' := 84) [(7, .int 0), (5, .long 0), (0, .ref (kh k + 0)), (1, .int l1), (2, .int l2), (3, .int l3), (4, .int l4)] dX7_missing_82 rfl (by decide) rfl ?_
                refine GG_sub (L' := [(0, .ref (kh k + 0)), (1, .int l1), (2, .int l2), (3, .int l3), (4, .int l4), (5, .long 0), (7, .int 0)]) [2, 3, 4, 5, 6, 1, 0] rfl ?_
                exact m_X7_missing_84 hk hq  1000 z12 l1 l2 l3 l4 0 0 
              · refine GG_aload_n hk (pc' := 61) 0 dX7_missing_60 rfl rfl rfl ?_
                refine GG_bipush hk (pc' := 63) (-2) dX7_missing_61 rfl rfl ?_
                refine GG_callVl hk (st := []) (pc' := 66) mf_X7_refuseLong mv_X7_refuseLong LC7 rfl (c_X7_refuseLong _ _ _ z1.2 (-2) ) (by omega) tw_738 rfl rfl rfl (Nat.le_of_ble_eq_true rfl) dX7_missing_63 rfl (fun z13 e_z13 => ?_)
                exact GG_lret hk hq dX7_missing_66
          · refine GG_aload_n hk (pc' := 43) 0 dX7_missing_42 rfl rfl rfl ?_
            refine GG_bipush hk (pc' := 45) (-6) dX7_missing_43 rfl rfl ?_
            refine GG_callVl hk (st := []) (pc' := 48) mf_X7_refuseLong mv_X7_refuseLong LC7 rfl (c_X7_refuseLong _ _ _ z1.2 (-6) ) (by omega) tw_738 rfl rfl rfl (Nat.le_of_ble_eq_true rfl) dX7_missing_45 rfl (fun z14 e_z14 => ?_)
            exact GG_lret hk hq dX7_missing_48
      · refine GG_aload_n hk (pc' := 23) 0 dX7_missing_22 rfl rfl rfl ?_
        refine GG_bipush hk (pc' := 25) (-4) dX7_missing_23 rfl rfl ?_
        refine GG_callVl hk (st := []) (pc' := 28) mf_X7_refuseLong mv_X7_refuseLong LC7 rfl (c_X7_refuseLong _ _ _ z1.2 (-4) ) (by omega) tw_738 rfl rfl rfl (Nat.le_of_ble_eq_true rfl) dX7_missing_25 rfl (fun z15 e_z15 => ?_)
        exact GG_lret hk hq dX7_missing_28
  · refine GG_aload_n hk (pc' := 8) 0 dX7_missing_7 rfl rfl rfl ?_
    refine GG_iconst hk (pc' := 9) (-1) dX7_missing_8 rfl rfl ?_
    refine GG_callVl hk (st := []) (pc' := 12) mf_X7_refuseLong mv_X7_refuseLong LC7 rfl (c_X7_refuseLong _ _ _ z1.2 (-1) ) (by omega) tw_738 rfl rfl rfl (Nat.le_of_ble_eq_true rfl) dX7_missing_9 rfl (fun z16 e_z16 => ?_)
    exact GG_lret hk hq dX7_missing_12
theorem c_X7_missing (l : Launch) (C : DD) (a : Nat) (M : Mem) (l1 : Int32) (l2 : Int32) (l3 : Int32) (l4 : Int32)  : CL l C (a) yX7_missing cX7_missing 8 132 [.ref (a + 0), .int l1, .int l2, .int l3, .int l4] M (f_X7_missing M l1 l2 l3 l4) := by
  refine CL_of RX7 (by decide +kernel) rfl (Nat.le_of_ble_eq_true rfl) (fun k q hk hq e1 e2 e3 => ?_)
  subst e1; subst e2; subst e3
  exact m_X7_missing hk hq M l1 l2 l3 l4 

/-! SettingsInLayers.mean(I)J -/
noncomputable def f_X7_mean_24  : Nat → Mem → Int32 → Int64 → Int64 → Int32 → Option (Int64 × Mem)
  | 0, _, _, _, _, _ => none
  | n + 1, M, l1, l2, l4, l6 =>
    if 8 ≤ l6 then
      Option.bind (f_X7_leastTerms M l2 l4 l1) fun z2 =>
      some (z2.1, z2.2)
    else
      Option.bind (f_X2_ask M 1 l6) fun z3 =>
      Option.bind (f_X1_numberOrNothing z3 34) fun z4 =>
      if z4.1 = (-9) then
        f_X7_mean_24  n z4.2 l1 l2 l4 (l6 + 1)
      else
        Option.bind (some (l2 + (Int32.toInt64 z4.1))) fun v6 =>
        f_X7_mean_24  n z4.2 l1 v6 (l4 + 1) (l6 + 1)
set_option maxRecDepth 20000 in
theorem m_X7_mean_24 {k : KT} {q : Int64 × Mem} (hk : CX k cX7_mean RX7 8 (some .long) 132) (hq : RL_ k q) : ∀ (n : Nat) (M : Mem) (l1 : Int32) (l2 : Int64) (l4 : Int64) (l6 : Int32) , GG k q (wM k M) 24 [(0, .ref (kh k + 0)), (1, .int l1), (2, .long l2), (4, .long l4), (6, .int l6)] [] (f_X7_mean_24  n M l1 l2 l4 l6) := by
  intro n
  induction n with
  | zero => intros; exact GG_none
  | succ n ih =>
    intro M l1 l2 l4 l6 
    rw [f_X7_mean_24]
    refine GG_iload hk (pc' := 26) 4 dX7_mean_24 rfl rfl ?_
    refine GG_bipush hk (pc' := 28) 8 dX7_mean_26 rfl rfl ?_
    refine GG_icmp_ge hk 74 (pc' := 31) dX7_mean_28 rfl (by decide) (fun c1 => ?_) (fun c1 => ?_)
    · refine GG_lload_n hk (pc' := 75) 2 dX7_mean_74 rfl rfl rfl ?_
      refine GG_lload hk (pc' := 77) 3 dX7_mean_75 rfl rfl ?_
      refine GG_iload_n hk (pc' := 78) 1 dX7_mean_77 rfl rfl rfl ?_
      refine GG_callSl hk (st := []) (pc' := 81) mf_X7_leastTerms tw_747 (c_X7_leastTerms _ _ _ M l2 l4 l1 ) (by omega) tw_746 rfl rfl (Nat.le_of_ble_eq_true rfl) dX7_mean_78 rfl (fun z2 e_z2 => ?_)
      exact GG_lret hk hq dX7_mean_81
    · refine GG_aload_n hk (pc' := 32) 0 dX7_mean_31 rfl rfl rfl ?_
      refine GG_get hk LC7 3 (v := .ref (kh k + 31)) (pc' := 35) tw_301 rfl rfl (by decide) rfl dX7_mean_32 rfl ?_
      refine GG_aload_n hk (pc' := 36) 0 dX7_mean_35 rfl rfl rfl ?_
      refine GG_get hk LC7 0 (v := .ref (kh k + 1)) (pc' := 39) tw_298 rfl rfl (by decide) rfl dX7_mean_36 rfl ?_
      refine GG_iload hk (pc' := 41) 4 dX7_mean_39 rfl rfl ?_
      refine GG_callVr hk (st := []) (pc' := 44) mf_X2_ask mv_X2_ask LC2 rfl (c_X2_ask _ _ _ M 1 l6 okS_1) (by omega) tw_563 rfl rfl rfl (Nat.le_of_ble_eq_true rfl) dX7_mean_41 rfl (fun z3 e_z3 => ?_)
      refine GG_callVi hk (st := []) (pc' := 47) mf_X1_numberOrNothing mv_X1_numberOrNothing LC1 rfl (c_X1_numberOrNothing _ _ _ z3 34 okO_34) (by omega) tw_698 (kdO okO_34) rfl rfl (Nat.le_of_ble_eq_true rfl) dX7_mean_44 rfl (fun z4 e_z4 => ?_)
      refine GG_istore hk (pc' := 49) [(7, .int z4.1), (0, .ref (kh k + 0)), (1, .int l1), (2, .long l2), (4, .long l4), (6, .int l6)] dX7_mean_47 rfl (by decide) rfl ?_
      refine GG_iload hk (pc' := 51) 0 dX7_mean_49 rfl rfl ?_
      refine GG_bipush hk (pc' := 53) (-9) dX7_mean_51 rfl rfl ?_
      refine GG_icmp_eq hk 68 (pc' := 56) dX7_mean_53 rfl (by decide) (fun c5 => ?_) (fun c5 => ?_)
      · refine GG_iinc hk (pc' := 71) 5 (l6 + 1) [(6, .int (l6 + 1)), (7, .int z4.1), (0, .ref (kh k + 0)), (1, .int l1), (2, .long l2), (4, .long l4)] dX7_mean_68 rfl rfl rfl (by decide) rfl ?_
        refine GG_goto hk 24 dX7_mean_71 (by decide) ?_
        refine GG_sub (L' := [(0, .ref (kh k + 0)), (1, .int l1), (2, .long l2), (4, .long l4), (6, .int (l6 + 1))]) [2, 3, 4, 5, 0] rfl ?_
        exact ih z4.2 l1 l2 l4 (l6 + 1) 
      · refine GG_lload_n hk (pc' := 57) 3 dX7_mean_56 rfl rfl rfl ?_
        refine GG_iload hk (pc' := 59) 0 dX7_mean_57 rfl rfl ?_
        refine GG_i2l hk (pc' := 60) dX7_mean_59 rfl ?_
        refine GG_ladd hk (pc' := 61) dX7_mean_60 rfl ?_
        refine GG_nml (fun v6 e_v6 => ?_)
        refine GG_lstore_n hk (pc' := 62) [(2, .long v6), (7, .int z4.1), (0, .ref (kh k + 0)), (1, .int l1), (4, .long l4), (6, .int l6)] dX7_mean_61 rfl rfl (by decide) rfl ?_
        refine GG_lload hk (pc' := 64) 4 dX7_mean_62 rfl rfl ?_
        refine GG_lconst hk (pc' := 65) 1 dX7_mean_64 rfl rfl ?_
        refine GG_ladd hk (pc' := 66) dX7_mean_65 rfl ?_
        refine GG_lstore hk (pc' := 68) [(4, .long (l4 + 1)), (2, .long v6), (7, .int z4.1), (0, .ref (kh k + 0)), (1, .int l1), (6, .int l6)] dX7_mean_66 rfl (by decide) rfl ?_
        refine GG_iinc hk (pc' := 71) 5 (l6 + 1) [(6, .int (l6 + 1)), (4, .long (l4 + 1)), (2, .long v6), (7, .int z4.1), (0, .ref (kh k + 0)), (1, .int l1)] dX7_mean_68 rfl rfl rfl (by decide) rfl ?_
        refine GG_goto hk 24 dX7_mean_71 (by decide) ?_
        refine GG_sub (L' := [(0, .ref (kh k + 0)), (1, .int l1), (2, .long v6), (4, .long (l4 + 1)), (6, .int (l6 + 1))]) [4, 5, 2, 1, 0] rfl ?_
        exact ih z4.2 l1 v6 (l4 + 1) (l6 + 1) 
noncomputable def f_X7_mean (M : Mem) (l1 : Int32) : Option (Int64 × Mem) :=
    if l1 < 0 then
      Option.bind (f_X7_refuseLong M (-2)) fun z2 =>
      some (z2.1, z2.2)
    else
      if l1 ≤ 1 then
        f_X7_mean_24  1000 M l1 0 0 0
      else
        Option.bind (f_X7_refuseLong M (-2)) fun z4 =>
        some (z4.1, z4.2)
set_option maxRecDepth 20000 in
theorem m_X7_mean {k : KT} {q : Int64 × Mem} (hk : CX k cX7_mean RX7 8 (some .long) 132) (hq : RL_ k q) (M : Mem) (l1 : Int32)  : GG k q (wM k M) 0 [(0, .ref (kh k + 0)), (1, .int l1)] [] (f_X7_mean M l1) := by
  unfold f_X7_mean
  refine GG_iload_n hk (pc' := 1) 1 dX7_mean_0 rfl rfl rfl ?_
  refine GG_if_lt hk 9 (pc' := 4) dX7_mean_1 rfl (by decide) (fun c1 => ?_) (fun c1 => ?_)
  · refine GG_aload_n hk (pc' := 10) 0 dX7_mean_9 rfl rfl rfl ?_
    refine GG_bipush hk (pc' := 12) (-2) dX7_mean_10 rfl rfl ?_
    refine GG_callVl hk (st := []) (pc' := 15) mf_X7_refuseLong mv_X7_refuseLong LC7 rfl (c_X7_refuseLong _ _ _ M (-2) ) (by omega) tw_738 rfl rfl rfl (Nat.le_of_ble_eq_true rfl) dX7_mean_12 rfl (fun z2 e_z2 => ?_)
    exact GG_lret hk hq dX7_mean_15
  · refine GG_iload_n hk (pc' := 5) 1 dX7_mean_4 rfl rfl rfl ?_
    refine GG_iconst hk (pc' := 6) 1 dX7_mean_5 rfl rfl ?_
    refine GG_icmp_le hk 16 (pc' := 9) dX7_mean_6 rfl (by decide) (fun c3 => ?_) (fun c3 => ?_)
    · refine GG_lconst hk (pc' := 17) 0 dX7_mean_16 rfl rfl ?_
      refine GG_lstore_n hk (pc' := 18) [(2, .long 0), (0, .ref (kh k + 0)), (1, .int l1)] dX7_mean_17 rfl rfl (by decide) rfl ?_
      refine GG_lconst hk (pc' := 19) 0 dX7_mean_18 rfl rfl ?_
      refine GG_lstore hk (pc' := 21) [(4, .long 0), (2, .long 0), (0, .ref (kh k + 0)), (1, .int l1)] dX7_mean_19 rfl (by decide) rfl ?_
      refine GG_iconst hk (pc' := 22) 0 dX7_mean_21 rfl rfl ?_
      refine GG_istore hk (pc' := 24) [(6, .int 0), (4, .long 0), (2, .long 0), (0, .ref (kh k + 0)), (1, .int l1)] dX7_mean_22 rfl (by decide) rfl ?_
      refine GG_sub (L' := [(0, .ref (kh k + 0)), (1, .int l1), (2, .long 0), (4, .long 0), (6, .int 0)]) [3, 4, 2, 1, 0] rfl ?_
      exact m_X7_mean_24 hk hq  1000 M l1 0 0 0 
    · refine GG_aload_n hk (pc' := 10) 0 dX7_mean_9 rfl rfl rfl ?_
      refine GG_bipush hk (pc' := 12) (-2) dX7_mean_10 rfl rfl ?_
      refine GG_callVl hk (st := []) (pc' := 15) mf_X7_refuseLong mv_X7_refuseLong LC7 rfl (c_X7_refuseLong _ _ _ M (-2) ) (by omega) tw_738 rfl rfl rfl (Nat.le_of_ble_eq_true rfl) dX7_mean_12 rfl (fun z4 e_z4 => ?_)
      exact GG_lret hk hq dX7_mean_15
theorem c_X7_mean (l : Launch) (C : DD) (a : Nat) (M : Mem) (l1 : Int32)  : CL l C (a) yX7_mean cX7_mean 8 132 [.ref (a + 0), .int l1] M (f_X7_mean M l1) := by
  refine CL_of RX7 (by decide +kernel) rfl (Nat.le_of_ble_eq_true rfl) (fun k q hk hq e1 e2 e3 => ?_)
  subst e1; subst e2; subst e3
  exact m_X7_mean hk hq M l1 

/-! SettingsInLayers.firstNotSo(LSettingsInLayers$Scene;)I -/
noncomputable def f_X7_firstNotSo_2  : Nat → Mem → Nat → Int32 → Option (Int32 × Mem)
  | 0, _, _, _ => none
  | n + 1, M, l1, l2 =>
    if (M 102 1) ≤ l2 then
      some ((-9), M)
    else
      Option.bind (f_X2_ask M l1 l2) fun z2 =>
      Option.bind (f_X1_numberOrNothing z2 34) fun z3 =>
      Option.bind (f_X3_isOtherThan z3.2 l2 z3.1) fun z4 =>
      if z4.1 = 0 then
        f_X7_firstNotSo_2  n z4.2 l1 (l2 + 1)
      else
        some (l2, z4.2)
set_option maxRecDepth 20000 in
theorem m_X7_firstNotSo_2 {k : KT} {q : Int32 × Mem} (hk : CX k cX7_firstNotSo RX7 3 (some .int) 132) (hq : RI k q) : ∀ (n : Nat) (M : Mem) (l1 : Nat) (l2 : Int32) (h_l1 : okS l1), GG k q (wM k M) 2 [(0, .ref (kh k + 0)), (1, .ref (kh k + l1)), (2, .int l2)] [] (f_X7_firstNotSo_2  n M l1 l2) := by
  intro n
  induction n with
  | zero => intros; exact GG_none
  | succ n ih =>
    intro M l1 l2 h_l1
    rw [f_X7_firstNotSo_2]
    refine GG_iload_n hk (pc' := 3) 2 dX7_firstNotSo_2 rfl rfl rfl ?_
    refine GG_aload_n hk (pc' := 4) 0 dX7_firstNotSo_3 rfl rfl rfl ?_
    refine GG_get hk LC7 5 (v := .ref (kh k + 102)) (pc' := 7) tw_303 rfl rfl (by decide) rfl dX7_firstNotSo_4 rfl ?_
    refine GG_get hk LC3 1 (v := .int (M 102 1)) (pc' := 10) tw_279 rfl rfl (by decide) rfl dX7_firstNotSo_7 rfl ?_
    refine GG_icmp_ge hk 44 (pc' := 13) dX7_firstNotSo_10 rfl (by decide) (fun c1 => ?_) (fun c1 => ?_)
    · refine GG_bipush hk (pc' := 46) (-9) dX7_firstNotSo_44 rfl rfl ?_
      exact GG_iret hk hq dX7_firstNotSo_46
    · refine GG_aload_n hk (pc' := 14) 0 dX7_firstNotSo_13 rfl rfl rfl ?_
      refine GG_get hk LC7 5 (v := .ref (kh k + 102)) (pc' := 17) tw_303 rfl rfl (by decide) rfl dX7_firstNotSo_14 rfl ?_
      refine GG_iload_n hk (pc' := 18) 2 dX7_firstNotSo_17 rfl rfl rfl ?_
      refine GG_aload_n hk (pc' := 19) 0 dX7_firstNotSo_18 rfl rfl rfl ?_
      refine GG_get hk LC7 3 (v := .ref (kh k + 31)) (pc' := 22) tw_301 rfl rfl (by decide) rfl dX7_firstNotSo_19 rfl ?_
      refine GG_aload_n hk (pc' := 23) 1 dX7_firstNotSo_22 rfl rfl rfl ?_
      refine GG_iload_n hk (pc' := 24) 2 dX7_firstNotSo_23 rfl rfl rfl ?_
      refine GG_callVr hk (st := [.int l2, .ref (kh k + 102)]) (pc' := 27) mf_X2_ask mv_X2_ask LC2 rfl (c_X2_ask _ _ _ M l1 l2 h_l1) (by omega) tw_563 rfl rfl rfl (Nat.le_of_ble_eq_true rfl) dX7_firstNotSo_24 rfl (fun z2 e_z2 => ?_)
      refine GG_callVi hk (st := [.int l2, .ref (kh k + 102)]) (pc' := 30) mf_X1_numberOrNothing mv_X1_numberOrNothing LC1 rfl (c_X1_numberOrNothing _ _ _ z2 34 okO_34) (by omega) tw_698 (kdO okO_34) rfl rfl (Nat.le_of_ble_eq_true rfl) dX7_firstNotSo_27 rfl (fun z3 e_z3 => ?_)
      refine GG_callVi hk (st := []) (pc' := 33) mf_X3_isOtherThan mv_X3_isOtherThan LC3 rfl (c_X3_isOtherThan _ _ _ z3.2 l2 z3.1 ) (by omega) tw_764 rfl rfl rfl (Nat.le_of_ble_eq_true rfl) dX7_firstNotSo_30 rfl (fun z4 e_z4 => ?_)
      refine GG_if_eq hk 38 (pc' := 36) dX7_firstNotSo_33 rfl (by decide) (fun c5 => ?_) (fun c5 => ?_)
      · refine GG_iinc hk (pc' := 41) 2 (l2 + 1) [(2, .int (l2 + 1)), (0, .ref (kh k + 0)), (1, .ref (kh k + l1))] dX7_firstNotSo_38 rfl rfl rfl (by decide) rfl ?_
        refine GG_goto hk 2 dX7_firstNotSo_41 (by decide) ?_
        refine GG_sub (L' := [(0, .ref (kh k + 0)), (1, .ref (kh k + l1)), (2, .int (l2 + 1))]) [1, 2, 0] rfl ?_
        exact ih z4.2 l1 (l2 + 1) h_l1
      · refine GG_iload_n hk (pc' := 37) 2 dX7_firstNotSo_36 rfl rfl rfl ?_
        exact GG_iret hk hq dX7_firstNotSo_37
noncomputable def f_X7_firstNotSo (M : Mem) (l1 : Nat) : Option (Int32 × Mem) :=
    f_X7_firstNotSo_2  1000 M l1 0
set_option maxRecDepth 20000 in
theorem m_X7_firstNotSo {k : KT} {q : Int32 × Mem} (hk : CX k cX7_firstNotSo RX7 3 (some .int) 132) (hq : RI k q) (M : Mem) (l1 : Nat) (h_l1 : okS l1) : GG k q (wM k M) 0 [(0, .ref (kh k + 0)), (1, .ref (kh k + l1))] [] (f_X7_firstNotSo M l1) := by
  unfold f_X7_firstNotSo
  refine GG_iconst hk (pc' := 1) 0 dX7_firstNotSo_0 rfl rfl ?_
  refine GG_istore_n hk (pc' := 2) [(2, .int 0), (0, .ref (kh k + 0)), (1, .ref (kh k + l1))] dX7_firstNotSo_1 rfl rfl (by decide) rfl ?_
  refine GG_sub (L' := [(0, .ref (kh k + 0)), (1, .ref (kh k + l1)), (2, .int 0)]) [1, 2, 0] rfl ?_
  exact m_X7_firstNotSo_2 hk hq  1000 M l1 0 h_l1
theorem c_X7_firstNotSo (l : Launch) (C : DD) (a : Nat) (M : Mem) (l1 : Nat) (h_l1 : okS l1) : CI l C (a) yX7_firstNotSo cX7_firstNotSo 3 .int 132 [.ref (a + 0), .ref (a + l1)] M (f_X7_firstNotSo M l1) := by
  refine CI_of RX7 (by decide +kernel) rfl (Nat.le_of_ble_eq_true rfl) (fun k q hk hq e1 e2 e3 => ?_)
  subst e1; subst e2; subst e3
  exact m_X7_firstNotSo hk hq M l1 h_l1

/-! SettingsInLayers.whatIs(II)I -/
noncomputable def f_X7_whatIs_103  (k58 : Mem → Int32 → Int32 → Int32 → Int32 → Int32 → Option (Int32 × Mem)) (M : Mem) (l1 : Int32) (l2 : Int32) (l3 : Int32) (l4 : Int32) (l5 : Int32) (l6 : Int32) (t0 : Int32) : Option (Int32 × Mem) :=
    Option.bind (f_X4_putKind M 21 l1 l6 t0) fun z1 =>
    Option.bind (f_X7_firstNotSo z1 21) fun z2 =>
    if ¬ z2.1 = (-9) then
      k58 z2.2 l1 l2 l3 l4 (l5 + 1)
    else
      Option.bind (some (l3 ||| (1 <<< (l5 &&& 31)))) fun v4 =>
      k58 z2.2 l1 l2 v4 l4 (l5 + 1)
set_option maxRecDepth 20000 in
theorem m_X7_whatIs_103 {k : KT} {q : Int32 × Mem} (hk : CX k cX7_whatIs RX7 8 (some .int) 133) (hq : RI k q) (k58 : Mem → Int32 → Int32 → Int32 → Int32 → Int32 → Option (Int32 × Mem)) (hk58 : ∀ (M : Mem) (l1 : Int32) (l2 : Int32) (l3 : Int32) (l4 : Int32) (l5 : Int32) , GG k q (wM k M) 58 [(0, .ref (kh k + 0)), (1, .int l1), (2, .int l2), (3, .int l3), (4, .int l4), (5, .int l5)] [] (k58 M l1 l2 l3 l4 l5)) (M : Mem) (l1 : Int32) (l2 : Int32) (l3 : Int32) (l4 : Int32) (l5 : Int32) (l6 : Int32) (t0 : Int32)  : GG k q (wM k M) 103 [(0, .ref (kh k + 0)), (1, .int l1), (2, .int l2), (3, .int l3), (4, .int l4), (5, .int l5), (6, .int l6)] [.int t0] (f_X7_whatIs_103 k58 M l1 l2 l3 l4 l5 l6 t0) := by
  unfold f_X7_whatIs_103
  refine GG_istore hk (pc' := 105) [(7, .int t0), (0, .ref (kh k + 0)), (1, .int l1), (2, .int l2), (3, .int l3), (4, .int l4), (5, .int l5), (6, .int l6)] dX7_whatIs_103 rfl (by decide) rfl ?_
  refine GG_aload_n hk (pc' := 106) 1 dX7_whatIs_105 rfl rfl rfl ?_
  refine GG_get hk LC7 2 (v := .ref (kh k + 21)) (pc' := 109) tw_300 rfl rfl (by decide) rfl dX7_whatIs_106 rfl ?_
  refine GG_iload_n hk (pc' := 110) 2 dX7_whatIs_109 rfl rfl rfl ?_
  refine GG_iload hk (pc' := 112) 7 dX7_whatIs_110 rfl rfl ?_
  refine GG_iload hk (pc' := 114) 0 dX7_whatIs_112 rfl rfl ?_
  refine GG_callVv hk (st := []) (pc' := 117) mf_X4_putKind mv_X4_putKind LC4 rfl (c_X4_putKind _ _ _ M 21 l1 l6 t0 okS_21) (by omega) tw_493 (kdS okS_21) rfl rfl (Nat.le_of_ble_eq_true rfl) dX7_whatIs_114 rfl (fun z1 e_z1 => ?_)
  refine GG_aload_n hk (pc' := 118) 1 dX7_whatIs_117 rfl rfl rfl ?_
  refine GG_aload_n hk (pc' := 119) 1 dX7_whatIs_118 rfl rfl rfl ?_
  refine GG_get hk LC7 2 (v := .ref (kh k + 21)) (pc' := 122) tw_300 rfl rfl (by decide) rfl dX7_whatIs_119 rfl ?_
  refine GG_callVi hk (st := []) (pc' := 125) mf_X7_firstNotSo mv_X7_firstNotSo LC7 rfl (c_X7_firstNotSo _ _ _ z1 21 okS_21) (by omega) tw_760 rfl rfl rfl (Nat.le_of_ble_eq_true rfl) dX7_whatIs_122 rfl (fun z2 e_z2 => ?_)
  refine GG_bipush hk (pc' := 127) (-9) dX7_whatIs_125 rfl rfl ?_
  refine GG_icmp_ne hk 137 (pc' := 130) dX7_whatIs_127 rfl (by decide) (fun c3 => ?_) (fun c3 => ?_)
  · refine GG_iinc hk (pc' := 140) 6 (l5 + 1) [(5, .int (l5 + 1)), (7, .int t0), (0, .ref (kh k + 0)), (1, .int l1), (2, .int l2), (3, .int l3), (4, .int l4), (6, .int l6)] dX7_whatIs_137 rfl rfl rfl (by decide) rfl ?_
    refine GG_goto hk 58 dX7_whatIs_140 (by decide) ?_
    refine GG_sub (L' := [(0, .ref (kh k + 0)), (1, .int l1), (2, .int l2), (3, .int l3), (4, .int l4), (5, .int (l5 + 1))]) [2, 3, 4, 5, 6, 0] rfl ?_
    exact hk58 z2.2 l1 l2 l3 l4 (l5 + 1) 
  · refine GG_iload_n hk (pc' := 131) 4 dX7_whatIs_130 rfl rfl rfl ?_
    refine GG_iconst hk (pc' := 132) 1 dX7_whatIs_131 rfl rfl ?_
    refine GG_iload hk (pc' := 134) 6 dX7_whatIs_132 rfl rfl ?_
    refine GG_ishl hk (pc' := 135) dX7_whatIs_134 rfl ?_
    refine GG_ior hk (pc' := 136) dX7_whatIs_135 rfl ?_
    refine GG_nm (fun v4 e_v4 => ?_)
    refine GG_istore_n hk (pc' := 137) [(3, .int v4), (7, .int t0), (0, .ref (kh k + 0)), (1, .int l1), (2, .int l2), (4, .int l4), (5, .int l5), (6, .int l6)] dX7_whatIs_136 rfl rfl (by decide) rfl ?_
    refine GG_iinc hk (pc' := 140) 6 (l5 + 1) [(5, .int (l5 + 1)), (3, .int v4), (7, .int t0), (0, .ref (kh k + 0)), (1, .int l1), (2, .int l2), (4, .int l4), (6, .int l6)] dX7_whatIs_137 rfl rfl rfl (by decide) rfl ?_
    refine GG_goto hk 58 dX7_whatIs_140 (by decide) ?_
    refine GG_sub (L' := [(0, .ref (kh k + 0)), (1, .int l1), (2, .int l2), (3, .int v4), (4, .int l4), (5, .int (l5 + 1))]) [3, 4, 5, 1, 6, 0] rfl ?_
    exact hk58 z2.2 l1 l2 v4 l4 (l5 + 1) 
noncomputable def f_X7_whatIs_83  (k58 : Mem → Int32 → Int32 → Int32 → Int32 → Int32 → Option (Int32 × Mem)) (M : Mem) (l1 : Int32) (l2 : Int32) (l3 : Int32) (l4 : Int32) (l5 : Int32) (t0 : Int32) : Option (Int32 × Mem) :=
    if ¬ l2 = 0 then
      f_X7_whatIs_103 k58 M l1 l2 l3 l4 l5 t0 l5
    else
      Option.bind (rd 6 (M 3) l1) fun v2 =>
      f_X7_whatIs_103 k58 M l1 l2 l3 l4 l5 t0 v2
set_option maxRecDepth 20000 in
theorem m_X7_whatIs_83 {k : KT} {q : Int32 × Mem} (hk : CX k cX7_whatIs RX7 8 (some .int) 133) (hq : RI k q) (k58 : Mem → Int32 → Int32 → Int32 → Int32 → Int32 → Option (Int32 × Mem)) (hk58 : ∀ (M : Mem) (l1 : Int32) (l2 : Int32) (l3 : Int32) (l4 : Int32) (l5 : Int32) , GG k q (wM k M) 58 [(0, .ref (kh k + 0)), (1, .int l1), (2, .int l2), (3, .int l3), (4, .int l4), (5, .int l5)] [] (k58 M l1 l2 l3 l4 l5)) (M : Mem) (l1 : Int32) (l2 : Int32) (l3 : Int32) (l4 : Int32) (l5 : Int32) (t0 : Int32)  : GG k q (wM k M) 83 [(0, .ref (kh k + 0)), (1, .int l1), (2, .int l2), (3, .int l3), (4, .int l4), (5, .int l5)] [.int t0] (f_X7_whatIs_83 k58 M l1 l2 l3 l4 l5 t0) := by
  unfold f_X7_whatIs_83
  refine GG_istore hk (pc' := 85) [(6, .int t0), (0, .ref (kh k + 0)), (1, .int l1), (2, .int l2), (3, .int l3), (4, .int l4), (5, .int l5)] dX7_whatIs_83 rfl (by decide) rfl ?_
  refine GG_iload_n hk (pc' := 86) 3 dX7_whatIs_85 rfl rfl rfl ?_
  refine GG_if_ne hk 101 (pc' := 89) dX7_whatIs_86 rfl (by decide) (fun c1 => ?_) (fun c1 => ?_)
  · refine GG_iload hk (pc' := 103) 6 dX7_whatIs_101 rfl rfl ?_
    refine GG_sub (L' := [(0, .ref (kh k + 0)), (1, .int l1), (2, .int l2), (3, .int l3), (4, .int l4), (5, .int l5), (6, .int t0)]) [1, 2, 3, 4, 5, 6, 0] rfl ?_
    exact m_X7_whatIs_103 hk hq k58 hk58 M l1 l2 l3 l4 l5 t0 l5 
  · refine GG_aload_n hk (pc' := 90) 1 dX7_whatIs_89 rfl rfl rfl ?_
    refine GG_get hk LC7 0 (v := .ref (kh k + 1)) (pc' := 93) tw_298 rfl rfl (by decide) rfl dX7_whatIs_90 rfl ?_
    refine GG_get hk LC4 2 (v := .ref (kh k + 3)) (pc' := 96) tw_50 rfl (kdS okS_1) (by decide) rfl dX7_whatIs_93 rfl ?_
    refine GG_iload_n hk (pc' := 97) 2 dX7_whatIs_96 rfl rfl rfl ?_
    refine GG_iald hk (pc' := 98) rfl rfl dX7_whatIs_97 rfl (fun v2 e_v2 => ?_)
    refine GG_goto hk 103 dX7_whatIs_98 (by decide) ?_
    refine GG_sub (L' := [(0, .ref (kh k + 0)), (1, .int l1), (2, .int l2), (3, .int l3), (4, .int l4), (5, .int l5), (6, .int t0)]) [1, 2, 3, 4, 5, 6, 0] rfl ?_
    exact m_X7_whatIs_103 hk hq k58 hk58 M l1 l2 l3 l4 l5 t0 v2 
noncomputable def f_X7_whatIs_58  : Nat → Mem → Int32 → Int32 → Int32 → Int32 → Int32 → Option (Int32 × Mem)
  | 0, _, _, _, _, _, _ => none
  | n + 1, M, l1, l2, l3, l4, l5 =>
    if l4 ≤ l5 then
      some (l3, M)
    else
      if ¬ l2 = 0 then
        Option.bind (rd 6 (M 2) l1) fun v3 =>
        f_X7_whatIs_83 (f_X7_whatIs_58  n) M l1 l2 l3 l4 l5 v3
      else
        f_X7_whatIs_83 (f_X7_whatIs_58  n) M l1 l2 l3 l4 l5 l5
set_option maxRecDepth 20000 in
theorem m_X7_whatIs_58 {k : KT} {q : Int32 × Mem} (hk : CX k cX7_whatIs RX7 8 (some .int) 133) (hq : RI k q) : ∀ (n : Nat) (M : Mem) (l1 : Int32) (l2 : Int32) (l3 : Int32) (l4 : Int32) (l5 : Int32) , GG k q (wM k M) 58 [(0, .ref (kh k + 0)), (1, .int l1), (2, .int l2), (3, .int l3), (4, .int l4), (5, .int l5)] [] (f_X7_whatIs_58  n M l1 l2 l3 l4 l5) := by
  intro n
  induction n with
  | zero => intros; exact GG_none
  | succ n ih =>
    intro M l1 l2 l3 l4 l5 
    rw [f_X7_whatIs_58]
    refine GG_iload hk (pc' := 60) 5 dX7_whatIs_58 rfl rfl ?_
    refine GG_iload hk (pc' := 62) 4 dX7_whatIs_60 rfl rfl ?_
    refine GG_icmp_ge hk 143 (pc' := 65) dX7_whatIs_62 rfl (by decide) (fun c1 => ?_) (fun c1 => ?_)
    · refine GG_iload_n hk (pc' := 144) 3 dX7_whatIs_143 rfl rfl rfl ?_
      exact GG_iret hk hq dX7_whatIs_144
    · refine GG_iload_n hk (pc' := 66) 2 dX7_whatIs_65 rfl rfl rfl ?_
      refine GG_if_ne hk 74 (pc' := 69) dX7_whatIs_66 rfl (by decide) (fun c2 => ?_) (fun c2 => ?_)
      · refine GG_aload_n hk (pc' := 75) 0 dX7_whatIs_74 rfl rfl rfl ?_
        refine GG_get hk LC7 0 (v := .ref (kh k + 1)) (pc' := 78) tw_298 rfl rfl (by decide) rfl dX7_whatIs_75 rfl ?_
        refine GG_get hk LC4 1 (v := .ref (kh k + 2)) (pc' := 81) tw_47 rfl (kdS okS_1) (by decide) rfl dX7_whatIs_78 rfl ?_
        refine GG_iload_n hk (pc' := 82) 1 dX7_whatIs_81 rfl rfl rfl ?_
        refine GG_iald hk (pc' := 83) rfl rfl dX7_whatIs_82 rfl (fun v3 e_v3 => ?_)
        exact m_X7_whatIs_83 hk hq (f_X7_whatIs_58  n) ih M l1 l2 l3 l4 l5 v3 
      · refine GG_iload hk (pc' := 71) 5 dX7_whatIs_69 rfl rfl ?_
        refine GG_goto hk 83 dX7_whatIs_71 (by decide) ?_
        exact m_X7_whatIs_83 hk hq (f_X7_whatIs_58  n) ih M l1 l2 l3 l4 l5 l5 
noncomputable def f_X7_whatIs_42  (M : Mem) (l1 : Int32) (l2 : Int32) (l3 : Int32) (t0 : Int32) : Option (Int32 × Mem) :=
    Option.bind (f_X4_become M 21 1) fun z1 =>
    f_X7_whatIs_58  1000 z1 l1 l2 l3 t0 0
set_option maxRecDepth 20000 in
theorem m_X7_whatIs_42 {k : KT} {q : Int32 × Mem} (hk : CX k cX7_whatIs RX7 8 (some .int) 133) (hq : RI k q) (M : Mem) (l1 : Int32) (l2 : Int32) (l3 : Int32) (t0 : Int32)  : GG k q (wM k M) 42 [(0, .ref (kh k + 0)), (1, .int l1), (2, .int l2), (3, .int l3)] [.int t0] (f_X7_whatIs_42  M l1 l2 l3 t0) := by
  unfold f_X7_whatIs_42
  refine GG_istore hk (pc' := 44) [(4, .int t0), (0, .ref (kh k + 0)), (1, .int l1), (2, .int l2), (3, .int l3)] dX7_whatIs_42 rfl (by decide) rfl ?_
  refine GG_aload_n hk (pc' := 45) 1 dX7_whatIs_44 rfl rfl rfl ?_
  refine GG_get hk LC7 2 (v := .ref (kh k + 21)) (pc' := 48) tw_300 rfl rfl (by decide) rfl dX7_whatIs_45 rfl ?_
  refine GG_aload_n hk (pc' := 49) 1 dX7_whatIs_48 rfl rfl rfl ?_
  refine GG_get hk LC7 0 (v := .ref (kh k + 1)) (pc' := 52) tw_298 rfl rfl (by decide) rfl dX7_whatIs_49 rfl ?_
  refine GG_callVv hk (st := []) (pc' := 55) mf_X4_become mv_X4_become LC4 rfl (c_X4_become _ _ _ M 21 1 okS_21 okS_1) (by omega) tw_424 (kdS okS_21) rfl rfl (Nat.le_of_ble_eq_true rfl) dX7_whatIs_52 rfl (fun z1 e_z1 => ?_)
  refine GG_iconst hk (pc' := 56) 0 dX7_whatIs_55 rfl rfl ?_
  refine GG_istore hk (pc' := 58) [(5, .int 0), (4, .int t0), (0, .ref (kh k + 0)), (1, .int l1), (2, .int l2), (3, .int l3)] dX7_whatIs_56 rfl (by decide) rfl ?_
  refine GG_sub (L' := [(0, .ref (kh k + 0)), (1, .int l1), (2, .int l2), (3, .int l3), (4, .int t0), (5, .int 0)]) [2, 3, 4, 5, 1, 0] rfl ?_
  exact m_X7_whatIs_58 hk hq  1000 z1 l1 l2 l3 t0 0 
noncomputable def f_X7_whatIs (M : Mem) (l1 : Int32) (l2 : Int32) : Option (Int32 × Mem) :=
    Option.bind (f_X7_noLayer M l1) fun z1 =>
    if z1.1 = 0 then
      if l2 < 0 then
        Option.bind (f_X7_refuse z1.2 (-2)) fun z4 =>
        some (z4.1, z4.2)
      else
        if l2 ≤ 1 then
          if ¬ l2 = 0 then
            f_X7_whatIs_42  z1.2 l1 l2 0 10
          else
            f_X7_whatIs_42  z1.2 l1 l2 0 6
        else
          Option.bind (f_X7_refuse z1.2 (-2)) fun z7 =>
          some (z7.1, z7.2)
    else
      Option.bind (f_X7_refuse z1.2 (-1)) fun z8 =>
      some (z8.1, z8.2)
set_option maxRecDepth 20000 in
theorem m_X7_whatIs {k : KT} {q : Int32 × Mem} (hk : CX k cX7_whatIs RX7 8 (some .int) 133) (hq : RI k q) (M : Mem) (l1 : Int32) (l2 : Int32)  : GG k q (wM k M) 0 [(0, .ref (kh k + 0)), (1, .int l1), (2, .int l2)] [] (f_X7_whatIs M l1 l2) := by
  unfold f_X7_whatIs
  refine GG_iload_n hk (pc' := 1) 1 dX7_whatIs_0 rfl rfl rfl ?_
  refine GG_callSi hk (st := []) (pc' := 4) mf_X7_noLayer tw_441 (c_X7_noLayer _ _ _ M l1 ) (by omega) tw_480 rfl rfl (Nat.le_of_ble_eq_true rfl) dX7_whatIs_1 rfl (fun z1 e_z1 => ?_)
  refine GG_if_eq hk 13 (pc' := 7) dX7_whatIs_4 rfl (by decide) (fun c2 => ?_) (fun c2 => ?_)
  · refine GG_iload_n hk (pc' := 14) 2 dX7_whatIs_13 rfl rfl rfl ?_
    refine GG_if_lt hk 22 (pc' := 17) dX7_whatIs_14 rfl (by decide) (fun c3 => ?_) (fun c3 => ?_)
    · refine GG_aload_n hk (pc' := 23) 0 dX7_whatIs_22 rfl rfl rfl ?_
      refine GG_bipush hk (pc' := 25) (-2) dX7_whatIs_23 rfl rfl ?_
      refine GG_callVi hk (st := []) (pc' := 28) mf_X7_refuse mv_X7_refuse LC7 rfl (c_X7_refuse _ _ _ z1.2 (-2) ) (by omega) tw_333 rfl rfl rfl (Nat.le_of_ble_eq_true rfl) dX7_whatIs_25 rfl (fun z4 e_z4 => ?_)
      exact GG_iret hk hq dX7_whatIs_28
    · refine GG_iload_n hk (pc' := 18) 2 dX7_whatIs_17 rfl rfl rfl ?_
      refine GG_iconst hk (pc' := 19) 1 dX7_whatIs_18 rfl rfl ?_
      refine GG_icmp_le hk 29 (pc' := 22) dX7_whatIs_19 rfl (by decide) (fun c5 => ?_) (fun c5 => ?_)
      · refine GG_iconst hk (pc' := 30) 0 dX7_whatIs_29 rfl rfl ?_
        refine GG_istore_n hk (pc' := 31) [(3, .int 0), (0, .ref (kh k + 0)), (1, .int l1), (2, .int l2)] dX7_whatIs_30 rfl rfl (by decide) rfl ?_
        refine GG_iload_n hk (pc' := 32) 3 dX7_whatIs_31 rfl rfl rfl ?_
        refine GG_if_ne hk 40 (pc' := 35) dX7_whatIs_32 rfl (by decide) (fun c6 => ?_) (fun c6 => ?_)
        · refine GG_bipush hk (pc' := 42) 10 dX7_whatIs_40 rfl rfl ?_
          refine GG_sub (L' := [(0, .ref (kh k + 0)), (1, .int l1), (2, .int l2), (3, .int 0)]) [1, 2, 3, 0] rfl ?_
          exact m_X7_whatIs_42 hk hq  z1.2 l1 l2 0 10 
        · refine GG_bipush hk (pc' := 37) 6 dX7_whatIs_35 rfl rfl ?_
          refine GG_goto hk 42 dX7_whatIs_37 (by decide) ?_
          refine GG_sub (L' := [(0, .ref (kh k + 0)), (1, .int l1), (2, .int l2), (3, .int 0)]) [1, 2, 3, 0] rfl ?_
          exact m_X7_whatIs_42 hk hq  z1.2 l1 l2 0 6 
      · refine GG_aload_n hk (pc' := 23) 0 dX7_whatIs_22 rfl rfl rfl ?_
        refine GG_bipush hk (pc' := 25) (-2) dX7_whatIs_23 rfl rfl ?_
        refine GG_callVi hk (st := []) (pc' := 28) mf_X7_refuse mv_X7_refuse LC7 rfl (c_X7_refuse _ _ _ z1.2 (-2) ) (by omega) tw_333 rfl rfl rfl (Nat.le_of_ble_eq_true rfl) dX7_whatIs_25 rfl (fun z7 e_z7 => ?_)
        exact GG_iret hk hq dX7_whatIs_28
  · refine GG_aload_n hk (pc' := 8) 0 dX7_whatIs_7 rfl rfl rfl ?_
    refine GG_iconst hk (pc' := 9) (-1) dX7_whatIs_8 rfl rfl ?_
    refine GG_callVi hk (st := []) (pc' := 12) mf_X7_refuse mv_X7_refuse LC7 rfl (c_X7_refuse _ _ _ z1.2 (-1) ) (by omega) tw_333 rfl rfl rfl (Nat.le_of_ble_eq_true rfl) dX7_whatIs_9 rfl (fun z8 e_z8 => ?_)
    exact GG_iret hk hq dX7_whatIs_12
theorem c_X7_whatIs (l : Launch) (C : DD) (a : Nat) (M : Mem) (l1 : Int32) (l2 : Int32)  : CI l C (a) yX7_whatIs cX7_whatIs 8 .int 133 [.ref (a + 0), .int l1, .int l2] M (f_X7_whatIs M l1 l2) := by
  refine CI_of RX7 (by decide +kernel) rfl (Nat.le_of_ble_eq_true rfl) (fun k q hk hq e1 e2 e3 => ?_)
  subst e1; subst e2; subst e3
  exact m_X7_whatIs hk hq M l1 l2 

/-! SettingsInLayers.row(I)I -/
noncomputable def f_X7_row (M : Mem) (l1 : Int32) : Option (Int32 × Mem) :=
    if 0 ≤ l1 then
      if 100 < l1 then
        Option.bind (f_X7_refuse M (-6)) fun z3 =>
        some (z3.1, z3.2)
      else
        if (M 102 1) < 8 then
          Option.bind (f_X3_append M l1) fun z5 =>
          some (z5.1, z5.2)
        else
          Option.bind (f_X7_refuse M (-6)) fun z6 =>
          some (z6.1, z6.2)
    else
      Option.bind (f_X7_refuse M (-4)) fun z7 =>
      some (z7.1, z7.2)
set_option maxRecDepth 20000 in
theorem m_X7_row {k : KT} {q : Int32 × Mem} (hk : CX k cX7_row RX7 2 (some .int) 2) (hq : RI k q) (M : Mem) (l1 : Int32)  : GG k q (wM k M) 0 [(0, .ref (kh k + 0)), (1, .int l1)] [] (f_X7_row M l1) := by
  unfold f_X7_row
  refine GG_iload_n hk (pc' := 1) 1 dX7_row_0 rfl rfl rfl ?_
  refine GG_if_ge hk 11 (pc' := 4) dX7_row_1 rfl (by decide) (fun c1 => ?_) (fun c1 => ?_)
  · refine GG_iload_n hk (pc' := 12) 1 dX7_row_11 rfl rfl rfl ?_
    refine GG_bipush hk (pc' := 14) 100 dX7_row_12 rfl rfl ?_
    refine GG_icmp_gt hk 29 (pc' := 17) dX7_row_14 rfl (by decide) (fun c2 => ?_) (fun c2 => ?_)
    · refine GG_aload_n hk (pc' := 30) 0 dX7_row_29 rfl rfl rfl ?_
      refine GG_bipush hk (pc' := 32) (-6) dX7_row_30 rfl rfl ?_
      refine GG_callVi hk (st := []) (pc' := 35) mf_X7_refuse mv_X7_refuse LC7 rfl (c_X7_refuse _ _ _ M (-6) ) (by omega) tw_333 rfl rfl rfl (Nat.le_of_ble_eq_true rfl) dX7_row_32 rfl (fun z3 e_z3 => ?_)
      exact GG_iret hk hq dX7_row_35
    · refine GG_aload_n hk (pc' := 18) 0 dX7_row_17 rfl rfl rfl ?_
      refine GG_get hk LC7 5 (v := .ref (kh k + 102)) (pc' := 21) tw_303 rfl rfl (by decide) rfl dX7_row_18 rfl ?_
      refine GG_get hk LC3 1 (v := .int (M 102 1)) (pc' := 24) tw_279 rfl rfl (by decide) rfl dX7_row_21 rfl ?_
      refine GG_bipush hk (pc' := 26) 8 dX7_row_24 rfl rfl ?_
      refine GG_icmp_lt hk 36 (pc' := 29) dX7_row_26 rfl (by decide) (fun c4 => ?_) (fun c4 => ?_)
      · refine GG_aload_n hk (pc' := 37) 0 dX7_row_36 rfl rfl rfl ?_
        refine GG_get hk LC7 5 (v := .ref (kh k + 102)) (pc' := 40) tw_303 rfl rfl (by decide) rfl dX7_row_37 rfl ?_
        refine GG_iload_n hk (pc' := 41) 1 dX7_row_40 rfl rfl rfl ?_
        refine GG_callVi hk (st := []) (pc' := 44) mf_X3_append mv_X3_append LC3 rfl (c_X3_append _ _ _ M l1 ) (by omega) tw_772 rfl rfl rfl (Nat.le_of_ble_eq_true rfl) dX7_row_41 rfl (fun z5 e_z5 => ?_)
        exact GG_iret hk hq dX7_row_44
      · refine GG_aload_n hk (pc' := 30) 0 dX7_row_29 rfl rfl rfl ?_
        refine GG_bipush hk (pc' := 32) (-6) dX7_row_30 rfl rfl ?_
        refine GG_callVi hk (st := []) (pc' := 35) mf_X7_refuse mv_X7_refuse LC7 rfl (c_X7_refuse _ _ _ M (-6) ) (by omega) tw_333 rfl rfl rfl (Nat.le_of_ble_eq_true rfl) dX7_row_32 rfl (fun z6 e_z6 => ?_)
        exact GG_iret hk hq dX7_row_35
  · refine GG_aload_n hk (pc' := 5) 0 dX7_row_4 rfl rfl rfl ?_
    refine GG_bipush hk (pc' := 7) (-4) dX7_row_5 rfl rfl ?_
    refine GG_callVi hk (st := []) (pc' := 10) mf_X7_refuse mv_X7_refuse LC7 rfl (c_X7_refuse _ _ _ M (-4) ) (by omega) tw_333 rfl rfl rfl (Nat.le_of_ble_eq_true rfl) dX7_row_7 rfl (fun z7 e_z7 => ?_)
    exact GG_iret hk hq dX7_row_10
theorem c_X7_row (l : Launch) (C : DD) (a : Nat) (M : Mem) (l1 : Int32)  : CI l C (a) yX7_row cX7_row 2 .int 2 [.ref (a + 0), .int l1] M (f_X7_row M l1) := by
  refine CI_of RX7 (by decide +kernel) rfl (Nat.le_of_ble_eq_true rfl) (fun k q hk hq e1 e2 e3 => ?_)
  subst e1; subst e2; subst e3
  exact m_X7_row hk hq M l1 

/-! SettingsInLayers.judge()I -/
noncomputable def f_X7_judge (M : Mem)  : Option (Int32 × Mem) :=
    Option.bind (f_X7_firstNotSo M 1) fun z1 =>
    Option.bind (wrf z1.2 102 1 0) fun M2 =>
    some (z1.1, M2)
set_option maxRecDepth 20000 in
theorem m_X7_judge {k : KT} {q : Int32 × Mem} (hk : CX k cX7_judge RX7 2 (some .int) 133) (hq : RI k q) (M : Mem)   : GG k q (wM k M) 0 [(0, .ref (kh k + 0))] [] (f_X7_judge M ) := by
  unfold f_X7_judge
  refine GG_aload_n hk (pc' := 1) 0 dX7_judge_0 rfl rfl rfl ?_
  refine GG_aload_n hk (pc' := 2) 0 dX7_judge_1 rfl rfl rfl ?_
  refine GG_get hk LC7 0 (v := .ref (kh k + 1)) (pc' := 5) tw_298 rfl rfl (by decide) rfl dX7_judge_2 rfl ?_
  refine GG_callVi hk (st := []) (pc' := 8) mf_X7_firstNotSo mv_X7_firstNotSo LC7 rfl (c_X7_firstNotSo _ _ _ M 1 okS_1) (by omega) tw_760 rfl rfl rfl (Nat.le_of_ble_eq_true rfl) dX7_judge_5 rfl (fun z1 e_z1 => ?_)
  refine GG_istore_n hk (pc' := 9) [(1, .int z1.1), (0, .ref (kh k + 0))] dX7_judge_8 rfl rfl (by decide) rfl ?_
  refine GG_aload_n hk (pc' := 10) 1 dX7_judge_9 rfl rfl rfl ?_
  refine GG_get hk LC7 5 (v := .ref (kh k + 102)) (pc' := 13) tw_303 rfl rfl (by decide) rfl dX7_judge_10 rfl ?_
  refine GG_iconst hk (pc' := 14) 0 dX7_judge_13 rfl rfl ?_
  refine GG_put hk LC3 1 (pc' := 17) tw_279 rfl rfl (by decide) rfl rfl (Nat.le_of_ble_eq_true rfl) (pv_3_1 _ _ _ _) dX7_judge_14 rfl (fun M2 e_M2 => ?_)
  refine GG_iload_n hk (pc' := 18) 0 dX7_judge_17 rfl rfl rfl ?_
  exact GG_iret hk hq dX7_judge_18
theorem c_X7_judge (l : Launch) (C : DD) (a : Nat) (M : Mem)   : CI l C (a) yX7_judge cX7_judge 2 .int 133 [.ref (a + 0)] M (f_X7_judge M ) := by
  refine CI_of RX7 (by decide +kernel) rfl (Nat.le_of_ble_eq_true rfl) (fun k q hk hq e1 e2 e3 => ?_)
  subst e1; subst e2; subst e3
  exact m_X7_judge hk hq M  

/-! SettingsInLayers.clear()I -/
noncomputable def f_X7_clear (M : Mem)  : Option (Int32 × Mem) :=
    Option.bind (wrf M 102 1 0) fun M1 =>
    some ((M 102 1), M1)
set_option maxRecDepth 20000 in
theorem m_X7_clear {k : KT} {q : Int32 × Mem} (hk : CX k cX7_clear RX7 2 (some .int) 1) (hq : RI k q) (M : Mem)   : GG k q (wM k M) 0 [(0, .ref (kh k + 0))] [] (f_X7_clear M ) := by
  unfold f_X7_clear
  refine GG_aload_n hk (pc' := 1) 0 dX7_clear_0 rfl rfl rfl ?_
  refine GG_get hk LC7 5 (v := .ref (kh k + 102)) (pc' := 4) tw_303 rfl rfl (by decide) rfl dX7_clear_1 rfl ?_
  refine GG_get hk LC3 1 (v := .int (M 102 1)) (pc' := 7) tw_279 rfl rfl (by decide) rfl dX7_clear_4 rfl ?_
  refine GG_istore_n hk (pc' := 8) [(1, .int (M 102 1)), (0, .ref (kh k + 0))] dX7_clear_7 rfl rfl (by decide) rfl ?_
  refine GG_aload_n hk (pc' := 9) 1 dX7_clear_8 rfl rfl rfl ?_
  refine GG_get hk LC7 5 (v := .ref (kh k + 102)) (pc' := 12) tw_303 rfl rfl (by decide) rfl dX7_clear_9 rfl ?_
  refine GG_iconst hk (pc' := 13) 0 dX7_clear_12 rfl rfl ?_
  refine GG_put hk LC3 1 (pc' := 16) tw_279 rfl rfl (by decide) rfl rfl (Nat.le_of_ble_eq_true rfl) (pv_3_1 _ _ _ _) dX7_clear_13 rfl (fun M1 e_M1 => ?_)
  refine GG_iload_n hk (pc' := 17) 0 dX7_clear_16 rfl rfl rfl ?_
  exact GG_iret hk hq dX7_clear_17
theorem c_X7_clear (l : Launch) (C : DD) (a : Nat) (M : Mem)   : CI l C (a) yX7_clear cX7_clear 2 .int 1 [.ref (a + 0)] M (f_X7_clear M ) := by
  refine CI_of RX7 (by decide +kernel) rfl (Nat.le_of_ble_eq_true rfl) (fun k q hk hq e1 e2 e3 => ?_)
  subst e1; subst e2; subst e3
  exact m_X7_clear hk hq M  

/-! SettingsInLayers.drawTrial()V -/
noncomputable def f_X7_drawTrial_13  : Nat → Mem → Int32 → Option Mem
  | 0, _, _ => none
  | n + 1, M, l1 =>
    if 4 ≤ l1 then
      some M
    else
      Option.bind (f_X0_below M 6) fun z2 =>
      Option.bind (f_X0_below z2.2 8) fun z3 =>
      Option.bind (f_X0_below z3.2 100) fun z4 =>
      Option.bind (f_X4_putOn z4.2 21 z2.1 z3.1 z4.1) fun z5 =>
      f_X7_drawTrial_13  n z5 (l1 + 1)
set_option maxRecDepth 20000 in
theorem m_X7_drawTrial_13 {k : KT} {q : Mem} (hk : CX k cX7_drawTrial RX7 5 none 3) (hq : RV k q) : ∀ (n : Nat) (M : Mem) (l1 : Int32) , GG k q (wM k M) 13 [(0, .ref (kh k + 0)), (1, .int l1)] [] (f_X7_drawTrial_13  n M l1) := by
  intro n
  induction n with
  | zero => intros; exact GG_none
  | succ n ih =>
    intro M l1 
    rw [f_X7_drawTrial_13]
    refine GG_iload_n hk (pc' := 14) 1 dX7_drawTrial_13 rfl rfl rfl ?_
    refine GG_iconst hk (pc' := 15) 4 dX7_drawTrial_14 rfl rfl ?_
    refine GG_icmp_ge hk 66 (pc' := 18) dX7_drawTrial_15 rfl (by decide) (fun c1 => ?_) (fun c1 => ?_)
    · exact GG_vret hk hq dX7_drawTrial_66
    · refine GG_aload_n hk (pc' := 19) 0 dX7_drawTrial_18 rfl rfl rfl ?_
      refine GG_get hk LC7 6 (v := .ref (kh k + 104)) (pc' := 22) tw_304 rfl rfl (by decide) rfl dX7_drawTrial_19 rfl ?_
      refine GG_bipush hk (pc' := 24) 6 dX7_drawTrial_22 rfl rfl ?_
      refine GG_callVi hk (st := []) (pc' := 27) mf_X0_below mv_X0_below LC0 rfl (c_X0_below _ _ _ M 6 ) (by omega) tw_792 rfl rfl rfl (Nat.le_of_ble_eq_true rfl) dX7_drawTrial_24 rfl (fun z2 e_z2 => ?_)
      refine GG_istore_n hk (pc' := 28) [(2, .int z2.1), (0, .ref (kh k + 0)), (1, .int l1)] dX7_drawTrial_27 rfl rfl (by decide) rfl ?_
      refine GG_aload_n hk (pc' := 29) 1 dX7_drawTrial_28 rfl rfl rfl ?_
      refine GG_get hk LC7 6 (v := .ref (kh k + 104)) (pc' := 32) tw_304 rfl rfl (by decide) rfl dX7_drawTrial_29 rfl ?_
      refine GG_bipush hk (pc' := 34) 8 dX7_drawTrial_32 rfl rfl ?_
      refine GG_callVi hk (st := []) (pc' := 37) mf_X0_below mv_X0_below LC0 rfl (c_X0_below _ _ _ z2.2 8 ) (by omega) tw_792 rfl rfl rfl (Nat.le_of_ble_eq_true rfl) dX7_drawTrial_34 rfl (fun z3 e_z3 => ?_)
      refine GG_istore_n hk (pc' := 38) [(3, .int z3.1), (2, .int z2.1), (0, .ref (kh k + 0)), (1, .int l1)] dX7_drawTrial_37 rfl rfl (by decide) rfl ?_
      refine GG_aload_n hk (pc' := 39) 2 dX7_drawTrial_38 rfl rfl rfl ?_
      refine GG_get hk LC7 6 (v := .ref (kh k + 104)) (pc' := 42) tw_304 rfl rfl (by decide) rfl dX7_drawTrial_39 rfl ?_
      refine GG_bipush hk (pc' := 44) 100 dX7_drawTrial_42 rfl rfl ?_
      refine GG_callVi hk (st := []) (pc' := 47) mf_X0_below mv_X0_below LC0 rfl (c_X0_below _ _ _ z3.2 100 ) (by omega) tw_792 rfl rfl rfl (Nat.le_of_ble_eq_true rfl) dX7_drawTrial_44 rfl (fun z4 e_z4 => ?_)
      refine GG_istore hk (pc' := 49) [(4, .int z4.1), (3, .int z3.1), (2, .int z2.1), (0, .ref (kh k + 0)), (1, .int l1)] dX7_drawTrial_47 rfl (by decide) rfl ?_
      refine GG_aload_n hk (pc' := 50) 3 dX7_drawTrial_49 rfl rfl rfl ?_
      refine GG_get hk LC7 2 (v := .ref (kh k + 21)) (pc' := 53) tw_300 rfl rfl (by decide) rfl dX7_drawTrial_50 rfl ?_
      refine GG_iload_n hk (pc' := 54) 2 dX7_drawTrial_53 rfl rfl rfl ?_
      refine GG_iload_n hk (pc' := 55) 1 dX7_drawTrial_54 rfl rfl rfl ?_
      refine GG_iload hk (pc' := 57) 0 dX7_drawTrial_55 rfl rfl ?_
      refine GG_callVv hk (st := []) (pc' := 60) mf_X4_putOn mv_X4_putOn LC4 rfl (c_X4_putOn _ _ _ z4.2 21 z2.1 z3.1 z4.1 okS_21) (by omega) tw_710 (kdS okS_21) rfl rfl (Nat.le_of_ble_eq_true rfl) dX7_drawTrial_57 rfl (fun z5 e_z5 => ?_)
      refine GG_iinc hk (pc' := 63) 4 (l1 + 1) [(1, .int (l1 + 1)), (4, .int z4.1), (3, .int z3.1), (2, .int z2.1), (0, .ref (kh k + 0))] dX7_drawTrial_60 rfl rfl rfl (by decide) rfl ?_
      refine GG_goto hk 13 dX7_drawTrial_63 (by decide) ?_
      refine GG_sub (L' := [(0, .ref (kh k + 0)), (1, .int (l1 + 1))]) [4, 0] rfl ?_
      exact ih z5 (l1 + 1) 
noncomputable def f_X7_drawTrial (M : Mem)  : Option Mem :=
    Option.bind (f_X4_become M 21 1) fun z1 =>
    f_X7_drawTrial_13  1000 z1 0
set_option maxRecDepth 20000 in
theorem m_X7_drawTrial {k : KT} {q : Mem} (hk : CX k cX7_drawTrial RX7 5 none 3) (hq : RV k q) (M : Mem)   : GG k q (wM k M) 0 [(0, .ref (kh k + 0))] [] (f_X7_drawTrial M ) := by
  unfold f_X7_drawTrial
  refine GG_aload_n hk (pc' := 1) 0 dX7_drawTrial_0 rfl rfl rfl ?_
  refine GG_get hk LC7 2 (v := .ref (kh k + 21)) (pc' := 4) tw_300 rfl rfl (by decide) rfl dX7_drawTrial_1 rfl ?_
  refine GG_aload_n hk (pc' := 5) 0 dX7_drawTrial_4 rfl rfl rfl ?_
  refine GG_get hk LC7 0 (v := .ref (kh k + 1)) (pc' := 8) tw_298 rfl rfl (by decide) rfl dX7_drawTrial_5 rfl ?_
  refine GG_callVv hk (st := []) (pc' := 11) mf_X4_become mv_X4_become LC4 rfl (c_X4_become _ _ _ M 21 1 okS_21 okS_1) (by omega) tw_424 (kdS okS_21) rfl rfl (Nat.le_of_ble_eq_true rfl) dX7_drawTrial_8 rfl (fun z1 e_z1 => ?_)
  refine GG_iconst hk (pc' := 12) 0 dX7_drawTrial_11 rfl rfl ?_
  refine GG_istore_n hk (pc' := 13) [(1, .int 0), (0, .ref (kh k + 0))] dX7_drawTrial_12 rfl rfl (by decide) rfl ?_
  refine GG_sub (L' := [(0, .ref (kh k + 0)), (1, .int 0)]) [1, 0] rfl ?_
  exact m_X7_drawTrial_13 hk hq  1000 z1 0 
theorem c_X7_drawTrial (l : Launch) (C : DD) (a : Nat) (M : Mem)   : CV l C (a) yX7_drawTrial cX7_drawTrial 5 3 [.ref (a + 0)] M (f_X7_drawTrial M ) := by
  refine CV_of RX7 (by decide +kernel) rfl (Nat.le_of_ble_eq_true rfl) (fun k q hk hq e1 e2 e3 => ?_)
  subst e1; subst e2; subst e3
  exact m_X7_drawTrial hk hq M  

/-! SettingsInLayers.numbersTogether(LSettingsInLayers$Scene;)I -/
noncomputable def f_X7_numbersTogether_4  : Nat → Mem → Nat → Int32 → Int32 → Option (Int32 × Mem)
  | 0, _, _, _, _ => none
  | n + 1, M, l1, l2, l3 =>
    if 8 ≤ l3 then
      some (l2, M)
    else
      Option.bind (f_X2_ask M l1 l3) fun z2 =>
      Option.bind (f_X1_numberOrNothing z2 34) fun z3 =>
      Option.bind (some (l2 + (if z3.1 < 0 then 0 else z3.1))) fun v4 =>
      f_X7_numbersTogether_4  n z3.2 l1 v4 (l3 + 1)
set_option maxRecDepth 20000 in
theorem m_X7_numbersTogether_4 {k : KT} {q : Int32 × Mem} (hk : CX k cX7_numbersTogether RX7 4 (some .int) 132) (hq : RI k q) : ∀ (n : Nat) (M : Mem) (l1 : Nat) (l2 : Int32) (l3 : Int32) (h_l1 : okS l1), GG k q (wM k M) 4 [(0, .ref (kh k + 0)), (1, .ref (kh k + l1)), (2, .int l2), (3, .int l3)] [] (f_X7_numbersTogether_4  n M l1 l2 l3) := by
  intro n
  induction n with
  | zero => intros; exact GG_none
  | succ n ih =>
    intro M l1 l2 l3 h_l1
    rw [f_X7_numbersTogether_4]
    refine GG_iload_n hk (pc' := 5) 3 dX7_numbersTogether_4 rfl rfl rfl ?_
    refine GG_bipush hk (pc' := 7) 8 dX7_numbersTogether_5 rfl rfl ?_
    refine GG_icmp_ge hk 35 (pc' := 10) dX7_numbersTogether_7 rfl (by decide) (fun c1 => ?_) (fun c1 => ?_)
    · refine GG_iload_n hk (pc' := 36) 2 dX7_numbersTogether_35 rfl rfl rfl ?_
      exact GG_iret hk hq dX7_numbersTogether_36
    · refine GG_iload_n hk (pc' := 11) 2 dX7_numbersTogether_10 rfl rfl rfl ?_
      refine GG_aload_n hk (pc' := 12) 0 dX7_numbersTogether_11 rfl rfl rfl ?_
      refine GG_get hk LC7 3 (v := .ref (kh k + 31)) (pc' := 15) tw_301 rfl rfl (by decide) rfl dX7_numbersTogether_12 rfl ?_
      refine GG_aload_n hk (pc' := 16) 1 dX7_numbersTogether_15 rfl rfl rfl ?_
      refine GG_iload_n hk (pc' := 17) 3 dX7_numbersTogether_16 rfl rfl rfl ?_
      refine GG_callVr hk (st := [.int l2]) (pc' := 20) mf_X2_ask mv_X2_ask LC2 rfl (c_X2_ask _ _ _ M l1 l3 h_l1) (by omega) tw_563 rfl rfl rfl (Nat.le_of_ble_eq_true rfl) dX7_numbersTogether_17 rfl (fun z2 e_z2 => ?_)
      refine GG_callVi hk (st := [.int l2]) (pc' := 23) mf_X1_numberOrNothing mv_X1_numberOrNothing LC1 rfl (c_X1_numberOrNothing _ _ _ z2 34 okO_34) (by omega) tw_698 (kdO okO_34) rfl rfl (Nat.le_of_ble_eq_true rfl) dX7_numbersTogether_20 rfl (fun z3 e_z3 => ?_)
      refine GG_iconst hk (pc' := 24) 0 dX7_numbersTogether_23 rfl rfl ?_
      refine GG_mmax hk (st := [.int l2]) (pc' := 27) tw_803 tw_804 tw_11 tw_805 (by omega) (Nat.le_of_ble_eq_true rfl) dX7_numbersTogether_24 rfl ?_
      refine GG_iadd hk (pc' := 28) dX7_numbersTogether_27 rfl ?_
      refine GG_nm (fun v4 e_v4 => ?_)
      refine GG_istore_n hk (pc' := 29) [(2, .int v4), (0, .ref (kh k + 0)), (1, .ref (kh k + l1)), (3, .int l3)] dX7_numbersTogether_28 rfl rfl (by decide) rfl ?_
      refine GG_iinc hk (pc' := 32) 3 (l3 + 1) [(3, .int (l3 + 1)), (2, .int v4), (0, .ref (kh k + 0)), (1, .ref (kh k + l1))] dX7_numbersTogether_29 rfl rfl rfl (by decide) rfl ?_
      refine GG_goto hk 4 dX7_numbersTogether_32 (by decide) ?_
      refine GG_sub (L' := [(0, .ref (kh k + 0)), (1, .ref (kh k + l1)), (2, .int v4), (3, .int (l3 + 1))]) [2, 3, 1, 0] rfl ?_
      exact ih z3.2 l1 v4 (l3 + 1) h_l1
noncomputable def f_X7_numbersTogether (M : Mem) (l1 : Nat) : Option (Int32 × Mem) :=
    f_X7_numbersTogether_4  1000 M l1 0 0
set_option maxRecDepth 20000 in
theorem m_X7_numbersTogether {k : KT} {q : Int32 × Mem} (hk : CX k cX7_numbersTogether RX7 4 (some .int) 132) (hq : RI k q) (M : Mem) (l1 : Nat) (h_l1 : okS l1) : GG k q (wM k M) 0 [(0, .ref (kh k + 0)), (1, .ref (kh k + l1))] [] (f_X7_numbersTogether M l1) := by
  unfold f_X7_numbersTogether
  refine GG_iconst hk (pc' := 1) 0 dX7_numbersTogether_0 rfl rfl ?_
  refine GG_istore_n hk (pc' := 2) [(2, .int 0), (0, .ref (kh k + 0)), (1, .ref (kh k + l1))] dX7_numbersTogether_1 rfl rfl (by decide) rfl ?_
  refine GG_iconst hk (pc' := 3) 0 dX7_numbersTogether_2 rfl rfl ?_
  refine GG_istore_n hk (pc' := 4) [(3, .int 0), (2, .int 0), (0, .ref (kh k + 0)), (1, .ref (kh k + l1))] dX7_numbersTogether_3 rfl rfl (by decide) rfl ?_
  refine GG_sub (L' := [(0, .ref (kh k + 0)), (1, .ref (kh k + l1)), (2, .int 0), (3, .int 0)]) [2, 3, 1, 0] rfl ?_
  exact m_X7_numbersTogether_4 hk hq  1000 M l1 0 0 h_l1
theorem c_X7_numbersTogether (l : Launch) (C : DD) (a : Nat) (M : Mem) (l1 : Nat) (h_l1 : okS l1) : CI l C (a) yX7_numbersTogether cX7_numbersTogether 4 .int 132 [.ref (a + 0), .ref (a + l1)] M (f_X7_numbersTogether M l1) := by
  refine CI_of RX7 (by decide +kernel) rfl (Nat.le_of_ble_eq_true rfl) (fun k q hk hq e1 e2 e3 => ?_)
  subst e1; subst e2; subst e3
  exact m_X7_numbersTogether hk hq M l1 h_l1

/-! SettingsInLayers.faultBits(LSettingsInLayers$Scene;)I -/
noncomputable def f_X7_faultBits_4  : Nat → Mem → Nat → Int32 → Int32 → Option (Int32 × Mem)
  | 0, _, _, _, _ => none
  | n + 1, M, l1, l2, l3 =>
    if 8 ≤ l3 then
      some (l2, M)
    else
      Option.bind (f_X2_ask M l1 l3) fun z2 =>
      if ¬ (z2 34 0) = 2 then
        f_X7_faultBits_4  n z2 l1 l2 (l3 + 1)
      else
        Option.bind (some (l2 ||| (1 <<< (l3 &&& 31)))) fun v4 =>
        f_X7_faultBits_4  n z2 l1 v4 (l3 + 1)
set_option maxRecDepth 20000 in
theorem m_X7_faultBits_4 {k : KT} {q : Int32 × Mem} (hk : CX k cX7_faultBits RX7 4 (some .int) 132) (hq : RI k q) : ∀ (n : Nat) (M : Mem) (l1 : Nat) (l2 : Int32) (l3 : Int32) (h_l1 : okS l1), GG k q (wM k M) 4 [(0, .ref (kh k + 0)), (1, .ref (kh k + l1)), (2, .int l2), (3, .int l3)] [] (f_X7_faultBits_4  n M l1 l2 l3) := by
  intro n
  induction n with
  | zero => intros; exact GG_none
  | succ n ih =>
    intro M l1 l2 l3 h_l1
    rw [f_X7_faultBits_4]
    refine GG_iload_n hk (pc' := 5) 3 dX7_faultBits_4 rfl rfl rfl ?_
    refine GG_bipush hk (pc' := 7) 8 dX7_faultBits_5 rfl rfl ?_
    refine GG_icmp_ge hk 38 (pc' := 10) dX7_faultBits_7 rfl (by decide) (fun c1 => ?_) (fun c1 => ?_)
    · refine GG_iload_n hk (pc' := 39) 2 dX7_faultBits_38 rfl rfl rfl ?_
      exact GG_iret hk hq dX7_faultBits_39
    · refine GG_aload_n hk (pc' := 11) 0 dX7_faultBits_10 rfl rfl rfl ?_
      refine GG_get hk LC7 3 (v := .ref (kh k + 31)) (pc' := 14) tw_301 rfl rfl (by decide) rfl dX7_faultBits_11 rfl ?_
      refine GG_aload_n hk (pc' := 15) 1 dX7_faultBits_14 rfl rfl rfl ?_
      refine GG_iload_n hk (pc' := 16) 3 dX7_faultBits_15 rfl rfl rfl ?_
      refine GG_callVr hk (st := []) (pc' := 19) mf_X2_ask mv_X2_ask LC2 rfl (c_X2_ask _ _ _ M l1 l3 h_l1) (by omega) tw_563 rfl rfl rfl (Nat.le_of_ble_eq_true rfl) dX7_faultBits_16 rfl (fun z2 e_z2 => ?_)
      refine GG_get hk LC1 0 (v := .int (z2 34 0)) (pc' := 22) tw_109 rfl (kdO okO_34) (by decide) rfl dX7_faultBits_19 rfl ?_
      refine GG_iconst hk (pc' := 23) 2 dX7_faultBits_22 rfl rfl ?_
      refine GG_icmp_ne hk 32 (pc' := 26) dX7_faultBits_23 rfl (by decide) (fun c3 => ?_) (fun c3 => ?_)
      · refine GG_iinc hk (pc' := 35) 3 (l3 + 1) [(3, .int (l3 + 1)), (0, .ref (kh k + 0)), (1, .ref (kh k + l1)), (2, .int l2)] dX7_faultBits_32 rfl rfl rfl (by decide) rfl ?_
        refine GG_goto hk 4 dX7_faultBits_35 (by decide) ?_
        refine GG_sub (L' := [(0, .ref (kh k + 0)), (1, .ref (kh k + l1)), (2, .int l2), (3, .int (l3 + 1))]) [1, 2, 3, 0] rfl ?_
        exact ih z2 l1 l2 (l3 + 1) h_l1
      · refine GG_iload_n hk (pc' := 27) 2 dX7_faultBits_26 rfl rfl rfl ?_
        refine GG_iconst hk (pc' := 28) 1 dX7_faultBits_27 rfl rfl ?_
        refine GG_iload_n hk (pc' := 29) 3 dX7_faultBits_28 rfl rfl rfl ?_
        refine GG_ishl hk (pc' := 30) dX7_faultBits_29 rfl ?_
        refine GG_ior hk (pc' := 31) dX7_faultBits_30 rfl ?_
        refine GG_nm (fun v4 e_v4 => ?_)
        refine GG_istore_n hk (pc' := 32) [(2, .int v4), (0, .ref (kh k + 0)), (1, .ref (kh k + l1)), (3, .int l3)] dX7_faultBits_31 rfl rfl (by decide) rfl ?_
        refine GG_iinc hk (pc' := 35) 3 (l3 + 1) [(3, .int (l3 + 1)), (2, .int v4), (0, .ref (kh k + 0)), (1, .ref (kh k + l1))] dX7_faultBits_32 rfl rfl rfl (by decide) rfl ?_
        refine GG_goto hk 4 dX7_faultBits_35 (by decide) ?_
        refine GG_sub (L' := [(0, .ref (kh k + 0)), (1, .ref (kh k + l1)), (2, .int v4), (3, .int (l3 + 1))]) [2, 3, 1, 0] rfl ?_
        exact ih z2 l1 v4 (l3 + 1) h_l1
noncomputable def f_X7_faultBits (M : Mem) (l1 : Nat) : Option (Int32 × Mem) :=
    f_X7_faultBits_4  1000 M l1 0 0
set_option maxRecDepth 20000 in
theorem m_X7_faultBits {k : KT} {q : Int32 × Mem} (hk : CX k cX7_faultBits RX7 4 (some .int) 132) (hq : RI k q) (M : Mem) (l1 : Nat) (h_l1 : okS l1) : GG k q (wM k M) 0 [(0, .ref (kh k + 0)), (1, .ref (kh k + l1))] [] (f_X7_faultBits M l1) := by
  unfold f_X7_faultBits
  refine GG_iconst hk (pc' := 1) 0 dX7_faultBits_0 rfl rfl ?_
  refine GG_istore_n hk (pc' := 2) [(2, .int 0), (0, .ref (kh k + 0)), (1, .ref (kh k + l1))] dX7_faultBits_1 rfl rfl (by decide) rfl ?_
  refine GG_iconst hk (pc' := 3) 0 dX7_faultBits_2 rfl rfl ?_
  refine GG_istore_n hk (pc' := 4) [(3, .int 0), (2, .int 0), (0, .ref (kh k + 0)), (1, .ref (kh k + l1))] dX7_faultBits_3 rfl rfl (by decide) rfl ?_
  refine GG_sub (L' := [(0, .ref (kh k + 0)), (1, .ref (kh k + l1)), (2, .int 0), (3, .int 0)]) [2, 3, 1, 0] rfl ?_
  exact m_X7_faultBits_4 hk hq  1000 M l1 0 0 h_l1
theorem c_X7_faultBits (l : Launch) (C : DD) (a : Nat) (M : Mem) (l1 : Nat) (h_l1 : okS l1) : CI l C (a) yX7_faultBits cX7_faultBits 4 .int 132 [.ref (a + 0), .ref (a + l1)] M (f_X7_faultBits M l1) := by
  refine CI_of RX7 (by decide +kernel) rfl (Nat.le_of_ble_eq_true rfl) (fun k q hk hq e1 e2 e3 => ?_)
  subst e1; subst e2; subst e3
  exact m_X7_faultBits hk hq M l1 h_l1

/-! SettingsInLayers.lots(III)I -/
noncomputable def f_X7_lots_55  : Nat → Mem → Int32 → Int32 → Int32 → Int32 → Option (Int32 × Mem)
  | 0, _, _, _, _, _ => none
  | n + 1, M, l1, l3, l4, l5 =>
    if l1 ≤ l5 then
      some (l4, M)
    else
      Option.bind (f_X7_drawTrial M ) fun z2 =>
      if ¬ l3 = 0 then
        Option.bind (f_X7_faultBits z2 21) fun z4 =>
        Option.bind (f_J6_bitCount_0f7a4 z4.2 z4.1) fun z5 =>
        f_X7_lots_55  n z5.2 l1 l3 (l4 + z5.1) (l5 + 1)
      else
        Option.bind (f_X7_numbersTogether z2 21) fun z6 =>
        f_X7_lots_55  n z6.2 l1 l3 (l4 + z6.1) (l5 + 1)
set_option maxRecDepth 20000 in
theorem m_X7_lots_55 {k : KT} {q : Int32 × Mem} (hk : CX k cX7_lots RX7 6 (some .int) 133) (hq : RI k q) : ∀ (n : Nat) (M : Mem) (l1 : Int32) (l3 : Int32) (l4 : Int32) (l5 : Int32) , GG k q (wM k M) 55 [(0, .ref (kh k + 0)), (1, .int l1), (3, .int l3), (4, .int l4), (5, .int l5)] [] (f_X7_lots_55  n M l1 l3 l4 l5) := by
  intro n
  induction n with
  | zero => intros; exact GG_none
  | succ n ih =>
    intro M l1 l3 l4 l5 
    rw [f_X7_lots_55]
    refine GG_iload hk (pc' := 57) 4 dX7_lots_55 rfl rfl ?_
    refine GG_iload_n hk (pc' := 58) 1 dX7_lots_57 rfl rfl rfl ?_
    refine GG_icmp_ge hk 102 (pc' := 61) dX7_lots_58 rfl (by decide) (fun c1 => ?_) (fun c1 => ?_)
    · refine GG_iload hk (pc' := 104) 3 dX7_lots_102 rfl rfl ?_
      exact GG_iret hk hq dX7_lots_104
    · refine GG_aload_n hk (pc' := 62) 0 dX7_lots_61 rfl rfl rfl ?_
      refine GG_callVv hk (st := []) (pc' := 65) mf_X7_drawTrial mv_X7_drawTrial LC7 rfl (c_X7_drawTrial _ _ _ M  ) (by omega) tw_788 rfl rfl rfl (Nat.le_of_ble_eq_true rfl) dX7_lots_62 rfl (fun z2 e_z2 => ?_)
      refine GG_iload hk (pc' := 67) 3 dX7_lots_65 rfl rfl ?_
      refine GG_iload_n hk (pc' := 68) 2 dX7_lots_67 rfl rfl rfl ?_
      refine GG_if_ne hk 82 (pc' := 71) dX7_lots_68 rfl (by decide) (fun c3 => ?_) (fun c3 => ?_)
      · refine GG_aload_n hk (pc' := 83) 0 dX7_lots_82 rfl rfl rfl ?_
        refine GG_aload_n hk (pc' := 84) 0 dX7_lots_83 rfl rfl rfl ?_
        refine GG_get hk LC7 2 (v := .ref (kh k + 21)) (pc' := 87) tw_300 rfl rfl (by decide) rfl dX7_lots_84 rfl ?_
        refine GG_callVi hk (st := [.int l4]) (pc' := 90) mf_X7_faultBits mv_X7_faultBits LC7 rfl (c_X7_faultBits _ _ _ z2 21 okS_21) (by omega) tw_806 rfl rfl rfl (Nat.le_of_ble_eq_true rfl) dX7_lots_87 rfl (fun z4 e_z4 => ?_)
        refine GG_callSi hk (st := [.int l4]) (pc' := 93) mf_J6_bitCount_0f7a4 tw_541 (c_J6_bitCount_0f7a4 _ _ _ z4.2 z4.1 ) (by omega) tw_540 rfl rfl (Nat.le_of_ble_eq_true rfl) dX7_lots_90 rfl (fun z5 e_z5 => ?_)
        refine GG_iadd hk (pc' := 94) dX7_lots_93 rfl ?_
        refine GG_istore hk (pc' := 96) [(4, .int (l4 + z5.1)), (0, .ref (kh k + 0)), (1, .int l1), (3, .int l3), (5, .int l5)] dX7_lots_94 rfl (by decide) rfl ?_
        refine GG_iinc hk (pc' := 99) 4 (l5 + 1) [(5, .int (l5 + 1)), (4, .int (l4 + z5.1)), (0, .ref (kh k + 0)), (1, .int l1), (3, .int l3)] dX7_lots_96 rfl rfl rfl (by decide) rfl ?_
        refine GG_goto hk 55 dX7_lots_99 (by decide) ?_
        refine GG_sub (L' := [(0, .ref (kh k + 0)), (1, .int l1), (3, .int l3), (4, .int (l4 + z5.1)), (5, .int (l5 + 1))]) [2, 3, 4, 1, 0] rfl ?_
        exact ih z5.2 l1 l3 (l4 + z5.1) (l5 + 1) 
      · refine GG_aload_n hk (pc' := 72) 0 dX7_lots_71 rfl rfl rfl ?_
        refine GG_aload_n hk (pc' := 73) 0 dX7_lots_72 rfl rfl rfl ?_
        refine GG_get hk LC7 2 (v := .ref (kh k + 21)) (pc' := 76) tw_300 rfl rfl (by decide) rfl dX7_lots_73 rfl ?_
        refine GG_callVi hk (st := [.int l4]) (pc' := 79) mf_X7_numbersTogether mv_X7_numbersTogether LC7 rfl (c_X7_numbersTogether _ _ _ z2 21 okS_21) (by omega) tw_799 rfl rfl rfl (Nat.le_of_ble_eq_true rfl) dX7_lots_76 rfl (fun z6 e_z6 => ?_)
        refine GG_goto hk 93 dX7_lots_79 (by decide) ?_
        refine GG_iadd hk (pc' := 94) dX7_lots_93 rfl ?_
        refine GG_istore hk (pc' := 96) [(4, .int (l4 + z6.1)), (0, .ref (kh k + 0)), (1, .int l1), (3, .int l3), (5, .int l5)] dX7_lots_94 rfl (by decide) rfl ?_
        refine GG_iinc hk (pc' := 99) 4 (l5 + 1) [(5, .int (l5 + 1)), (4, .int (l4 + z6.1)), (0, .ref (kh k + 0)), (1, .int l1), (3, .int l3)] dX7_lots_96 rfl rfl rfl (by decide) rfl ?_
        refine GG_goto hk 55 dX7_lots_99 (by decide) ?_
        refine GG_sub (L' := [(0, .ref (kh k + 0)), (1, .int l1), (3, .int l3), (4, .int (l4 + z6.1)), (5, .int (l5 + 1))]) [2, 3, 4, 1, 0] rfl ?_
        exact ih z6.2 l1 l3 (l4 + z6.1) (l5 + 1) 
noncomputable def f_X7_lots (M : Mem) (l1 : Int32) (l2 : Int32) (l3 : Int32) : Option (Int32 × Mem) :=
    if 1 ≤ l1 then
      if l1 ≤ 20 then
        if l3 < 0 then
          Option.bind (f_X7_refuse M (-2)) fun z4 =>
          some (z4.1, z4.2)
        else
          if l3 ≤ 1 then
            Option.bind (wrf M 104 0 l2) fun M6 =>
            f_X7_lots_55  1000 M6 l1 l3 0 0
          else
            Option.bind (f_X7_refuse M (-2)) fun z7 =>
            some (z7.1, z7.2)
      else
        Option.bind (f_X7_refuse M (-6)) fun z8 =>
        some (z8.1, z8.2)
    else
      Option.bind (f_X7_refuse M (-4)) fun z9 =>
      some (z9.1, z9.2)
set_option maxRecDepth 20000 in
theorem m_X7_lots {k : KT} {q : Int32 × Mem} (hk : CX k cX7_lots RX7 6 (some .int) 133) (hq : RI k q) (M : Mem) (l1 : Int32) (l2 : Int32) (l3 : Int32)  : GG k q (wM k M) 0 [(0, .ref (kh k + 0)), (1, .int l1), (2, .int l2), (3, .int l3)] [] (f_X7_lots M l1 l2 l3) := by
  unfold f_X7_lots
  refine GG_iload_n hk (pc' := 1) 1 dX7_lots_0 rfl rfl rfl ?_
  refine GG_iconst hk (pc' := 2) 1 dX7_lots_1 rfl rfl ?_
  refine GG_icmp_ge hk 12 (pc' := 5) dX7_lots_2 rfl (by decide) (fun c1 => ?_) (fun c1 => ?_)
  · refine GG_iload_n hk (pc' := 13) 1 dX7_lots_12 rfl rfl rfl ?_
    refine GG_bipush hk (pc' := 15) 20 dX7_lots_13 rfl rfl ?_
    refine GG_icmp_le hk 25 (pc' := 18) dX7_lots_15 rfl (by decide) (fun c2 => ?_) (fun c2 => ?_)
    · refine GG_iload_n hk (pc' := 26) 3 dX7_lots_25 rfl rfl rfl ?_
      refine GG_if_lt hk 34 (pc' := 29) dX7_lots_26 rfl (by decide) (fun c3 => ?_) (fun c3 => ?_)
      · refine GG_aload_n hk (pc' := 35) 0 dX7_lots_34 rfl rfl rfl ?_
        refine GG_bipush hk (pc' := 37) (-2) dX7_lots_35 rfl rfl ?_
        refine GG_callVi hk (st := []) (pc' := 40) mf_X7_refuse mv_X7_refuse LC7 rfl (c_X7_refuse _ _ _ M (-2) ) (by omega) tw_333 rfl rfl rfl (Nat.le_of_ble_eq_true rfl) dX7_lots_37 rfl (fun z4 e_z4 => ?_)
        exact GG_iret hk hq dX7_lots_40
      · refine GG_iload_n hk (pc' := 30) 3 dX7_lots_29 rfl rfl rfl ?_
        refine GG_iconst hk (pc' := 31) 1 dX7_lots_30 rfl rfl ?_
        refine GG_icmp_le hk 41 (pc' := 34) dX7_lots_31 rfl (by decide) (fun c5 => ?_) (fun c5 => ?_)
        · refine GG_iconst hk (pc' := 42) 0 dX7_lots_41 rfl rfl ?_
          refine GG_istore hk (pc' := 44) [(4, .int 0), (0, .ref (kh k + 0)), (1, .int l1), (2, .int l2), (3, .int l3)] dX7_lots_42 rfl (by decide) rfl ?_
          refine GG_aload_n hk (pc' := 45) 1 dX7_lots_44 rfl rfl rfl ?_
          refine GG_get hk LC7 6 (v := .ref (kh k + 104)) (pc' := 48) tw_304 rfl rfl (by decide) rfl dX7_lots_45 rfl ?_
          refine GG_iload_n hk (pc' := 49) 3 dX7_lots_48 rfl rfl rfl ?_
          refine GG_put hk LC0 0 (pc' := 52) tw_292 rfl rfl (by decide) rfl rfl (Nat.le_of_ble_eq_true rfl) (pv_0_0 _ _ _ _) dX7_lots_49 rfl (fun M6 e_M6 => ?_)
          refine GG_iconst hk (pc' := 53) 0 dX7_lots_52 rfl rfl ?_
          refine GG_istore hk (pc' := 55) [(5, .int 0), (4, .int 0), (0, .ref (kh k + 0)), (1, .int l1), (2, .int l2), (3, .int l3)] dX7_lots_53 rfl (by decide) rfl ?_
          refine GG_sub (L' := [(0, .ref (kh k + 0)), (1, .int l1), (3, .int l3), (4, .int 0), (5, .int 0)]) [2, 3, 5, 1, 0] rfl ?_
          exact m_X7_lots_55 hk hq  1000 M6 l1 l3 0 0 
        · refine GG_aload_n hk (pc' := 35) 0 dX7_lots_34 rfl rfl rfl ?_
          refine GG_bipush hk (pc' := 37) (-2) dX7_lots_35 rfl rfl ?_
          refine GG_callVi hk (st := []) (pc' := 40) mf_X7_refuse mv_X7_refuse LC7 rfl (c_X7_refuse _ _ _ M (-2) ) (by omega) tw_333 rfl rfl rfl (Nat.le_of_ble_eq_true rfl) dX7_lots_37 rfl (fun z7 e_z7 => ?_)
          exact GG_iret hk hq dX7_lots_40
    · refine GG_aload_n hk (pc' := 19) 0 dX7_lots_18 rfl rfl rfl ?_
      refine GG_bipush hk (pc' := 21) (-6) dX7_lots_19 rfl rfl ?_
      refine GG_callVi hk (st := []) (pc' := 24) mf_X7_refuse mv_X7_refuse LC7 rfl (c_X7_refuse _ _ _ M (-6) ) (by omega) tw_333 rfl rfl rfl (Nat.le_of_ble_eq_true rfl) dX7_lots_21 rfl (fun z8 e_z8 => ?_)
      exact GG_iret hk hq dX7_lots_24
  · refine GG_aload_n hk (pc' := 6) 0 dX7_lots_5 rfl rfl rfl ?_
    refine GG_bipush hk (pc' := 8) (-4) dX7_lots_6 rfl rfl ?_
    refine GG_callVi hk (st := []) (pc' := 11) mf_X7_refuse mv_X7_refuse LC7 rfl (c_X7_refuse _ _ _ M (-4) ) (by omega) tw_333 rfl rfl rfl (Nat.le_of_ble_eq_true rfl) dX7_lots_8 rfl (fun z9 e_z9 => ?_)
    exact GG_iret hk hq dX7_lots_11
theorem c_X7_lots (l : Launch) (C : DD) (a : Nat) (M : Mem) (l1 : Int32) (l2 : Int32) (l3 : Int32)  : CI l C (a) yX7_lots cX7_lots 6 .int 133 [.ref (a + 0), .int l1, .int l2, .int l3] M (f_X7_lots M l1 l2 l3) := by
  refine CI_of RX7 (by decide +kernel) rfl (Nat.le_of_ble_eq_true rfl) (fun k q hk hq e1 e2 e3 => ?_)
  subst e1; subst e2; subst e3
  exact m_X7_lots hk hq M l1 l2 l3 

/-! SettingsInLayers.image()I -/
noncomputable def f_X7_image (M : Mem)  : Option (Int32 × Mem) :=
    Option.bind (f_X4_become M 11 1) fun z1 =>
    Option.bind (wrz z1 0 9 1) fun M2 =>
    Option.bind (f_X4_entries M2 1) fun z3 =>
    some (z3.1, z3.2)
set_option maxRecDepth 20000 in
theorem m_X7_image {k : KT} {q : Int32 × Mem} (hk : CX k cX7_image RX7 1 (some .int) 4) (hq : RI k q) (M : Mem)   : GG k q (wM k M) 0 [(0, .ref (kh k + 0))] [] (f_X7_image M ) := by
  unfold f_X7_image
  refine GG_aload_n hk (pc' := 1) 0 dX7_image_0 rfl rfl rfl ?_
  refine GG_get hk LC7 1 (v := .ref (kh k + 11)) (pc' := 4) tw_299 rfl rfl (by decide) rfl dX7_image_1 rfl ?_
  refine GG_aload_n hk (pc' := 5) 0 dX7_image_4 rfl rfl rfl ?_
  refine GG_get hk LC7 0 (v := .ref (kh k + 1)) (pc' := 8) tw_298 rfl rfl (by decide) rfl dX7_image_5 rfl ?_
  refine GG_callVv hk (st := []) (pc' := 11) mf_X4_become mv_X4_become LC4 rfl (c_X4_become _ _ _ M 11 1 okS_11 okS_1) (by omega) tw_424 (kdS okS_11) rfl rfl (Nat.le_of_ble_eq_true rfl) dX7_image_8 rfl (fun z1 e_z1 => ?_)
  refine GG_aload_n hk (pc' := 12) 0 dX7_image_11 rfl rfl rfl ?_
  refine GG_iconst hk (pc' := 13) 1 dX7_image_12 rfl rfl ?_
  refine GG_putz hk LC7 9 (pc' := 16) tw_307 rfl rfl (by decide) rfl rfl (Nat.le_of_ble_eq_true rfl) (pv_7_9 _ _ _ _) dX7_image_13 rfl (fun M2 e_M2 => ?_)
  refine GG_aload_n hk (pc' := 17) 0 dX7_image_16 rfl rfl rfl ?_
  refine GG_get hk LC7 0 (v := .ref (kh k + 1)) (pc' := 20) tw_298 rfl rfl (by decide) rfl dX7_image_17 rfl ?_
  refine GG_callVi hk (st := []) (pc' := 23) mf_X4_entries mv_X4_entries LC4 rfl (c_X4_entries _ _ _ M2 1 okS_1) (by omega) tw_814 (kdS okS_1) rfl rfl (Nat.le_of_ble_eq_true rfl) dX7_image_20 rfl (fun z3 e_z3 => ?_)
  exact GG_iret hk hq dX7_image_23
theorem c_X7_image (l : Launch) (C : DD) (a : Nat) (M : Mem)   : CI l C (a) yX7_image cX7_image 1 .int 4 [.ref (a + 0)] M (f_X7_image M ) := by
  refine CI_of RX7 (by decide +kernel) rfl (Nat.le_of_ble_eq_true rfl) (fun k q hk hq e1 e2 e3 => ?_)
  subst e1; subst e2; subst e3
  exact m_X7_image hk hq M  

/-! SettingsInLayers.on()I -/
noncomputable def f_X7_on (M : Mem)  : Option (Int32 × Mem) :=
    if ¬ (M 0 9) = 0 then
      Option.bind (f_X4_become M 1 11) fun z2 =>
      Option.bind (f_X4_entries z2 1) fun z3 =>
      some (z3.1, z3.2)
    else
      Option.bind (f_X7_refuse M (-3)) fun z4 =>
      some (z4.1, z4.2)
set_option maxRecDepth 20000 in
theorem m_X7_on {k : KT} {q : Int32 × Mem} (hk : CX k cX7_on RX7 1 (some .int) 4) (hq : RI k q) (M : Mem)   : GG k q (wM k M) 0 [(0, .ref (kh k + 0))] [] (f_X7_on M ) := by
  unfold f_X7_on
  refine GG_aload_n hk (pc' := 1) 0 dX7_on_0 rfl rfl rfl ?_
  refine GG_get hk LC7 9 (v := .int (M 0 9)) (pc' := 4) tw_307 rfl rfl (by decide) rfl dX7_on_1 rfl ?_
  refine GG_if_ne hk 14 (pc' := 7) dX7_on_4 rfl (by decide) (fun c1 => ?_) (fun c1 => ?_)
  · refine GG_aload_n hk (pc' := 15) 0 dX7_on_14 rfl rfl rfl ?_
    refine GG_get hk LC7 0 (v := .ref (kh k + 1)) (pc' := 18) tw_298 rfl rfl (by decide) rfl dX7_on_15 rfl ?_
    refine GG_aload_n hk (pc' := 19) 0 dX7_on_18 rfl rfl rfl ?_
    refine GG_get hk LC7 1 (v := .ref (kh k + 11)) (pc' := 22) tw_299 rfl rfl (by decide) rfl dX7_on_19 rfl ?_
    refine GG_callVv hk (st := []) (pc' := 25) mf_X4_become mv_X4_become LC4 rfl (c_X4_become _ _ _ M 1 11 okS_1 okS_11) (by omega) tw_424 (kdS okS_1) rfl rfl (Nat.le_of_ble_eq_true rfl) dX7_on_22 rfl (fun z2 e_z2 => ?_)
    refine GG_aload_n hk (pc' := 26) 0 dX7_on_25 rfl rfl rfl ?_
    refine GG_get hk LC7 0 (v := .ref (kh k + 1)) (pc' := 29) tw_298 rfl rfl (by decide) rfl dX7_on_26 rfl ?_
    refine GG_callVi hk (st := []) (pc' := 32) mf_X4_entries mv_X4_entries LC4 rfl (c_X4_entries _ _ _ z2 1 okS_1) (by omega) tw_814 (kdS okS_1) rfl rfl (Nat.le_of_ble_eq_true rfl) dX7_on_29 rfl (fun z3 e_z3 => ?_)
    exact GG_iret hk hq dX7_on_32
  · refine GG_aload_n hk (pc' := 8) 0 dX7_on_7 rfl rfl rfl ?_
    refine GG_bipush hk (pc' := 10) (-3) dX7_on_8 rfl rfl ?_
    refine GG_callVi hk (st := []) (pc' := 13) mf_X7_refuse mv_X7_refuse LC7 rfl (c_X7_refuse _ _ _ M (-3) ) (by omega) tw_333 rfl rfl rfl (Nat.le_of_ble_eq_true rfl) dX7_on_10 rfl (fun z4 e_z4 => ?_)
    exact GG_iret hk hq dX7_on_13
theorem c_X7_on (l : Launch) (C : DD) (a : Nat) (M : Mem)   : CI l C (a) yX7_on cX7_on 1 .int 4 [.ref (a + 0)] M (f_X7_on M ) := by
  refine CI_of RX7 (by decide +kernel) rfl (Nat.le_of_ble_eq_true rfl) (fun k q hk hq e1 e2 e3 => ?_)
  subst e1; subst e2; subst e3
  exact m_X7_on hk hq M  

/-! SettingsInLayers.count(I)I -/
noncomputable def f_X7_count (M : Mem) (l1 : Int32) : Option (Int32 × Mem) :=
    if l1 = 0 then
      Option.bind (f_X4_entries M 1) fun z2 =>
      some (z2.1, z2.2)
    else
      if l1 = 1 then
        some ((M 1 0), M)
      else
        if l1 = 2 then
          Option.bind (f_X4_keyBitsOfAll M 1) fun z5 =>
          some (z5.1, z5.2)
        else
          if l1 = 3 then
            Option.bind (f_X4_items M 1) fun z7 =>
            some (z7.1, z7.2)
          else
            if l1 = 4 then
              Option.bind (f_X7_faultBits M 1) fun z9 =>
              some (z9.1, z9.2)
            else
              if l1 = 5 then
                some ((M 102 1), M)
              else
                if l1 = 6 then
                  some ((M 97 1), M)
                else
                  if l1 < 11 then
                    some ((-9), M)
                  else
                    if 16 < l1 then
                      some ((-9), M)
                    else
                      Option.bind (rd 7 (M 106) (l1 - 10)) fun v14 =>
                      some (v14, M)
set_option maxRecDepth 20000 in
theorem m_X7_count {k : KT} {q : Int32 × Mem} (hk : CX k cX7_count RX7 2 (some .int) 133) (hq : RI k q) (M : Mem) (l1 : Int32)  : GG k q (wM k M) 0 [(0, .ref (kh k + 0)), (1, .int l1)] [] (f_X7_count M l1) := by
  unfold f_X7_count
  refine GG_iload_n hk (pc' := 1) 1 dX7_count_0 rfl rfl rfl ?_
  refine GG_if (fun c1 => ?_) (fun c1 => ?_)
  · refine GG_tabIn hk 44 0 c1 dX7_count_1 (by decide) (by decide) rfl (by decide) ?_
    refine GG_aload_n hk (pc' := 45) 0 dX7_count_44 rfl rfl rfl ?_
    refine GG_get hk LC7 0 (v := .ref (kh k + 1)) (pc' := 48) tw_298 rfl rfl (by decide) rfl dX7_count_45 rfl ?_
    refine GG_callVi hk (st := []) (pc' := 51) mf_X4_entries mv_X4_entries LC4 rfl (c_X4_entries _ _ _ M 1 okS_1) (by omega) tw_814 (kdS okS_1) rfl rfl (Nat.le_of_ble_eq_true rfl) dX7_count_48 rfl (fun z2 e_z2 => ?_)
    exact GG_iret hk hq dX7_count_51
  · refine GG_if (fun c3 => ?_) (fun c3 => ?_)
    · refine GG_tabIn hk 52 1 c3 dX7_count_1 (by decide) (by decide) rfl (by decide) ?_
      refine GG_aload_n hk (pc' := 53) 0 dX7_count_52 rfl rfl rfl ?_
      refine GG_get hk LC7 0 (v := .ref (kh k + 1)) (pc' := 56) tw_298 rfl rfl (by decide) rfl dX7_count_53 rfl ?_
      refine GG_get hk LC4 0 (v := .int (M 1 0)) (pc' := 59) tw_45 rfl (kdS okS_1) (by decide) rfl dX7_count_56 rfl ?_
      exact GG_iret hk hq dX7_count_59
    · refine GG_if (fun c4 => ?_) (fun c4 => ?_)
      · refine GG_tabIn hk 60 2 c4 dX7_count_1 (by decide) (by decide) rfl (by decide) ?_
        refine GG_aload_n hk (pc' := 61) 0 dX7_count_60 rfl rfl rfl ?_
        refine GG_get hk LC7 0 (v := .ref (kh k + 1)) (pc' := 64) tw_298 rfl rfl (by decide) rfl dX7_count_61 rfl ?_
        refine GG_callVi hk (st := []) (pc' := 67) mf_X4_keyBitsOfAll mv_X4_keyBitsOfAll LC4 rfl (c_X4_keyBitsOfAll _ _ _ M 1 okS_1) (by omega) tw_828 (kdS okS_1) rfl rfl (Nat.le_of_ble_eq_true rfl) dX7_count_64 rfl (fun z5 e_z5 => ?_)
        exact GG_iret hk hq dX7_count_67
      · refine GG_if (fun c6 => ?_) (fun c6 => ?_)
        · refine GG_tabIn hk 68 3 c6 dX7_count_1 (by decide) (by decide) rfl (by decide) ?_
          refine GG_aload_n hk (pc' := 69) 0 dX7_count_68 rfl rfl rfl ?_
          refine GG_get hk LC7 0 (v := .ref (kh k + 1)) (pc' := 72) tw_298 rfl rfl (by decide) rfl dX7_count_69 rfl ?_
          refine GG_callVi hk (st := []) (pc' := 75) mf_X4_items mv_X4_items LC4 rfl (c_X4_items _ _ _ M 1 okS_1) (by omega) tw_832 (kdS okS_1) rfl rfl (Nat.le_of_ble_eq_true rfl) dX7_count_72 rfl (fun z7 e_z7 => ?_)
          exact GG_iret hk hq dX7_count_75
        · refine GG_if (fun c8 => ?_) (fun c8 => ?_)
          · refine GG_tabIn hk 76 4 c8 dX7_count_1 (by decide) (by decide) rfl (by decide) ?_
            refine GG_aload_n hk (pc' := 77) 0 dX7_count_76 rfl rfl rfl ?_
            refine GG_aload_n hk (pc' := 78) 0 dX7_count_77 rfl rfl rfl ?_
            refine GG_get hk LC7 0 (v := .ref (kh k + 1)) (pc' := 81) tw_298 rfl rfl (by decide) rfl dX7_count_78 rfl ?_
            refine GG_callVi hk (st := []) (pc' := 84) mf_X7_faultBits mv_X7_faultBits LC7 rfl (c_X7_faultBits _ _ _ M 1 okS_1) (by omega) tw_806 rfl rfl rfl (Nat.le_of_ble_eq_true rfl) dX7_count_81 rfl (fun z9 e_z9 => ?_)
            exact GG_iret hk hq dX7_count_84
          · refine GG_if (fun c10 => ?_) (fun c10 => ?_)
            · refine GG_tabIn hk 85 5 c10 dX7_count_1 (by decide) (by decide) rfl (by decide) ?_
              refine GG_aload_n hk (pc' := 86) 0 dX7_count_85 rfl rfl rfl ?_
              refine GG_get hk LC7 5 (v := .ref (kh k + 102)) (pc' := 89) tw_303 rfl rfl (by decide) rfl dX7_count_86 rfl ?_
              refine GG_get hk LC3 1 (v := .int (M 102 1)) (pc' := 92) tw_279 rfl rfl (by decide) rfl dX7_count_89 rfl ?_
              exact GG_iret hk hq dX7_count_92
            · refine GG_if (fun c11 => ?_) (fun c11 => ?_)
              · refine GG_tabIn hk 93 6 c11 dX7_count_1 (by decide) (by decide) rfl (by decide) ?_
                refine GG_aload_n hk (pc' := 94) 0 dX7_count_93 rfl rfl rfl ?_
                refine GG_get hk LC7 4 (v := .ref (kh k + 97)) (pc' := 97) tw_302 rfl rfl (by decide) rfl dX7_count_94 rfl ?_
                refine GG_get hk LC6 1 (v := .int (M 97 1)) (pc' := 100) tw_257 rfl rfl (by decide) rfl dX7_count_97 rfl ?_
                exact GG_iret hk hq dX7_count_100
              · refine GG_tabOut hk 101 dX7_count_1 (sw_out_0_6 c1 c3 c4 c6 c8 c10 c11) (by decide) ?_
                refine GG_iload_n hk (pc' := 102) 1 dX7_count_101 rfl rfl rfl ?_
                refine GG_bipush hk (pc' := 104) 11 dX7_count_102 rfl rfl ?_
                refine GG_icmp_lt hk 125 (pc' := 107) dX7_count_104 rfl (by decide) (fun c12 => ?_) (fun c12 => ?_)
                · refine GG_bipush hk (pc' := 127) (-9) dX7_count_125 rfl rfl ?_
                  exact GG_iret hk hq dX7_count_127
                · refine GG_iload_n hk (pc' := 108) 1 dX7_count_107 rfl rfl rfl ?_
                  refine GG_bipush hk (pc' := 110) 16 dX7_count_108 rfl rfl ?_
                  refine GG_icmp_gt hk 125 (pc' := 113) dX7_count_110 rfl (by decide) (fun c13 => ?_) (fun c13 => ?_)
                  · refine GG_bipush hk (pc' := 127) (-9) dX7_count_125 rfl rfl ?_
                    exact GG_iret hk hq dX7_count_127
                  · refine GG_aload_n hk (pc' := 114) 0 dX7_count_113 rfl rfl rfl ?_
                    refine GG_get hk LC7 8 (v := .ref (kh k + 106)) (pc' := 117) tw_306 rfl rfl (by decide) rfl dX7_count_114 rfl ?_
                    refine GG_iload_n hk (pc' := 118) 1 dX7_count_117 rfl rfl rfl ?_
                    refine GG_bipush hk (pc' := 120) 10 dX7_count_118 rfl rfl ?_
                    refine GG_isub hk (pc' := 121) dX7_count_120 rfl ?_
                    refine GG_iald hk (pc' := 122) rfl rfl dX7_count_121 rfl (fun v14 e_v14 => ?_)
                    refine GG_goto hk 127 dX7_count_122 (by decide) ?_
                    exact GG_iret hk hq dX7_count_127
theorem c_X7_count (l : Launch) (C : DD) (a : Nat) (M : Mem) (l1 : Int32)  : CI l C (a) yX7_count cX7_count 2 .int 133 [.ref (a + 0), .int l1] M (f_X7_count M l1) := by
  refine CI_of RX7 (by decide +kernel) rfl (Nat.le_of_ble_eq_true rfl) (fun k q hk hq e1 e2 e3 => ?_)
  subst e1; subst e2; subst e3
  exact m_X7_count hk hq M l1 
