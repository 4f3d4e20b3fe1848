/-! SettingsInLayers$Told.append(I)I -/
noncomputable def f_X6_append (M : Mem) (l1 : Int32) : Option (Int32 × Mem) :=
    Option.bind (wra 96 M 98 (M 97 1) l1) fun M1 =>
    Option.bind (wrf M1 97 1 ((M1 97 1) + 1)) fun M2 =>
    some ((M2 97 1), M2)
set_option maxRecDepth 20000 in
theorem m_X6_append {k : KT} {q : Int32 × Mem} (hk : CX k cX6_append RX6 2 (some .int) 1) (hq : RI k q) (M : Mem) (l1 : Int32)  : GG k q (wM k M) 0 [(0, .ref (kh k + 97)), (1, .int l1)] [] (f_X6_append M l1) := by
  unfold f_X6_append
  refine GG_aload_n hk (pc' := 1) 0 dX6_append_0 rfl rfl rfl ?_
  refine GG_get hk LC6 0 (v := .ref (kh k + 98)) (pc' := 4) tw_255 rfl rfl (by decide) rfl dX6_append_1 rfl ?_
  refine GG_aload_n hk (pc' := 5) 0 dX6_append_4 rfl rfl rfl ?_
  refine GG_get hk LC6 1 (v := .int (M 97 1)) (pc' := 8) tw_256 rfl rfl (by decide) rfl dX6_append_5 rfl ?_
  refine GG_iload_n hk (pc' := 9) 1 dX6_append_8 rfl rfl rfl ?_
  refine GG_iast hk (pc' := 10) rfl rfl dX6_append_9 rfl (fun M1 e_M1 => ?_)
  refine GG_aload_n hk (pc' := 11) 0 dX6_append_10 rfl rfl rfl ?_
  refine GG_dup hk (pc' := 12) dX6_append_11 rfl rfl ?_
  refine GG_get hk LC6 1 (v := .int (M1 97 1)) (pc' := 15) tw_256 rfl rfl (by decide) rfl dX6_append_12 rfl ?_
  refine GG_iconst hk (pc' := 16) 1 dX6_append_15 rfl rfl ?_
  refine GG_iadd hk (pc' := 17) dX6_append_16 rfl ?_
  refine GG_put hk LC6 1 (pc' := 20) tw_256 rfl rfl (by decide) rfl rfl (Nat.le_of_ble_eq_true rfl) (pv_6_1 _ _ _ _) dX6_append_17 rfl (fun M2 e_M2 => ?_)
  refine GG_aload_n hk (pc' := 21) 0 dX6_append_20 rfl rfl rfl ?_
  refine GG_get hk LC6 1 (v := .int (M2 97 1)) (pc' := 24) tw_256 rfl rfl (by decide) rfl dX6_append_21 rfl ?_
  exact GG_iret hk hq dX6_append_24
theorem c_X6_append (l : Launch) (C : DD) (a : Nat) (M : Mem) (l1 : Int32)  : CI l C (a) yX6_append cX6_append 2 .int 1 [.ref (a + 97), .int l1] M (f_X6_append M l1) := by
  refine CI_of RX6 (by decide +kernel) rfl (Nat.le_of_ble_eq_true rfl) (fun k q hk hq e1 e2 e3 => ?_)
  subst e1; subst e2; subst e3
  exact m_X6_append hk hq M l1 

/-! SettingsInLayers$Told.letterHere()I -/
noncomputable def f_X6_letterHere (M : Mem)  : Option (Int32 × Mem) :=
    if (M 97 2) < 0 then
      some ((-1), M)
    else
      if (M 97 1) ≤ (M 97 2) then
        some ((-1), M)
      else
        if 96 ≤ (M 97 2) then
          some ((-1), M)
        else
          Option.bind (rd 96 (M 98) (M 97 2)) fun v4 =>
          some (v4, M)
set_option maxRecDepth 20000 in
theorem m_X6_letterHere {k : KT} {q : Int32 × Mem} (hk : CX k cX6_letterHere RX6 1 (some .int) 1) (hq : RI k q) (M : Mem)   : GG k q (wM k M) 0 [(0, .ref (kh k + 97))] [] (f_X6_letterHere M ) := by
  unfold f_X6_letterHere
  refine GG_aload_n hk (pc' := 1) 0 dX6_letterHere_0 rfl rfl rfl ?_
  refine GG_get hk LC6 2 (v := .int (M 97 2)) (pc' := 4) tw_258 rfl rfl (by decide) rfl dX6_letterHere_1 rfl ?_
  refine GG_if_lt hk 39 (pc' := 7) dX6_letterHere_4 rfl (by decide) (fun c1 => ?_) (fun c1 => ?_)
  · refine GG_iconst hk (pc' := 40) (-1) dX6_letterHere_39 rfl rfl ?_
    exact GG_iret hk hq dX6_letterHere_40
  · refine GG_aload_n hk (pc' := 8) 0 dX6_letterHere_7 rfl rfl rfl ?_
    refine GG_get hk LC6 2 (v := .int (M 97 2)) (pc' := 11) tw_258 rfl rfl (by decide) rfl dX6_letterHere_8 rfl ?_
    refine GG_aload_n hk (pc' := 12) 0 dX6_letterHere_11 rfl rfl rfl ?_
    refine GG_get hk LC6 1 (v := .int (M 97 1)) (pc' := 15) tw_256 rfl rfl (by decide) rfl dX6_letterHere_12 rfl ?_
    refine GG_icmp_ge hk 39 (pc' := 18) dX6_letterHere_15 rfl (by decide) (fun c2 => ?_) (fun c2 => ?_)
    · refine GG_iconst hk (pc' := 40) (-1) dX6_letterHere_39 rfl rfl ?_
      exact GG_iret hk hq dX6_letterHere_40
    · refine GG_aload_n hk (pc' := 19) 0 dX6_letterHere_18 rfl rfl rfl ?_
      refine GG_get hk LC6 2 (v := .int (M 97 2)) (pc' := 22) tw_258 rfl rfl (by decide) rfl dX6_letterHere_19 rfl ?_
      refine GG_bipush hk (pc' := 24) 96 dX6_letterHere_22 rfl rfl ?_
      refine GG_icmp_ge hk 39 (pc' := 27) dX6_letterHere_24 rfl (by decide) (fun c3 => ?_) (fun c3 => ?_)
      · refine GG_iconst hk (pc' := 40) (-1) dX6_letterHere_39 rfl rfl ?_
        exact GG_iret hk hq dX6_letterHere_40
      · refine GG_aload_n hk (pc' := 28) 0 dX6_letterHere_27 rfl rfl rfl ?_
        refine GG_get hk LC6 0 (v := .ref (kh k + 98)) (pc' := 31) tw_255 rfl rfl (by decide) rfl dX6_letterHere_28 rfl ?_
        refine GG_aload_n hk (pc' := 32) 0 dX6_letterHere_31 rfl rfl rfl ?_
        refine GG_get hk LC6 2 (v := .int (M 97 2)) (pc' := 35) tw_258 rfl rfl (by decide) rfl dX6_letterHere_32 rfl ?_
        refine GG_iald hk (pc' := 36) rfl rfl dX6_letterHere_35 rfl (fun v4 e_v4 => ?_)
        refine GG_goto hk 40 dX6_letterHere_36 (by decide) ?_
        exact GG_iret hk hq dX6_letterHere_40
theorem c_X6_letterHere (l : Launch) (C : DD) (a : Nat) (M : Mem)   : CI l C (a) yX6_letterHere cX6_letterHere 1 .int 1 [.ref (a + 97)] M (f_X6_letterHere M ) := by
  refine CI_of RX6 (by decide +kernel) rfl (Nat.le_of_ble_eq_true rfl) (fun k q hk hq e1 e2 e3 => ?_)
  subst e1; subst e2; subst e3
  exact m_X6_letterHere hk hq M  

/-! SettingsInLayers$Told.readDigit()I -/
noncomputable def f_X6_readDigit (M : Mem)  : Option (Int32 × Mem) :=
    Option.bind (f_X6_letterHere M ) fun z1 =>
    if (z1.1 - 48) < 0 then
      some ((-1), z1.2)
    else
      if (z1.1 - 48) ≤ 9 then
        Option.bind (wrf z1.2 97 2 ((z1.2 97 2) + 1)) fun M4 =>
        some ((z1.1 - 48), M4)
      else
        some ((-1), z1.2)
set_option maxRecDepth 20000 in
theorem m_X6_readDigit {k : KT} {q : Int32 × Mem} (hk : CX k cX6_readDigit RX6 2 (some .int) 2) (hq : RI k q) (M : Mem)   : GG k q (wM k M) 0 [(0, .ref (kh k + 97))] [] (f_X6_readDigit M ) := by
  unfold f_X6_readDigit
  refine GG_aload_n hk (pc' := 1) 0 dX6_readDigit_0 rfl rfl rfl ?_
  refine GG_callVi hk (st := []) (pc' := 4) mf_X6_letterHere mv_X6_letterHere LC6 rfl (c_X6_letterHere _ _ _ M  ) (by omega) tw_353 rfl rfl rfl (Nat.le_of_ble_eq_true rfl) dX6_readDigit_1 rfl (fun z1 e_z1 => ?_)
  refine GG_bipush hk (pc' := 6) 48 dX6_readDigit_4 rfl rfl ?_
  refine GG_isub hk (pc' := 7) dX6_readDigit_6 rfl ?_
  refine GG_istore_n hk (pc' := 8) [(1, .int (z1.1 - 48)), (0, .ref (kh k + 97))] dX6_readDigit_7 rfl rfl (by decide) rfl ?_
  refine GG_iload_n hk (pc' := 9) 0 dX6_readDigit_8 rfl rfl rfl ?_
  refine GG_if_lt hk 18 (pc' := 12) dX6_readDigit_9 rfl (by decide) (fun c2 => ?_) (fun c2 => ?_)
  · refine GG_iconst hk (pc' := 19) (-1) dX6_readDigit_18 rfl rfl ?_
    exact GG_iret hk hq dX6_readDigit_19
  · refine GG_iload_n hk (pc' := 13) 0 dX6_readDigit_12 rfl rfl rfl ?_
    refine GG_bipush hk (pc' := 15) 9 dX6_readDigit_13 rfl rfl ?_
    refine GG_icmp_le hk 20 (pc' := 18) dX6_readDigit_15 rfl (by decide) (fun c3 => ?_) (fun c3 => ?_)
    · refine GG_aload_n hk (pc' := 21) 1 dX6_readDigit_20 rfl rfl rfl ?_
      refine GG_dup hk (pc' := 22) dX6_readDigit_21 rfl rfl ?_
      refine GG_get hk LC6 2 (v := .int (z1.2 97 2)) (pc' := 25) tw_258 rfl rfl (by decide) rfl dX6_readDigit_22 rfl ?_
      refine GG_iconst hk (pc' := 26) 1 dX6_readDigit_25 rfl rfl ?_
      refine GG_iadd hk (pc' := 27) dX6_readDigit_26 rfl ?_
      refine GG_put hk LC6 2 (pc' := 30) tw_258 rfl rfl (by decide) rfl rfl (Nat.le_of_ble_eq_true rfl) (pv_6_2 _ _ _ _) dX6_readDigit_27 rfl (fun M4 e_M4 => ?_)
      refine GG_iload_n hk (pc' := 31) 0 dX6_readDigit_30 rfl rfl rfl ?_
      exact GG_iret hk hq dX6_readDigit_31
    · refine GG_iconst hk (pc' := 19) (-1) dX6_readDigit_18 rfl rfl ?_
      exact GG_iret hk hq dX6_readDigit_19
theorem c_X6_readDigit (l : Launch) (C : DD) (a : Nat) (M : Mem)   : CI l C (a) yX6_readDigit cX6_readDigit 2 .int 2 [.ref (a + 97)] M (f_X6_readDigit M ) := by
  refine CI_of RX6 (by decide +kernel) rfl (Nat.le_of_ble_eq_true rfl) (fun k q hk hq e1 e2 e3 => ?_)
  subst e1; subst e2; subst e3
  exact m_X6_readDigit hk hq M  

/-! SettingsInLayers$Told.readLayer()Z -/
noncomputable def f_X6_readLayer (M : Mem)  : Option (Int32 × Mem) :=
    Option.bind (f_X6_readDigit M ) fun z1 =>
    Option.bind (wrf z1.2 99 1 z1.1) fun M2 =>
    if (M2 99 1) < 0 then
      bret 0 M2
    else
      bret 1 M2
set_option maxRecDepth 20000 in
theorem m_X6_readLayer {k : KT} {q : Int32 × Mem} (hk : CX k cX6_readLayer RX6 1 (some .boolean) 3) (hq : RI k q) (M : Mem)   : GG k q (wM k M) 0 [(0, .ref (kh k + 97))] [] (f_X6_readLayer M ) := by
  unfold f_X6_readLayer
  refine GG_aload_n hk (pc' := 1) 0 dX6_readLayer_0 rfl rfl rfl ?_
  refine GG_get hk LC6 3 (v := .ref (kh k + 99)) (pc' := 4) tw_260 rfl rfl (by decide) rfl dX6_readLayer_1 rfl ?_
  refine GG_aload_n hk (pc' := 5) 0 dX6_readLayer_4 rfl rfl rfl ?_
  refine GG_callVi hk (st := [.ref (kh k + 99)]) (pc' := 8) mf_X6_readDigit mv_X6_readDigit LC6 rfl (c_X6_readDigit _ _ _ M  ) (by omega) tw_361 rfl rfl rfl (Nat.le_of_ble_eq_true rfl) dX6_readLayer_5 rfl (fun z1 e_z1 => ?_)
  refine GG_put hk LC5 1 (pc' := 11) tw_206 rfl rfl (by decide) rfl rfl (Nat.le_of_ble_eq_true rfl) (pv_5_1 _ _ _ _) dX6_readLayer_8 rfl (fun M2 e_M2 => ?_)
  refine GG_aload_n hk (pc' := 12) 0 dX6_readLayer_11 rfl rfl rfl ?_
  refine GG_get hk LC6 3 (v := .ref (kh k + 99)) (pc' := 15) tw_260 rfl rfl (by decide) rfl dX6_readLayer_12 rfl ?_
  refine GG_get hk LC5 1 (v := .int (M2 99 1)) (pc' := 18) tw_206 rfl rfl (by decide) rfl dX6_readLayer_15 rfl ?_
  refine GG_if_lt hk 25 (pc' := 21) dX6_readLayer_18 rfl (by decide) (fun c3 => ?_) (fun c3 => ?_)
  · refine GG_iconst hk (pc' := 26) 0 dX6_readLayer_25 rfl rfl ?_
    exact GG_zret hk hq dX6_readLayer_26
  · refine GG_iconst hk (pc' := 22) 1 dX6_readLayer_21 rfl rfl ?_
    refine GG_goto hk 26 dX6_readLayer_22 (by decide) ?_
    exact GG_zret hk hq dX6_readLayer_26
theorem c_X6_readLayer (l : Launch) (C : DD) (a : Nat) (M : Mem)   : CI l C (a) yX6_readLayer cX6_readLayer 1 .boolean 3 [.ref (a + 97)] M (f_X6_readLayer M ) := by
  refine CI_of RX6 (by decide +kernel) rfl (Nat.le_of_ble_eq_true rfl) (fun k q hk hq e1 e2 e3 => ?_)
  subst e1; subst e2; subst e3
  exact m_X6_readLayer hk hq M  

/-! SettingsInLayers$Told.readKind()Z -/
noncomputable def f_X6_readKind (M : Mem)  : Option (Int32 × Mem) :=
    Option.bind (f_X6_readDigit M ) fun z1 =>
    Option.bind (wrf z1.2 99 3 z1.1) fun M2 =>
    if (M2 99 3) < 0 then
      bret 0 M2
    else
      bret 1 M2
set_option maxRecDepth 20000 in
theorem m_X6_readKind {k : KT} {q : Int32 × Mem} (hk : CX k cX6_readKind RX6 1 (some .boolean) 3) (hq : RI k q) (M : Mem)   : GG k q (wM k M) 0 [(0, .ref (kh k + 97))] [] (f_X6_readKind M ) := by
  unfold f_X6_readKind
  refine GG_aload_n hk (pc' := 1) 0 dX6_readKind_0 rfl rfl rfl ?_
  refine GG_get hk LC6 3 (v := .ref (kh k + 99)) (pc' := 4) tw_260 rfl rfl (by decide) rfl dX6_readKind_1 rfl ?_
  refine GG_aload_n hk (pc' := 5) 0 dX6_readKind_4 rfl rfl rfl ?_
  refine GG_callVi hk (st := [.ref (kh k + 99)]) (pc' := 8) mf_X6_readDigit mv_X6_readDigit LC6 rfl (c_X6_readDigit _ _ _ M  ) (by omega) tw_361 rfl rfl rfl (Nat.le_of_ble_eq_true rfl) dX6_readKind_5 rfl (fun z1 e_z1 => ?_)
  refine GG_put hk LC5 3 (pc' := 11) tw_210 rfl rfl (by decide) rfl rfl (Nat.le_of_ble_eq_true rfl) (pv_5_3 _ _ _ _) dX6_readKind_8 rfl (fun M2 e_M2 => ?_)
  refine GG_aload_n hk (pc' := 12) 0 dX6_readKind_11 rfl rfl rfl ?_
  refine GG_get hk LC6 3 (v := .ref (kh k + 99)) (pc' := 15) tw_260 rfl rfl (by decide) rfl dX6_readKind_12 rfl ?_
  refine GG_get hk LC5 3 (v := .int (M2 99 3)) (pc' := 18) tw_210 rfl rfl (by decide) rfl dX6_readKind_15 rfl ?_
  refine GG_if_lt hk 25 (pc' := 21) dX6_readKind_18 rfl (by decide) (fun c3 => ?_) (fun c3 => ?_)
  · refine GG_iconst hk (pc' := 26) 0 dX6_readKind_25 rfl rfl ?_
    exact GG_zret hk hq dX6_readKind_26
  · refine GG_iconst hk (pc' := 22) 1 dX6_readKind_21 rfl rfl ?_
    refine GG_goto hk 26 dX6_readKind_22 (by decide) ?_
    exact GG_zret hk hq dX6_readKind_26
theorem c_X6_readKind (l : Launch) (C : DD) (a : Nat) (M : Mem)   : CI l C (a) yX6_readKind cX6_readKind 1 .boolean 3 [.ref (a + 97)] M (f_X6_readKind M ) := by
  refine CI_of RX6 (by decide +kernel) rfl (Nat.le_of_ble_eq_true rfl) (fun k q hk hq e1 e2 e3 => ?_)
  subst e1; subst e2; subst e3
  exact m_X6_readKind hk hq M  

/-! SettingsInLayers$Told.readFigure()Z -/
noncomputable def f_X6_readFigure (M : Mem)  : Option (Int32 × Mem) :=
    Option.bind (f_X6_readDigit M ) fun z1 =>
    Option.bind (wrf z1.2 99 4 z1.1) fun M2 =>
    if (M2 99 4) < 0 then
      bret 0 M2
    else
      bret 1 M2
set_option maxRecDepth 20000 in
theorem m_X6_readFigure {k : KT} {q : Int32 × Mem} (hk : CX k cX6_readFigure RX6 1 (some .boolean) 3) (hq : RI k q) (M : Mem)   : GG k q (wM k M) 0 [(0, .ref (kh k + 97))] [] (f_X6_readFigure M ) := by
  unfold f_X6_readFigure
  refine GG_aload_n hk (pc' := 1) 0 dX6_readFigure_0 rfl rfl rfl ?_
  refine GG_get hk LC6 3 (v := .ref (kh k + 99)) (pc' := 4) tw_260 rfl rfl (by decide) rfl dX6_readFigure_1 rfl ?_
  refine GG_aload_n hk (pc' := 5) 0 dX6_readFigure_4 rfl rfl rfl ?_
  refine GG_callVi hk (st := [.ref (kh k + 99)]) (pc' := 8) mf_X6_readDigit mv_X6_readDigit LC6 rfl (c_X6_readDigit _ _ _ M  ) (by omega) tw_361 rfl rfl rfl (Nat.le_of_ble_eq_true rfl) dX6_readFigure_5 rfl (fun z1 e_z1 => ?_)
  refine GG_put hk LC5 4 (pc' := 11) tw_212 rfl rfl (by decide) rfl rfl (Nat.le_of_ble_eq_true rfl) (pv_5_4 _ _ _ _) dX6_readFigure_8 rfl (fun M2 e_M2 => ?_)
  refine GG_aload_n hk (pc' := 12) 0 dX6_readFigure_11 rfl rfl rfl ?_
  refine GG_get hk LC6 3 (v := .ref (kh k + 99)) (pc' := 15) tw_260 rfl rfl (by decide) rfl dX6_readFigure_12 rfl ?_
  refine GG_get hk LC5 4 (v := .int (M2 99 4)) (pc' := 18) tw_212 rfl rfl (by decide) rfl dX6_readFigure_15 rfl ?_
  refine GG_if_lt hk 25 (pc' := 21) dX6_readFigure_18 rfl (by decide) (fun c3 => ?_) (fun c3 => ?_)
  · refine GG_iconst hk (pc' := 26) 0 dX6_readFigure_25 rfl rfl ?_
    exact GG_zret hk hq dX6_readFigure_26
  · refine GG_iconst hk (pc' := 22) 1 dX6_readFigure_21 rfl rfl ?_
    refine GG_goto hk 26 dX6_readFigure_22 (by decide) ?_
    exact GG_zret hk hq dX6_readFigure_26
theorem c_X6_readFigure (l : Launch) (C : DD) (a : Nat) (M : Mem)   : CI l C (a) yX6_readFigure cX6_readFigure 1 .boolean 3 [.ref (a + 97)] M (f_X6_readFigure M ) := by
  refine CI_of RX6 (by decide +kernel) rfl (Nat.le_of_ble_eq_true rfl) (fun k q hk hq e1 e2 e3 => ?_)
  subst e1; subst e2; subst e3
  exact m_X6_readFigure hk hq M  

/-! SettingsInLayers$Told.readSign(C)Z -/
noncomputable def f_X6_readSign (M : Mem) (l1 : Int32) : Option (Int32 × Mem) :=
    Option.bind (f_X6_letterHere M ) fun z1 =>
    if z1.1 = l1 then
      Option.bind (wrf z1.2 97 2 ((z1.2 97 2) + 1)) fun M3 =>
      bret 1 M3
    else
      bret 0 z1.2
set_option maxRecDepth 20000 in
theorem m_X6_readSign {k : KT} {q : Int32 × Mem} (hk : CX k cX6_readSign RX6 2 (some .boolean) 2) (hq : RI k q) (M : Mem) (l1 : Int32)  : GG k q (wM k M) 0 [(0, .ref (kh k + 97)), (1, .int l1)] [] (f_X6_readSign M l1) := by
  unfold f_X6_readSign
  refine GG_aload_n hk (pc' := 1) 0 dX6_readSign_0 rfl rfl rfl ?_
  refine GG_callVi hk (st := []) (pc' := 4) mf_X6_letterHere mv_X6_letterHere LC6 rfl (c_X6_letterHere _ _ _ M  ) (by omega) tw_353 rfl rfl rfl (Nat.le_of_ble_eq_true rfl) dX6_readSign_1 rfl (fun z1 e_z1 => ?_)
  refine GG_iload_n hk (pc' := 5) 1 dX6_readSign_4 rfl rfl rfl ?_
  refine GG_icmp_eq hk 10 (pc' := 8) dX6_readSign_5 rfl (by decide) (fun c2 => ?_) (fun c2 => ?_)
  · refine GG_aload_n hk (pc' := 11) 0 dX6_readSign_10 rfl rfl rfl ?_
    refine GG_dup hk (pc' := 12) dX6_readSign_11 rfl rfl ?_
    refine GG_get hk LC6 2 (v := .int (z1.2 97 2)) (pc' := 15) tw_258 rfl rfl (by decide) rfl dX6_readSign_12 rfl ?_
    refine GG_iconst hk (pc' := 16) 1 dX6_readSign_15 rfl rfl ?_
    refine GG_iadd hk (pc' := 17) dX6_readSign_16 rfl ?_
    refine GG_put hk LC6 2 (pc' := 20) tw_258 rfl rfl (by decide) rfl rfl (Nat.le_of_ble_eq_true rfl) (pv_6_2 _ _ _ _) dX6_readSign_17 rfl (fun M3 e_M3 => ?_)
    refine GG_iconst hk (pc' := 21) 1 dX6_readSign_20 rfl rfl ?_
    exact GG_zret hk hq dX6_readSign_21
  · refine GG_iconst hk (pc' := 9) 0 dX6_readSign_8 rfl rfl ?_
    exact GG_zret hk hq dX6_readSign_9
theorem c_X6_readSign (l : Launch) (C : DD) (a : Nat) (M : Mem) (l1 : Int32)  : CI l C (a) yX6_readSign cX6_readSign 2 .boolean 2 [.ref (a + 97), .int l1] M (f_X6_readSign M l1) := by
  refine CI_of RX6 (by decide +kernel) rfl (Nat.le_of_ble_eq_true rfl) (fun k q hk hq e1 e2 e3 => ?_)
  subst e1; subst e2; subst e3
  exact m_X6_readSign hk hq M l1 

/-! SettingsInLayers$Told.readKeyLetter()I -/
noncomputable def f_X6_readKeyLetter (M : Mem)  : Option (Int32 × Mem) :=
    Option.bind (f_X6_letterHere M ) fun z1 =>
    Option.bind (f_X7_noKey z1.2 (z1.1 - 97)) fun z2 =>
    if z2.1 = 0 then
      Option.bind (wrf z2.2 97 2 ((z2.2 97 2) + 1)) fun M4 =>
      some ((z1.1 - 97), M4)
    else
      some ((-1), z2.2)
set_option maxRecDepth 20000 in
theorem m_X6_readKeyLetter {k : KT} {q : Int32 × Mem} (hk : CX k cX6_readKeyLetter RX6 2 (some .int) 2) (hq : RI k q) (M : Mem)   : GG k q (wM k M) 0 [(0, .ref (kh k + 97))] [] (f_X6_readKeyLetter M ) := by
  unfold f_X6_readKeyLetter
  refine GG_aload_n hk (pc' := 1) 0 dX6_readKeyLetter_0 rfl rfl rfl ?_
  refine GG_callVi hk (st := []) (pc' := 4) mf_X6_letterHere mv_X6_letterHere LC6 rfl (c_X6_letterHere _ _ _ M  ) (by omega) tw_353 rfl rfl rfl (Nat.le_of_ble_eq_true rfl) dX6_readKeyLetter_1 rfl (fun z1 e_z1 => ?_)
  refine GG_bipush hk (pc' := 6) 97 dX6_readKeyLetter_4 rfl rfl ?_
  refine GG_isub hk (pc' := 7) dX6_readKeyLetter_6 rfl ?_
  refine GG_istore_n hk (pc' := 8) [(1, .int (z1.1 - 97)), (0, .ref (kh k + 97))] dX6_readKeyLetter_7 rfl rfl (by decide) rfl ?_
  refine GG_iload_n hk (pc' := 9) 0 dX6_readKeyLetter_8 rfl rfl rfl ?_
  refine GG_callNi hk (st := []) (pc' := 12) mf_X7_noKey tw_386 (c_X7_noKey _ _ _ z1.2 (z1.1 - 97) ) (by omega) (by decide) rfl rfl (Nat.le_of_ble_eq_true rfl) dX6_readKeyLetter_9 rfl (fun z2 e_z2 => ?_)
  refine GG_if_eq hk 17 (pc' := 15) dX6_readKeyLetter_12 rfl (by decide) (fun c3 => ?_) (fun c3 => ?_)
  · refine GG_aload_n hk (pc' := 18) 1 dX6_readKeyLetter_17 rfl rfl rfl ?_
    refine GG_dup hk (pc' := 19) dX6_readKeyLetter_18 rfl rfl ?_
    refine GG_get hk LC6 2 (v := .int (z2.2 97 2)) (pc' := 22) tw_258 rfl rfl (by decide) rfl dX6_readKeyLetter_19 rfl ?_
    refine GG_iconst hk (pc' := 23) 1 dX6_readKeyLetter_22 rfl rfl ?_
    refine GG_iadd hk (pc' := 24) dX6_readKeyLetter_23 rfl ?_
    refine GG_put hk LC6 2 (pc' := 27) tw_258 rfl rfl (by decide) rfl rfl (Nat.le_of_ble_eq_true rfl) (pv_6_2 _ _ _ _) dX6_readKeyLetter_24 rfl (fun M4 e_M4 => ?_)
    refine GG_iload_n hk (pc' := 28) 0 dX6_readKeyLetter_27 rfl rfl rfl ?_
    exact GG_iret hk hq dX6_readKeyLetter_28
  · refine GG_iconst hk (pc' := 16) (-1) dX6_readKeyLetter_15 rfl rfl ?_
    exact GG_iret hk hq dX6_readKeyLetter_16
theorem c_X6_readKeyLetter (l : Launch) (C : DD) (a : Nat) (M : Mem)   : CI l C (a) yX6_readKeyLetter cX6_readKeyLetter 2 .int 2 [.ref (a + 97)] M (f_X6_readKeyLetter M ) := by
  refine CI_of RX6 (by decide +kernel) rfl (Nat.le_of_ble_eq_true rfl) (fun k q hk hq e1 e2 e3 => ?_)
  subst e1; subst e2; subst e3
  exact m_X6_readKeyLetter hk hq M  

/-! SettingsInLayers$Told.readKey()Z -/
noncomputable def f_X6_readKey (M : Mem)  : Option (Int32 × Mem) :=
    Option.bind (f_X6_readKeyLetter M ) fun z1 =>
    Option.bind (wrf z1.2 99 2 z1.1) fun M2 =>
    if (M2 99 2) < 0 then
      bret 0 M2
    else
      bret 1 M2
set_option maxRecDepth 20000 in
theorem m_X6_readKey {k : KT} {q : Int32 × Mem} (hk : CX k cX6_readKey RX6 1 (some .boolean) 3) (hq : RI k q) (M : Mem)   : GG k q (wM k M) 0 [(0, .ref (kh k + 97))] [] (f_X6_readKey M ) := by
  unfold f_X6_readKey
  refine GG_aload_n hk (pc' := 1) 0 dX6_readKey_0 rfl rfl rfl ?_
  refine GG_get hk LC6 3 (v := .ref (kh k + 99)) (pc' := 4) tw_260 rfl rfl (by decide) rfl dX6_readKey_1 rfl ?_
  refine GG_aload_n hk (pc' := 5) 0 dX6_readKey_4 rfl rfl rfl ?_
  refine GG_callVi hk (st := [.ref (kh k + 99)]) (pc' := 8) mf_X6_readKeyLetter mv_X6_readKeyLetter LC6 rfl (c_X6_readKeyLetter _ _ _ M  ) (by omega) tw_381 rfl rfl rfl (Nat.le_of_ble_eq_true rfl) dX6_readKey_5 rfl (fun z1 e_z1 => ?_)
  refine GG_put hk LC5 2 (pc' := 11) tw_208 rfl rfl (by decide) rfl rfl (Nat.le_of_ble_eq_true rfl) (pv_5_2 _ _ _ _) dX6_readKey_8 rfl (fun M2 e_M2 => ?_)
  refine GG_aload_n hk (pc' := 12) 0 dX6_readKey_11 rfl rfl rfl ?_
  refine GG_get hk LC6 3 (v := .ref (kh k + 99)) (pc' := 15) tw_260 rfl rfl (by decide) rfl dX6_readKey_12 rfl ?_
  refine GG_get hk LC5 2 (v := .int (M2 99 2)) (pc' := 18) tw_208 rfl rfl (by decide) rfl dX6_readKey_15 rfl ?_
  refine GG_if_lt hk 25 (pc' := 21) dX6_readKey_18 rfl (by decide) (fun c3 => ?_) (fun c3 => ?_)
  · refine GG_iconst hk (pc' := 26) 0 dX6_readKey_25 rfl rfl ?_
    exact GG_zret hk hq dX6_readKey_26
  · refine GG_iconst hk (pc' := 22) 1 dX6_readKey_21 rfl rfl ?_
    refine GG_goto hk 26 dX6_readKey_22 (by decide) ?_
    exact GG_zret hk hq dX6_readKey_26
theorem c_X6_readKey (l : Launch) (C : DD) (a : Nat) (M : Mem)   : CI l C (a) yX6_readKey cX6_readKey 1 .boolean 3 [.ref (a + 97)] M (f_X6_readKey M ) := by
  refine CI_of RX6 (by decide +kernel) rfl (Nat.le_of_ble_eq_true rfl) (fun k q hk hq e1 e2 e3 => ?_)
  subst e1; subst e2; subst e3
  exact m_X6_readKey hk hq M  

/-! SettingsInLayers$Statement.beginEntry()V -/
noncomputable def f_X5_beginEntry (M : Mem)  : Option Mem :=
    Option.bind (wrf M 99 7 0) fun M1 =>
    Option.bind (wrf M1 99 8 (-9)) fun M2 =>
    Option.bind (wrf M2 99 9 0) fun M3 =>
    Option.bind (wrf M3 99 10 0) fun M4 =>
    Option.bind (wrz M4 99 11 0) fun M5 =>
    some M5
set_option maxRecDepth 20000 in
theorem m_X5_beginEntry {k : KT} {q : Mem} (hk : CX k cX5_beginEntry RX5 1 none 1) (hq : RV k q) (M : Mem)   : GG k q (wM k M) 0 [(0, .ref (kh k + 99))] [] (f_X5_beginEntry M ) := by
  unfold f_X5_beginEntry
  refine GG_aload_n hk (pc' := 1) 0 dX5_beginEntry_0 rfl rfl rfl ?_
  refine GG_iconst hk (pc' := 2) 0 dX5_beginEntry_1 rfl rfl ?_
  refine GG_put hk LC5 7 (pc' := 5) tw_217 rfl rfl (by decide) rfl rfl (Nat.le_of_ble_eq_true rfl) (pv_5_7 _ _ _ _) dX5_beginEntry_2 rfl (fun M1 e_M1 => ?_)
  refine GG_aload_n hk (pc' := 6) 0 dX5_beginEntry_5 rfl rfl rfl ?_
  refine GG_bipush hk (pc' := 8) (-9) dX5_beginEntry_6 rfl rfl ?_
  refine GG_put hk LC5 8 (pc' := 11) tw_219 rfl rfl (by decide) rfl rfl (Nat.le_of_ble_eq_true rfl) (pv_5_8 _ _ _ _) dX5_beginEntry_8 rfl (fun M2 e_M2 => ?_)
  refine GG_aload_n hk (pc' := 12) 0 dX5_beginEntry_11 rfl rfl rfl ?_
  refine GG_iconst hk (pc' := 13) 0 dX5_beginEntry_12 rfl rfl ?_
  refine GG_put hk LC5 9 (pc' := 16) tw_221 rfl rfl (by decide) rfl rfl (Nat.le_of_ble_eq_true rfl) (pv_5_9 _ _ _ _) dX5_beginEntry_13 rfl (fun M3 e_M3 => ?_)
  refine GG_aload_n hk (pc' := 17) 0 dX5_beginEntry_16 rfl rfl rfl ?_
  refine GG_iconst hk (pc' := 18) 0 dX5_beginEntry_17 rfl rfl ?_
  refine GG_put hk LC5 10 (pc' := 21) tw_222 rfl rfl (by decide) rfl rfl (Nat.le_of_ble_eq_true rfl) (pv_5_10 _ _ _ _) dX5_beginEntry_18 rfl (fun M4 e_M4 => ?_)
  refine GG_aload_n hk (pc' := 22) 0 dX5_beginEntry_21 rfl rfl rfl ?_
  refine GG_iconst hk (pc' := 23) 0 dX5_beginEntry_22 rfl rfl ?_
  refine GG_putz hk LC5 11 (pc' := 26) tw_223 rfl rfl (by decide) rfl rfl (Nat.le_of_ble_eq_true rfl) (pv_5_11 _ _ _ _) dX5_beginEntry_23 rfl (fun M5 e_M5 => ?_)
  exact GG_vret hk hq dX5_beginEntry_26
theorem c_X5_beginEntry (l : Launch) (C : DD) (a : Nat) (M : Mem)   : CV l C (a) yX5_beginEntry cX5_beginEntry 1 1 [.ref (a + 99)] M (f_X5_beginEntry M ) := by
  refine CV_of RX5 (by decide +kernel) rfl (Nat.le_of_ble_eq_true rfl) (fun k q hk hq e1 e2 e3 => ?_)
  subst e1; subst e2; subst e3
  exact m_X5_beginEntry hk hq M  

/-! SettingsInLayers$Told.readPair()I -/
noncomputable def f_X6_readPair (M : Mem)  : Option (Int32 × Mem) :=
    Option.bind (f_X6_readDigit M ) fun z1 =>
    if 0 ≤ z1.1 then
      Option.bind (f_X6_readDigit z1.2 ) fun z3 =>
      if 0 ≤ z3.1 then
        some (((10 * z1.1) + z3.1), z3.2)
      else
        some ((-1), z3.2)
    else
      some ((-1), z1.2)
set_option maxRecDepth 20000 in
theorem m_X6_readPair {k : KT} {q : Int32 × Mem} (hk : CX k cX6_readPair RX6 3 (some .int) 3) (hq : RI k q) (M : Mem)   : GG k q (wM k M) 0 [(0, .ref (kh k + 97))] [] (f_X6_readPair M ) := by
  unfold f_X6_readPair
  refine GG_aload_n hk (pc' := 1) 0 dX6_readPair_0 rfl rfl rfl ?_
  refine GG_callVi hk (st := []) (pc' := 4) mf_X6_readDigit mv_X6_readDigit LC6 rfl (c_X6_readDigit _ _ _ M  ) (by omega) tw_361 rfl rfl rfl (Nat.le_of_ble_eq_true rfl) dX6_readPair_1 rfl (fun z1 e_z1 => ?_)
  refine GG_istore_n hk (pc' := 5) [(1, .int z1.1), (0, .ref (kh k + 97))] dX6_readPair_4 rfl rfl (by decide) rfl ?_
  refine GG_iload_n hk (pc' := 6) 0 dX6_readPair_5 rfl rfl rfl ?_
  refine GG_if_ge hk 11 (pc' := 9) dX6_readPair_6 rfl (by decide) (fun c2 => ?_) (fun c2 => ?_)
  · refine GG_aload_n hk (pc' := 12) 1 dX6_readPair_11 rfl rfl rfl ?_
    refine GG_callVi hk (st := []) (pc' := 15) mf_X6_readDigit mv_X6_readDigit LC6 rfl (c_X6_readDigit _ _ _ z1.2  ) (by omega) tw_361 rfl rfl rfl (Nat.le_of_ble_eq_true rfl) dX6_readPair_12 rfl (fun z3 e_z3 => ?_)
    refine GG_istore_n hk (pc' := 16) [(2, .int z3.1), (1, .int z1.1), (0, .ref (kh k + 97))] dX6_readPair_15 rfl rfl (by decide) rfl ?_
    refine GG_iload_n hk (pc' := 17) 0 dX6_readPair_16 rfl rfl rfl ?_
    refine GG_if_ge hk 24 (pc' := 20) dX6_readPair_17 rfl (by decide) (fun c4 => ?_) (fun c4 => ?_)
    · refine GG_bipush hk (pc' := 26) 10 dX6_readPair_24 rfl rfl ?_
      refine GG_iload_n hk (pc' := 27) 1 dX6_readPair_26 rfl rfl rfl ?_
      refine GG_imul hk (pc' := 28) dX6_readPair_27 rfl ?_
      refine GG_iload_n hk (pc' := 29) 0 dX6_readPair_28 rfl rfl rfl ?_
      refine GG_iadd hk (pc' := 30) dX6_readPair_29 rfl ?_
      exact GG_iret hk hq dX6_readPair_30
    · refine GG_iconst hk (pc' := 21) (-1) dX6_readPair_20 rfl rfl ?_
      refine GG_goto hk 30 dX6_readPair_21 (by decide) ?_
      exact GG_iret hk hq dX6_readPair_30
  · refine GG_iconst hk (pc' := 10) (-1) dX6_readPair_9 rfl rfl ?_
    exact GG_iret hk hq dX6_readPair_10
theorem c_X6_readPair (l : Launch) (C : DD) (a : Nat) (M : Mem)   : CI l C (a) yX6_readPair cX6_readPair 3 .int 3 [.ref (a + 97)] M (f_X6_readPair M ) := by
  refine CI_of RX6 (by decide +kernel) rfl (Nat.le_of_ble_eq_true rfl) (fun k q hk hq e1 e2 e3 => ?_)
  subst e1; subst e2; subst e3
  exact m_X6_readPair hk hq M  

/-! SettingsInLayers$Told.readNumber()Z -/
noncomputable def f_X6_readNumber (M : Mem)  : Option (Int32 × Mem) :=
    Option.bind (f_X6_readPair M ) fun z1 =>
    Option.bind (wrf z1.2 99 7 z1.1) fun M2 =>
    if (M2 99 7) < 0 then
      bret 0 M2
    else
      bret 1 M2
set_option maxRecDepth 20000 in
theorem m_X6_readNumber {k : KT} {q : Int32 × Mem} (hk : CX k cX6_readNumber RX6 1 (some .boolean) 4) (hq : RI k q) (M : Mem)   : GG k q (wM k M) 0 [(0, .ref (kh k + 97))] [] (f_X6_readNumber M ) := by
  unfold f_X6_readNumber
  refine GG_aload_n hk (pc' := 1) 0 dX6_readNumber_0 rfl rfl rfl ?_
  refine GG_get hk LC6 3 (v := .ref (kh k + 99)) (pc' := 4) tw_260 rfl rfl (by decide) rfl dX6_readNumber_1 rfl ?_
  refine GG_aload_n hk (pc' := 5) 0 dX6_readNumber_4 rfl rfl rfl ?_
  refine GG_callVi hk (st := [.ref (kh k + 99)]) (pc' := 8) mf_X6_readPair mv_X6_readPair LC6 rfl (c_X6_readPair _ _ _ M  ) (by omega) tw_400 rfl rfl rfl (Nat.le_of_ble_eq_true rfl) dX6_readNumber_5 rfl (fun z1 e_z1 => ?_)
  refine GG_put hk LC5 7 (pc' := 11) tw_218 rfl rfl (by decide) rfl rfl (Nat.le_of_ble_eq_true rfl) (pv_5_7 _ _ _ _) dX6_readNumber_8 rfl (fun M2 e_M2 => ?_)
  refine GG_aload_n hk (pc' := 12) 0 dX6_readNumber_11 rfl rfl rfl ?_
  refine GG_get hk LC6 3 (v := .ref (kh k + 99)) (pc' := 15) tw_260 rfl rfl (by decide) rfl dX6_readNumber_12 rfl ?_
  refine GG_get hk LC5 7 (v := .int (M2 99 7)) (pc' := 18) tw_218 rfl rfl (by decide) rfl dX6_readNumber_15 rfl ?_
  refine GG_if_lt hk 25 (pc' := 21) dX6_readNumber_18 rfl (by decide) (fun c3 => ?_) (fun c3 => ?_)
  · refine GG_iconst hk (pc' := 26) 0 dX6_readNumber_25 rfl rfl ?_
    exact GG_zret hk hq dX6_readNumber_26
  · refine GG_iconst hk (pc' := 22) 1 dX6_readNumber_21 rfl rfl ?_
    refine GG_goto hk 26 dX6_readNumber_22 (by decide) ?_
    exact GG_zret hk hq dX6_readNumber_26
theorem c_X6_readNumber (l : Launch) (C : DD) (a : Nat) (M : Mem)   : CI l C (a) yX6_readNumber cX6_readNumber 1 .boolean 4 [.ref (a + 97)] M (f_X6_readNumber M ) := by
  refine CI_of RX6 (by decide +kernel) rfl (Nat.le_of_ble_eq_true rfl) (fun k q hk hq e1 e2 e3 => ?_)
  subst e1; subst e2; subst e3
  exact m_X6_readNumber hk hq M  

/-! SettingsInLayers$Statement.addItem(II)V -/
noncomputable def f_X5_addItem_59  (M : Mem) (l1 : Int32) (t0 : Int32) (t1 : Int32) : Option Mem :=
    Option.bind (wrz M 99 11 (t1 ||| t0)) fun M1 =>
    Option.bind (wrf M1 99 10 ((M1 99 10) ||| (1 <<< (l1 &&& 31)))) fun M2 =>
    some M2
set_option maxRecDepth 20000 in
theorem m_X5_addItem_59 {k : KT} {q : Mem} (hk : CX k cX5_addItem RX5 3 none 1) (hq : RV k q) (M : Mem) (l1 : Int32) (t0 : Int32) (t1 : Int32)  : GG k q (wM k M) 59 [(0, .ref (kh k + 99)), (1, .int l1)] [.int t0, .int t1, .ref (kh k + 99)] (f_X5_addItem_59  M l1 t0 t1) := by
  unfold f_X5_addItem_59
  refine GG_ior hk (pc' := 60) dX5_addItem_59 rfl ?_
  refine GG_putz hk LC5 11 (pc' := 63) tw_223 rfl rfl (by decide) rfl rfl (Nat.le_of_ble_eq_true rfl) (pv_5_11 _ _ _ _) dX5_addItem_60 rfl (fun M1 e_M1 => ?_)
  refine GG_aload_n hk (pc' := 64) 0 dX5_addItem_63 rfl rfl rfl ?_
  refine GG_dup hk (pc' := 65) dX5_addItem_64 rfl rfl ?_
  refine GG_get hk LC5 10 (v := .int (M1 99 10)) (pc' := 68) tw_222 rfl rfl (by decide) rfl dX5_addItem_65 rfl ?_
  refine GG_iconst hk (pc' := 69) 1 dX5_addItem_68 rfl rfl ?_
  refine GG_iload_n hk (pc' := 70) 1 dX5_addItem_69 rfl rfl rfl ?_
  refine GG_ishl hk (pc' := 71) dX5_addItem_70 rfl ?_
  refine GG_ior hk (pc' := 72) dX5_addItem_71 rfl ?_
  refine GG_put hk LC5 10 (pc' := 75) tw_222 rfl rfl (by decide) rfl rfl (Nat.le_of_ble_eq_true rfl) (pv_5_10 _ _ _ _) dX5_addItem_72 rfl (fun M2 e_M2 => ?_)
  exact GG_vret hk hq dX5_addItem_75
noncomputable def f_X5_addItem_28  (M : Mem) (l1 : Int32) : Option Mem :=
    Option.bind (wrf M 99 9 ((M 99 9) + 1)) fun M1 =>
    if (((M1 99 10) >>> (l1 &&& 31)) &&& 1) = 0 then
      f_X5_addItem_59  M1 l1 0 (M1 99 11)
    else
      f_X5_addItem_59  M1 l1 1 (M1 99 11)
set_option maxRecDepth 20000 in
theorem m_X5_addItem_28 {k : KT} {q : Mem} (hk : CX k cX5_addItem RX5 3 none 1) (hq : RV k q) (M : Mem) (l1 : Int32)  : GG k q (wM k M) 28 [(0, .ref (kh k + 99)), (1, .int l1)] [] (f_X5_addItem_28  M l1) := by
  unfold f_X5_addItem_28
  refine GG_aload_n hk (pc' := 29) 0 dX5_addItem_28 rfl rfl rfl ?_
  refine GG_dup hk (pc' := 30) dX5_addItem_29 rfl rfl ?_
  refine GG_get hk LC5 9 (v := .int (M 99 9)) (pc' := 33) tw_221 rfl rfl (by decide) rfl dX5_addItem_30 rfl ?_
  refine GG_iconst hk (pc' := 34) 1 dX5_addItem_33 rfl rfl ?_
  refine GG_iadd hk (pc' := 35) dX5_addItem_34 rfl ?_
  refine GG_put hk LC5 9 (pc' := 38) tw_221 rfl rfl (by decide) rfl rfl (Nat.le_of_ble_eq_true rfl) (pv_5_9 _ _ _ _) dX5_addItem_35 rfl (fun M1 e_M1 => ?_)
  refine GG_aload_n hk (pc' := 39) 0 dX5_addItem_38 rfl rfl rfl ?_
  refine GG_dup hk (pc' := 40) dX5_addItem_39 rfl rfl ?_
  refine GG_get hk LC5 11 (v := .int (M1 99 11)) (pc' := 43) tw_223 rfl rfl (by decide) rfl dX5_addItem_40 rfl ?_
  refine GG_aload_n hk (pc' := 44) 0 dX5_addItem_43 rfl rfl rfl ?_
  refine GG_get hk LC5 10 (v := .int (M1 99 10)) (pc' := 47) tw_222 rfl rfl (by decide) rfl dX5_addItem_44 rfl ?_
  refine GG_iload_n hk (pc' := 48) 1 dX5_addItem_47 rfl rfl rfl ?_
  refine GG_ishr hk (pc' := 49) dX5_addItem_48 rfl ?_
  refine GG_iconst hk (pc' := 50) 1 dX5_addItem_49 rfl rfl ?_
  refine GG_iand hk (pc' := 51) dX5_addItem_50 rfl ?_
  refine GG_if_eq hk 58 (pc' := 54) dX5_addItem_51 rfl (by decide) (fun c2 => ?_) (fun c2 => ?_)
  · refine GG_iconst hk (pc' := 59) 0 dX5_addItem_58 rfl rfl ?_
    exact m_X5_addItem_59 hk hq  M1 l1 0 (M1 99 11) 
  · refine GG_iconst hk (pc' := 55) 1 dX5_addItem_54 rfl rfl ?_
    refine GG_goto hk 59 dX5_addItem_55 (by decide) ?_
    exact m_X5_addItem_59 hk hq  M1 l1 1 (M1 99 11) 
noncomputable def f_X5_addItem (M : Mem) (l1 : Int32) (l2 : Int32) : Option Mem :=
    if 4 ≤ (M 99 9) then
      f_X5_addItem_28  M l1
    else
      Option.bind (wra 4 M 100 (M 99 9) l1) fun M2 =>
      Option.bind (wra 4 M2 101 (M2 99 9) l2) fun M3 =>
      f_X5_addItem_28  M3 l1
set_option maxRecDepth 20000 in
theorem m_X5_addItem {k : KT} {q : Mem} (hk : CX k cX5_addItem RX5 3 none 1) (hq : RV k q) (M : Mem) (l1 : Int32) (l2 : Int32)  : GG k q (wM k M) 0 [(0, .ref (kh k + 99)), (1, .int l1), (2, .int l2)] [] (f_X5_addItem M l1 l2) := by
  unfold f_X5_addItem
  refine GG_aload_n hk (pc' := 1) 0 dX5_addItem_0 rfl rfl rfl ?_
  refine GG_get hk LC5 9 (v := .int (M 99 9)) (pc' := 4) tw_221 rfl rfl (by decide) rfl dX5_addItem_1 rfl ?_
  refine GG_iconst hk (pc' := 5) 4 dX5_addItem_4 rfl rfl ?_
  refine GG_icmp_ge hk 28 (pc' := 8) dX5_addItem_5 rfl (by decide) (fun c1 => ?_) (fun c1 => ?_)
  · refine GG_sub (L' := [(0, .ref (kh k + 99)), (1, .int l1)]) [0, 1] rfl ?_
    exact m_X5_addItem_28 hk hq  M l1 
  · refine GG_aload_n hk (pc' := 9) 0 dX5_addItem_8 rfl rfl rfl ?_
    refine GG_get hk LC5 12 (v := .ref (kh k + 100)) (pc' := 12) tw_224 rfl rfl (by decide) rfl dX5_addItem_9 rfl ?_
    refine GG_aload_n hk (pc' := 13) 0 dX5_addItem_12 rfl rfl rfl ?_
    refine GG_get hk LC5 9 (v := .int (M 99 9)) (pc' := 16) tw_221 rfl rfl (by decide) rfl dX5_addItem_13 rfl ?_
    refine GG_iload_n hk (pc' := 17) 1 dX5_addItem_16 rfl rfl rfl ?_
    refine GG_iast hk (pc' := 18) rfl rfl dX5_addItem_17 rfl (fun M2 e_M2 => ?_)
    refine GG_aload_n hk (pc' := 19) 0 dX5_addItem_18 rfl rfl rfl ?_
    refine GG_get hk LC5 13 (v := .ref (kh k + 101)) (pc' := 22) tw_225 rfl rfl (by decide) rfl dX5_addItem_19 rfl ?_
    refine GG_aload_n hk (pc' := 23) 0 dX5_addItem_22 rfl rfl rfl ?_
    refine GG_get hk LC5 9 (v := .int (M2 99 9)) (pc' := 26) tw_221 rfl rfl (by decide) rfl dX5_addItem_23 rfl ?_
    refine GG_iload_n hk (pc' := 27) 2 dX5_addItem_26 rfl rfl rfl ?_
    refine GG_iast hk (pc' := 28) rfl rfl dX5_addItem_27 rfl (fun M3 e_M3 => ?_)
    refine GG_sub (L' := [(0, .ref (kh k + 99)), (1, .int l1)]) [0, 1] rfl ?_
    exact m_X5_addItem_28 hk hq  M3 l1 
theorem c_X5_addItem (l : Launch) (C : DD) (a : Nat) (M : Mem) (l1 : Int32) (l2 : Int32)  : CV l C (a) yX5_addItem cX5_addItem 3 1 [.ref (a + 99), .int l1, .int l2] M (f_X5_addItem M l1 l2) := by
  refine CV_of RX5 (by decide +kernel) rfl (Nat.le_of_ble_eq_true rfl) (fun k q hk hq e1 e2 e3 => ?_)
  subst e1; subst e2; subst e3
  exact m_X5_addItem hk hq M l1 l2 

/-! SettingsInLayers$Told.readItems()Z -/
noncomputable def f_X6_readItems_2  : Nat → Mem → Int32 → Option (Int32 × Mem)
  | 0, _, _ => none
  | n + 1, M, l1 =>
    if 96 ≤ l1 then
      bret 1 M
    else
      Option.bind (f_X6_readDigit M ) fun z2 =>
      if 0 ≤ z2.1 then
        Option.bind (f_X6_readPair z2.2 ) fun z4 =>
        if 0 ≤ z4.1 then
          Option.bind (f_X5_addItem z4.2 z2.1 z4.1) fun z6 =>
          f_X6_readItems_2  n z6 (l1 + 1)
        else
          bret 0 z4.2
      else
        bret 1 z2.2
set_option maxRecDepth 20000 in
theorem m_X6_readItems_2 {k : KT} {q : Int32 × Mem} (hk : CX k cX6_readItems RX6 4 (some .boolean) 4) (hq : RI k q) : ∀ (n : Nat) (M : Mem) (l1 : Int32) , GG k q (wM k M) 2 [(0, .ref (kh k + 97)), (1, .int l1)] [] (f_X6_readItems_2  n M l1) := by
  intro n
  induction n with
  | zero => intros; exact GG_none
  | succ n ih =>
    intro M l1 
    rw [f_X6_readItems_2]
    refine GG_iload_n hk (pc' := 3) 1 dX6_readItems_2 rfl rfl rfl ?_
    refine GG_bipush hk (pc' := 5) 96 dX6_readItems_3 rfl rfl ?_
    refine GG_icmp_ge hk 45 (pc' := 8) dX6_readItems_5 rfl (by decide) (fun c1 => ?_) (fun c1 => ?_)
    · refine GG_iconst hk (pc' := 46) 1 dX6_readItems_45 rfl rfl ?_
      exact GG_zret hk hq dX6_readItems_46
    · refine GG_aload_n hk (pc' := 9) 0 dX6_readItems_8 rfl rfl rfl ?_
      refine GG_callVi hk (st := []) (pc' := 12) mf_X6_readDigit mv_X6_readDigit LC6 rfl (c_X6_readDigit _ _ _ M  ) (by omega) tw_361 rfl rfl rfl (Nat.le_of_ble_eq_true rfl) dX6_readItems_9 rfl (fun z2 e_z2 => ?_)
      refine GG_istore_n hk (pc' := 13) [(2, .int z2.1), (0, .ref (kh k + 97)), (1, .int l1)] dX6_readItems_12 rfl rfl (by decide) rfl ?_
      refine GG_iload_n hk (pc' := 14) 0 dX6_readItems_13 rfl rfl rfl ?_
      refine GG_if_ge hk 19 (pc' := 17) dX6_readItems_14 rfl (by decide) (fun c3 => ?_) (fun c3 => ?_)
      · refine GG_aload_n hk (pc' := 20) 1 dX6_readItems_19 rfl rfl rfl ?_
        refine GG_callVi hk (st := []) (pc' := 23) mf_X6_readPair mv_X6_readPair LC6 rfl (c_X6_readPair _ _ _ z2.2  ) (by omega) tw_400 rfl rfl rfl (Nat.le_of_ble_eq_true rfl) dX6_readItems_20 rfl (fun z4 e_z4 => ?_)
        refine GG_istore_n hk (pc' := 24) [(3, .int z4.1), (2, .int z2.1), (0, .ref (kh k + 97)), (1, .int l1)] dX6_readItems_23 rfl rfl (by decide) rfl ?_
        refine GG_iload_n hk (pc' := 25) 0 dX6_readItems_24 rfl rfl rfl ?_
        refine GG_if_ge hk 30 (pc' := 28) dX6_readItems_25 rfl (by decide) (fun c5 => ?_) (fun c5 => ?_)
        · refine GG_aload_n hk (pc' := 31) 2 dX6_readItems_30 rfl rfl rfl ?_
          refine GG_get hk LC6 3 (v := .ref (kh k + 99)) (pc' := 34) tw_260 rfl rfl (by decide) rfl dX6_readItems_31 rfl ?_
          refine GG_iload_n hk (pc' := 35) 1 dX6_readItems_34 rfl rfl rfl ?_
          refine GG_iload_n hk (pc' := 36) 0 dX6_readItems_35 rfl rfl rfl ?_
          refine GG_callVv hk (st := []) (pc' := 39) mf_X5_addItem mv_X5_addItem LC5 rfl (c_X5_addItem _ _ _ z4.2 z2.1 z4.1 ) (by omega) tw_408 rfl rfl rfl (Nat.le_of_ble_eq_true rfl) dX6_readItems_36 rfl (fun z6 e_z6 => ?_)
          refine GG_iinc hk (pc' := 42) 3 (l1 + 1) [(1, .int (l1 + 1)), (3, .int z4.1), (2, .int z2.1), (0, .ref (kh k + 97))] dX6_readItems_39 rfl rfl rfl (by decide) rfl ?_
          refine GG_goto hk 2 dX6_readItems_42 (by decide) ?_
          refine GG_sub (L' := [(0, .ref (kh k + 97)), (1, .int (l1 + 1))]) [3, 0] rfl ?_
          exact ih z6 (l1 + 1) 
        · refine GG_iconst hk (pc' := 29) 0 dX6_readItems_28 rfl rfl ?_
          exact GG_zret hk hq dX6_readItems_29
      · refine GG_iconst hk (pc' := 18) 1 dX6_readItems_17 rfl rfl ?_
        exact GG_zret hk hq dX6_readItems_18
noncomputable def f_X6_readItems (M : Mem)  : Option (Int32 × Mem) :=
    f_X6_readItems_2  1000 M 0
set_option maxRecDepth 20000 in
theorem m_X6_readItems {k : KT} {q : Int32 × Mem} (hk : CX k cX6_readItems RX6 4 (some .boolean) 4) (hq : RI k q) (M : Mem)   : GG k q (wM k M) 0 [(0, .ref (kh k + 97))] [] (f_X6_readItems M ) := by
  unfold f_X6_readItems
  refine GG_iconst hk (pc' := 1) 0 dX6_readItems_0 rfl rfl ?_
  refine GG_istore_n hk (pc' := 2) [(1, .int 0), (0, .ref (kh k + 97))] dX6_readItems_1 rfl rfl (by decide) rfl ?_
  refine GG_sub (L' := [(0, .ref (kh k + 97)), (1, .int 0)]) [1, 0] rfl ?_
  exact m_X6_readItems_2 hk hq  1000 M 0 
theorem c_X6_readItems (l : Launch) (C : DD) (a : Nat) (M : Mem)   : CI l C (a) yX6_readItems cX6_readItems 4 .boolean 4 [.ref (a + 97)] M (f_X6_readItems M ) := by
  refine CI_of RX6 (by decide +kernel) rfl (Nat.le_of_ble_eq_true rfl) (fun k q hk hq e1 e2 e3 => ?_)
  subst e1; subst e2; subst e3
  exact m_X6_readItems hk hq M  

/-! SettingsInLayers$Told.readOther()Z -/
noncomputable def f_X6_readOther (M : Mem)  : Option (Int32 × Mem) :=
    Option.bind (f_X6_readKeyLetter M ) fun z1 =>
    Option.bind (wrf z1.2 99 8 z1.1) fun M2 =>
    if (M2 99 8) < 0 then
      bret 0 M2
    else
      bret 1 M2
set_option maxRecDepth 20000 in
theorem m_X6_readOther {k : KT} {q : Int32 × Mem} (hk : CX k cX6_readOther RX6 1 (some .boolean) 3) (hq : RI k q) (M : Mem)   : GG k q (wM k M) 0 [(0, .ref (kh k + 97))] [] (f_X6_readOther M ) := by
  unfold f_X6_readOther
  refine GG_aload_n hk (pc' := 1) 0 dX6_readOther_0 rfl rfl rfl ?_
  refine GG_get hk LC6 3 (v := .ref (kh k + 99)) (pc' := 4) tw_260 rfl rfl (by decide) rfl dX6_readOther_1 rfl ?_
  refine GG_aload_n hk (pc' := 5) 0 dX6_readOther_4 rfl rfl rfl ?_
  refine GG_callVi hk (st := [.ref (kh k + 99)]) (pc' := 8) mf_X6_readKeyLetter mv_X6_readKeyLetter LC6 rfl (c_X6_readKeyLetter _ _ _ M  ) (by omega) tw_381 rfl rfl rfl (Nat.le_of_ble_eq_true rfl) dX6_readOther_5 rfl (fun z1 e_z1 => ?_)
  refine GG_put hk LC5 8 (pc' := 11) tw_220 rfl rfl (by decide) rfl rfl (Nat.le_of_ble_eq_true rfl) (pv_5_8 _ _ _ _) dX6_readOther_8 rfl (fun M2 e_M2 => ?_)
  refine GG_aload_n hk (pc' := 12) 0 dX6_readOther_11 rfl rfl rfl ?_
  refine GG_get hk LC6 3 (v := .ref (kh k + 99)) (pc' := 15) tw_260 rfl rfl (by decide) rfl dX6_readOther_12 rfl ?_
  refine GG_get hk LC5 8 (v := .int (M2 99 8)) (pc' := 18) tw_220 rfl rfl (by decide) rfl dX6_readOther_15 rfl ?_
  refine GG_if_lt hk 25 (pc' := 21) dX6_readOther_18 rfl (by decide) (fun c3 => ?_) (fun c3 => ?_)
  · refine GG_iconst hk (pc' := 26) 0 dX6_readOther_25 rfl rfl ?_
    exact GG_zret hk hq dX6_readOther_26
  · refine GG_iconst hk (pc' := 22) 1 dX6_readOther_21 rfl rfl ?_
    refine GG_goto hk 26 dX6_readOther_22 (by decide) ?_
    exact GG_zret hk hq dX6_readOther_26
theorem c_X6_readOther (l : Launch) (C : DD) (a : Nat) (M : Mem)   : CI l C (a) yX6_readOther cX6_readOther 1 .boolean 3 [.ref (a + 97)] M (f_X6_readOther M ) := by
  refine CI_of RX6 (by decide +kernel) rfl (Nat.le_of_ble_eq_true rfl) (fun k q hk hq e1 e2 e3 => ?_)
  subst e1; subst e2; subst e3
  exact m_X6_readOther hk hq M  

/-! SettingsInLayers$Told.readEntry()Z -/
noncomputable def f_X6_readEntry (M : Mem)  : Option (Int32 × Mem) :=
    Option.bind (f_X5_beginEntry M ) fun z1 =>
    Option.bind (f_X6_letterHere z1 ) fun z2 =>
    if z2.1 = 33 then
      Option.bind (wrf z2.2 97 2 ((z2.2 97 2) + 1)) fun M4 =>
      Option.bind (wrf M4 99 6 4) fun M5 =>
      bret 1 M5
    else
      if z2.1 = 43 then
        Option.bind (wrf z2.2 97 2 ((z2.2 97 2) + 1)) fun M7 =>
        Option.bind (wrf M7 99 6 3) fun M8 =>
        Option.bind (f_X6_readOther M8 ) fun z9 =>
        if z9.1 = 0 then
          bret 0 z9.2
        else
          Option.bind (f_X6_readNumber z9.2 ) fun z11 =>
          if z11.1 = 0 then
            bret 0 z11.2
          else
            bret 1 z11.2
      else
        if z2.1 = 61 then
          Option.bind (wrf z2.2 97 2 ((z2.2 97 2) + 1)) fun M14 =>
          Option.bind (wrf M14 99 6 0) fun M15 =>
          Option.bind (f_X6_readNumber M15 ) fun z16 =>
          bret z16.1 z16.2
        else
          if z2.1 = 64 then
            Option.bind (wrf z2.2 97 2 ((z2.2 97 2) + 1)) fun M18 =>
            Option.bind (wrf M18 99 6 2) fun M19 =>
            Option.bind (f_X6_readOther M19 ) fun z20 =>
            bret z20.1 z20.2
          else
            if z2.1 = 91 then
              Option.bind (wrf z2.2 97 2 ((z2.2 97 2) + 1)) fun M22 =>
              Option.bind (wrf M22 99 6 1) fun M23 =>
              Option.bind (f_X6_readItems M23 ) fun z24 =>
              if z24.1 = 0 then
                bret 0 z24.2
              else
                Option.bind (f_X6_readSign z24.2 93) fun z26 =>
                if z26.1 = 0 then
                  bret 0 z26.2
                else
                  bret 1 z26.2
            else
              bret 0 z2.2
set_option maxRecDepth 20000 in
theorem m_X6_readEntry {k : KT} {q : Int32 × Mem} (hk : CX k cX6_readEntry RX6 1 (some .boolean) 5) (hq : RI k q) (M : Mem)   : GG k q (wM k M) 0 [(0, .ref (kh k + 97))] [] (f_X6_readEntry M ) := by
  unfold f_X6_readEntry
  refine GG_aload_n hk (pc' := 1) 0 dX6_readEntry_0 rfl rfl rfl ?_
  refine GG_get hk LC6 3 (v := .ref (kh k + 99)) (pc' := 4) tw_260 rfl rfl (by decide) rfl dX6_readEntry_1 rfl ?_
  refine GG_callVv hk (st := []) (pc' := 7) mf_X5_beginEntry mv_X5_beginEntry LC5 rfl (c_X5_beginEntry _ _ _ M  ) (by omega) tw_392 rfl rfl rfl (Nat.le_of_ble_eq_true rfl) dX6_readEntry_4 rfl (fun z1 e_z1 => ?_)
  refine GG_aload_n hk (pc' := 8) 0 dX6_readEntry_7 rfl rfl rfl ?_
  refine GG_callVi hk (st := []) (pc' := 11) mf_X6_letterHere mv_X6_letterHere LC6 rfl (c_X6_letterHere _ _ _ z1  ) (by omega) tw_353 rfl rfl rfl (Nat.le_of_ble_eq_true rfl) dX6_readEntry_8 rfl (fun z2 e_z2 => ?_)
  
  refine GG_if (fun c3 => ?_) (fun c3 => ?_)
  · refine GG_look hk 184 dX6_readEntry_11 (by decide) (off := 173) (by rw [c3]; rfl) (by decide) ?_
    refine GG_aload_n hk (pc' := 185) 0 dX6_readEntry_184 rfl rfl rfl ?_
    refine GG_dup hk (pc' := 186) dX6_readEntry_185 rfl rfl ?_
    refine GG_get hk LC6 2 (v := .int (z2.2 97 2)) (pc' := 189) tw_258 rfl rfl (by decide) rfl dX6_readEntry_186 rfl ?_
    refine GG_iconst hk (pc' := 190) 1 dX6_readEntry_189 rfl rfl ?_
    refine GG_iadd hk (pc' := 191) dX6_readEntry_190 rfl ?_
    refine GG_put hk LC6 2 (pc' := 194) tw_258 rfl rfl (by decide) rfl rfl (Nat.le_of_ble_eq_true rfl) (pv_6_2 _ _ _ _) dX6_readEntry_191 rfl (fun M4 e_M4 => ?_)
    refine GG_aload_n hk (pc' := 195) 0 dX6_readEntry_194 rfl rfl rfl ?_
    refine GG_get hk LC6 3 (v := .ref (kh k + 99)) (pc' := 198) tw_260 rfl rfl (by decide) rfl dX6_readEntry_195 rfl ?_
    refine GG_iconst hk (pc' := 199) 4 dX6_readEntry_198 rfl rfl ?_
    refine GG_put hk LC5 6 (pc' := 202) tw_215 rfl rfl (by decide) rfl rfl (Nat.le_of_ble_eq_true rfl) (pv_5_6 _ _ _ _) dX6_readEntry_199 rfl (fun M5 e_M5 => ?_)
    refine GG_iconst hk (pc' := 203) 1 dX6_readEntry_202 rfl rfl ?_
    exact GG_zret hk hq dX6_readEntry_203
  · refine GG_if (fun c6 => ?_) (fun c6 => ?_)
    · refine GG_look hk 146 dX6_readEntry_11 (by decide) (off := 135) (by rw [c6]; rfl) (by decide) ?_
      refine GG_aload_n hk (pc' := 147) 0 dX6_readEntry_146 rfl rfl rfl ?_
      refine GG_dup hk (pc' := 148) dX6_readEntry_147 rfl rfl ?_
      refine GG_get hk LC6 2 (v := .int (z2.2 97 2)) (pc' := 151) tw_258 rfl rfl (by decide) rfl dX6_readEntry_148 rfl ?_
      refine GG_iconst hk (pc' := 152) 1 dX6_readEntry_151 rfl rfl ?_
      refine GG_iadd hk (pc' := 153) dX6_readEntry_152 rfl ?_
      refine GG_put hk LC6 2 (pc' := 156) tw_258 rfl rfl (by decide) rfl rfl (Nat.le_of_ble_eq_true rfl) (pv_6_2 _ _ _ _) dX6_readEntry_153 rfl (fun M7 e_M7 => ?_)
      refine GG_aload_n hk (pc' := 157) 0 dX6_readEntry_156 rfl rfl rfl ?_
      refine GG_get hk LC6 3 (v := .ref (kh k + 99)) (pc' := 160) tw_260 rfl rfl (by decide) rfl dX6_readEntry_157 rfl ?_
      refine GG_iconst hk (pc' := 161) 3 dX6_readEntry_160 rfl rfl ?_
      refine GG_put hk LC5 6 (pc' := 164) tw_215 rfl rfl (by decide) rfl rfl (Nat.le_of_ble_eq_true rfl) (pv_5_6 _ _ _ _) dX6_readEntry_161 rfl (fun M8 e_M8 => ?_)
      refine GG_aload_n hk (pc' := 165) 0 dX6_readEntry_164 rfl rfl rfl ?_
      refine GG_callVi hk (st := []) (pc' := 168) mf_X6_readOther mv_X6_readOther LC6 rfl (c_X6_readOther _ _ _ M8  ) (by omega) tw_412 rfl rfl rfl (Nat.le_of_ble_eq_true rfl) dX6_readEntry_165 rfl (fun z9 e_z9 => ?_)
      refine GG_if_eq hk 182 (pc' := 171) dX6_readEntry_168 rfl (by decide) (fun c10 => ?_) (fun c10 => ?_)
      · refine GG_iconst hk (pc' := 183) 0 dX6_readEntry_182 rfl rfl ?_
        exact GG_zret hk hq dX6_readEntry_183
      · refine GG_aload_n hk (pc' := 172) 0 dX6_readEntry_171 rfl rfl rfl ?_
        refine GG_callVi hk (st := []) (pc' := 175) mf_X6_readNumber mv_X6_readNumber LC6 rfl (c_X6_readNumber _ _ _ z9.2  ) (by omega) tw_396 rfl rfl rfl (Nat.le_of_ble_eq_true rfl) dX6_readEntry_172 rfl (fun z11 e_z11 => ?_)
        refine GG_if_eq hk 182 (pc' := 178) dX6_readEntry_175 rfl (by decide) (fun c12 => ?_) (fun c12 => ?_)
        · refine GG_iconst hk (pc' := 183) 0 dX6_readEntry_182 rfl rfl ?_
          exact GG_zret hk hq dX6_readEntry_183
        · refine GG_iconst hk (pc' := 179) 1 dX6_readEntry_178 rfl rfl ?_
          refine GG_goto hk 183 dX6_readEntry_179 (by decide) ?_
          exact GG_zret hk hq dX6_readEntry_183
    · refine GG_if (fun c13 => ?_) (fun c13 => ?_)
      · refine GG_look hk 60 dX6_readEntry_11 (by decide) (off := 49) (by rw [c13]; rfl) (by decide) ?_
        refine GG_aload_n hk (pc' := 61) 0 dX6_readEntry_60 rfl rfl rfl ?_
        refine GG_dup hk (pc' := 62) dX6_readEntry_61 rfl rfl ?_
        refine GG_get hk LC6 2 (v := .int (z2.2 97 2)) (pc' := 65) tw_258 rfl rfl (by decide) rfl dX6_readEntry_62 rfl ?_
        refine GG_iconst hk (pc' := 66) 1 dX6_readEntry_65 rfl rfl ?_
        refine GG_iadd hk (pc' := 67) dX6_readEntry_66 rfl ?_
        refine GG_put hk LC6 2 (pc' := 70) tw_258 rfl rfl (by decide) rfl rfl (Nat.le_of_ble_eq_true rfl) (pv_6_2 _ _ _ _) dX6_readEntry_67 rfl (fun M14 e_M14 => ?_)
        refine GG_aload_n hk (pc' := 71) 0 dX6_readEntry_70 rfl rfl rfl ?_
        refine GG_get hk LC6 3 (v := .ref (kh k + 99)) (pc' := 74) tw_260 rfl rfl (by decide) rfl dX6_readEntry_71 rfl ?_
        refine GG_iconst hk (pc' := 75) 0 dX6_readEntry_74 rfl rfl ?_
        refine GG_put hk LC5 6 (pc' := 78) tw_215 rfl rfl (by decide) rfl rfl (Nat.le_of_ble_eq_true rfl) (pv_5_6 _ _ _ _) dX6_readEntry_75 rfl (fun M15 e_M15 => ?_)
        refine GG_aload_n hk (pc' := 79) 0 dX6_readEntry_78 rfl rfl rfl ?_
        refine GG_callVi hk (st := []) (pc' := 82) mf_X6_readNumber mv_X6_readNumber LC6 rfl (c_X6_readNumber _ _ _ M15  ) (by omega) tw_396 rfl rfl rfl (Nat.le_of_ble_eq_true rfl) dX6_readEntry_79 rfl (fun z16 e_z16 => ?_)
        exact GG_zret hk hq dX6_readEntry_82
      · refine GG_if (fun c17 => ?_) (fun c17 => ?_)
        · refine GG_look hk 123 dX6_readEntry_11 (by decide) (off := 112) (by rw [c17]; rfl) (by decide) ?_
          refine GG_aload_n hk (pc' := 124) 0 dX6_readEntry_123 rfl rfl rfl ?_
          refine GG_dup hk (pc' := 125) dX6_readEntry_124 rfl rfl ?_
          refine GG_get hk LC6 2 (v := .int (z2.2 97 2)) (pc' := 128) tw_258 rfl rfl (by decide) rfl dX6_readEntry_125 rfl ?_
          refine GG_iconst hk (pc' := 129) 1 dX6_readEntry_128 rfl rfl ?_
          refine GG_iadd hk (pc' := 130) dX6_readEntry_129 rfl ?_
          refine GG_put hk LC6 2 (pc' := 133) tw_258 rfl rfl (by decide) rfl rfl (Nat.le_of_ble_eq_true rfl) (pv_6_2 _ _ _ _) dX6_readEntry_130 rfl (fun M18 e_M18 => ?_)
          refine GG_aload_n hk (pc' := 134) 0 dX6_readEntry_133 rfl rfl rfl ?_
          refine GG_get hk LC6 3 (v := .ref (kh k + 99)) (pc' := 137) tw_260 rfl rfl (by decide) rfl dX6_readEntry_134 rfl ?_
          refine GG_iconst hk (pc' := 138) 2 dX6_readEntry_137 rfl rfl ?_
          refine GG_put hk LC5 6 (pc' := 141) tw_215 rfl rfl (by decide) rfl rfl (Nat.le_of_ble_eq_true rfl) (pv_5_6 _ _ _ _) dX6_readEntry_138 rfl (fun M19 e_M19 => ?_)
          refine GG_aload_n hk (pc' := 142) 0 dX6_readEntry_141 rfl rfl rfl ?_
          refine GG_callVi hk (st := []) (pc' := 145) mf_X6_readOther mv_X6_readOther LC6 rfl (c_X6_readOther _ _ _ M19  ) (by omega) tw_412 rfl rfl rfl (Nat.le_of_ble_eq_true rfl) dX6_readEntry_142 rfl (fun z20 e_z20 => ?_)
          exact GG_zret hk hq dX6_readEntry_145
        · refine GG_if (fun c21 => ?_) (fun c21 => ?_)
          · refine GG_look hk 83 dX6_readEntry_11 (by decide) (off := 72) (by rw [c21]; rfl) (by decide) ?_
            refine GG_aload_n hk (pc' := 84) 0 dX6_readEntry_83 rfl rfl rfl ?_
            refine GG_dup hk (pc' := 85) dX6_readEntry_84 rfl rfl ?_
            refine GG_get hk LC6 2 (v := .int (z2.2 97 2)) (pc' := 88) tw_258 rfl rfl (by decide) rfl dX6_readEntry_85 rfl ?_
            refine GG_iconst hk (pc' := 89) 1 dX6_readEntry_88 rfl rfl ?_
            refine GG_iadd hk (pc' := 90) dX6_readEntry_89 rfl ?_
            refine GG_put hk LC6 2 (pc' := 93) tw_258 rfl rfl (by decide) rfl rfl (Nat.le_of_ble_eq_true rfl) (pv_6_2 _ _ _ _) dX6_readEntry_90 rfl (fun M22 e_M22 => ?_)
            refine GG_aload_n hk (pc' := 94) 0 dX6_readEntry_93 rfl rfl rfl ?_
            refine GG_get hk LC6 3 (v := .ref (kh k + 99)) (pc' := 97) tw_260 rfl rfl (by decide) rfl dX6_readEntry_94 rfl ?_
            refine GG_iconst hk (pc' := 98) 1 dX6_readEntry_97 rfl rfl ?_
            refine GG_put hk LC5 6 (pc' := 101) tw_215 rfl rfl (by decide) rfl rfl (Nat.le_of_ble_eq_true rfl) (pv_5_6 _ _ _ _) dX6_readEntry_98 rfl (fun M23 e_M23 => ?_)
            refine GG_aload_n hk (pc' := 102) 0 dX6_readEntry_101 rfl rfl rfl ?_
            refine GG_callVi hk (st := []) (pc' := 105) mf_X6_readItems mv_X6_readItems LC6 rfl (c_X6_readItems _ _ _ M23  ) (by omega) tw_404 rfl rfl rfl (Nat.le_of_ble_eq_true rfl) dX6_readEntry_102 rfl (fun z24 e_z24 => ?_)
            refine GG_if_eq hk 121 (pc' := 108) dX6_readEntry_105 rfl (by decide) (fun c25 => ?_) (fun c25 => ?_)
            · refine GG_iconst hk (pc' := 122) 0 dX6_readEntry_121 rfl rfl ?_
              exact GG_zret hk hq dX6_readEntry_122
            · refine GG_aload_n hk (pc' := 109) 0 dX6_readEntry_108 rfl rfl rfl ?_
              refine GG_bipush hk (pc' := 111) 93 dX6_readEntry_109 rfl rfl ?_
              refine GG_callVi hk (st := []) (pc' := 114) mf_X6_readSign mv_X6_readSign LC6 rfl (c_X6_readSign _ _ _ z24.2 93 ) (by omega) tw_373 rfl rfl rfl (Nat.le_of_ble_eq_true rfl) dX6_readEntry_111 rfl (fun z26 e_z26 => ?_)
              refine GG_if_eq hk 121 (pc' := 117) dX6_readEntry_114 rfl (by decide) (fun c27 => ?_) (fun c27 => ?_)
              · refine GG_iconst hk (pc' := 122) 0 dX6_readEntry_121 rfl rfl ?_
                exact GG_zret hk hq dX6_readEntry_122
              · refine GG_iconst hk (pc' := 118) 1 dX6_readEntry_117 rfl rfl ?_
                refine GG_goto hk 122 dX6_readEntry_118 (by decide) ?_
                exact GG_zret hk hq dX6_readEntry_122
          · refine GG_look hk 204 dX6_readEntry_11 (by decide) (off := 193) ((lv_osw c3 rfl).trans ((lv_osw c6 rfl).trans ((lv_osw c13 rfl).trans ((lv_osw c17 rfl).trans ((lv_osw c21 rfl).trans rfl))))) (by decide) ?_
            refine GG_iconst hk (pc' := 205) 0 dX6_readEntry_204 rfl rfl ?_
            exact GG_zret hk hq dX6_readEntry_205
theorem c_X6_readEntry (l : Launch) (C : DD) (a : Nat) (M : Mem)   : CI l C (a) yX6_readEntry cX6_readEntry 1 .boolean 5 [.ref (a + 97)] M (f_X6_readEntry M ) := by
  refine CI_of RX6 (by decide +kernel) rfl (Nat.le_of_ble_eq_true rfl) (fun k q hk hq e1 e2 e3 => ?_)
  subst e1; subst e2; subst e3
  exact m_X6_readEntry hk hq M  

/-! SettingsInLayers$Told.readManner()Z -/
noncomputable def f_X6_readManner (M : Mem)  : Option (Int32 × Mem) :=
    Option.bind (f_X6_readDigit M ) fun z1 =>
    Option.bind (wrf z1.2 99 5 z1.1) fun M2 =>
    if (M2 99 5) < 0 then
      bret 0 M2
    else
      bret 1 M2
set_option maxRecDepth 20000 in
theorem m_X6_readManner {k : KT} {q : Int32 × Mem} (hk : CX k cX6_readManner RX6 1 (some .boolean) 3) (hq : RI k q) (M : Mem)   : GG k q (wM k M) 0 [(0, .ref (kh k + 97))] [] (f_X6_readManner M ) := by
  unfold f_X6_readManner
  refine GG_aload_n hk (pc' := 1) 0 dX6_readManner_0 rfl rfl rfl ?_
  refine GG_get hk LC6 3 (v := .ref (kh k + 99)) (pc' := 4) tw_260 rfl rfl (by decide) rfl dX6_readManner_1 rfl ?_
  refine GG_aload_n hk (pc' := 5) 0 dX6_readManner_4 rfl rfl rfl ?_
  refine GG_callVi hk (st := [.ref (kh k + 99)]) (pc' := 8) mf_X6_readDigit mv_X6_readDigit LC6 rfl (c_X6_readDigit _ _ _ M  ) (by omega) tw_361 rfl rfl rfl (Nat.le_of_ble_eq_true rfl) dX6_readManner_5 rfl (fun z1 e_z1 => ?_)
  refine GG_put hk LC5 5 (pc' := 11) tw_214 rfl rfl (by decide) rfl rfl (Nat.le_of_ble_eq_true rfl) (pv_5_5 _ _ _ _) dX6_readManner_8 rfl (fun M2 e_M2 => ?_)
  refine GG_aload_n hk (pc' := 12) 0 dX6_readManner_11 rfl rfl rfl ?_
  refine GG_get hk LC6 3 (v := .ref (kh k + 99)) (pc' := 15) tw_260 rfl rfl (by decide) rfl dX6_readManner_12 rfl ?_
  refine GG_get hk LC5 5 (v := .int (M2 99 5)) (pc' := 18) tw_214 rfl rfl (by decide) rfl dX6_readManner_15 rfl ?_
  refine GG_if_lt hk 25 (pc' := 21) dX6_readManner_18 rfl (by decide) (fun c3 => ?_) (fun c3 => ?_)
  · refine GG_iconst hk (pc' := 26) 0 dX6_readManner_25 rfl rfl ?_
    exact GG_zret hk hq dX6_readManner_26
  · refine GG_iconst hk (pc' := 22) 1 dX6_readManner_21 rfl rfl ?_
    refine GG_goto hk 26 dX6_readManner_22 (by decide) ?_
    exact GG_zret hk hq dX6_readManner_26
theorem c_X6_readManner (l : Launch) (C : DD) (a : Nat) (M : Mem)   : CI l C (a) yX6_readManner cX6_readManner 1 .boolean 3 [.ref (a + 97)] M (f_X6_readManner M ) := by
  refine CI_of RX6 (by decide +kernel) rfl (Nat.le_of_ble_eq_true rfl) (fun k q hk hq e1 e2 e3 => ?_)
  subst e1; subst e2; subst e3
  exact m_X6_readManner hk hq M  

/-! SettingsInLayers$Told.readStatement()Z -/
noncomputable def f_X6_readStatement (M : Mem)  : Option (Int32 × Mem) :=
    Option.bind (f_X6_letterHere M ) fun z1 =>
    Option.bind (wrf z1.2 99 0 z1.1) fun M2 =>
    if (M2 99 0) = 100 then
      Option.bind (wrf M2 97 2 ((M2 97 2) + 1)) fun M4 =>
      Option.bind (f_X6_readLayer M4 ) fun z5 =>
      if z5.1 = 0 then
        bret 0 z5.2
      else
        Option.bind (f_X6_readKey z5.2 ) fun z7 =>
        if z7.1 = 0 then
          bret 0 z7.2
        else
          Option.bind (f_X6_readSign z7.2 59) fun z9 =>
          if z9.1 = 0 then
            bret 0 z9.2
          else
            bret 1 z9.2
    else
      if (M2 99 0) = 101 then
        Option.bind (wrf M2 97 2 ((M2 97 2) + 1)) fun M12 =>
        Option.bind (f_X6_readLayer M12 ) fun z13 =>
        if z13.1 = 0 then
          bret 0 z13.2
        else
          Option.bind (f_X6_readKey z13.2 ) fun z15 =>
          if z15.1 = 0 then
            bret 0 z15.2
          else
            Option.bind (f_X6_readEntry z15.2 ) fun z17 =>
            if z17.1 = 0 then
              bret 0 z17.2
            else
              Option.bind (f_X6_readSign z17.2 59) fun z19 =>
              if z19.1 = 0 then
                bret 0 z19.2
              else
                bret 1 z19.2
      else
        if (M2 99 0) = 102 then
          bret 0 M2
        else
          if (M2 99 0) = 103 then
            bret 0 M2
          else
            if (M2 99 0) = 104 then
              bret 0 M2
            else
              if (M2 99 0) = 105 then
                bret 0 M2
              else
                if (M2 99 0) = 106 then
                  bret 0 M2
                else
                  if (M2 99 0) = 107 then
                    bret 0 M2
                  else
                    if (M2 99 0) = 108 then
                      Option.bind (wrf M2 97 2 ((M2 97 2) + 1)) fun M28 =>
                      Option.bind (f_X6_readLayer M28 ) fun z29 =>
                      if z29.1 = 0 then
                        bret 0 z29.2
                      else
                        Option.bind (f_X6_readKind z29.2 ) fun z31 =>
                        if z31.1 = 0 then
                          bret 0 z31.2
                        else
                          Option.bind (f_X6_readFigure z31.2 ) fun z33 =>
                          if z33.1 = 0 then
                            bret 0 z33.2
                          else
                            Option.bind (f_X6_readSign z33.2 59) fun z35 =>
                            if z35.1 = 0 then
                              bret 0 z35.2
                            else
                              bret 1 z35.2
                    else
                      if (M2 99 0) = 109 then
                        Option.bind (wrf M2 97 2 ((M2 97 2) + 1)) fun M38 =>
                        Option.bind (f_X6_readKey M38 ) fun z39 =>
                        if z39.1 = 0 then
                          bret 0 z39.2
                        else
                          Option.bind (f_X6_readManner z39.2 ) fun z41 =>
                          if z41.1 = 0 then
                            bret 0 z41.2
                          else
                            Option.bind (f_X6_readSign z41.2 59) fun z43 =>
                            if z43.1 = 0 then
                              bret 0 z43.2
                            else
                              bret 1 z43.2
                      else
                        if (M2 99 0) = 110 then
                          bret 0 M2
                        else
                          if (M2 99 0) = 111 then
                            Option.bind (wrf M2 97 2 ((M2 97 2) + 1)) fun M47 =>
                            Option.bind (f_X6_readLayer M47 ) fun z48 =>
                            if z48.1 = 0 then
                              bret 0 z48.2
                            else
                              Option.bind (f_X6_readSign z48.2 59) fun z50 =>
                              if z50.1 = 0 then
                                bret 0 z50.2
                              else
                                bret 1 z50.2
                          else
                            bret 0 M2
set_option maxRecDepth 20000 in
theorem m_X6_readStatement {k : KT} {q : Int32 × Mem} (hk : CX k cX6_readStatement RX6 1 (some .boolean) 6) (hq : RI k q) (M : Mem)   : GG k q (wM k M) 0 [(0, .ref (kh k + 97))] [] (f_X6_readStatement M ) := by
  unfold f_X6_readStatement
  refine GG_aload_n hk (pc' := 1) 0 dX6_readStatement_0 rfl rfl rfl ?_
  refine GG_get hk LC6 3 (v := .ref (kh k + 99)) (pc' := 4) tw_260 rfl rfl (by decide) rfl dX6_readStatement_1 rfl ?_
  refine GG_aload_n hk (pc' := 5) 0 dX6_readStatement_4 rfl rfl rfl ?_
  refine GG_callVi hk (st := [.ref (kh k + 99)]) (pc' := 8) mf_X6_letterHere mv_X6_letterHere LC6 rfl (c_X6_letterHere _ _ _ M  ) (by omega) tw_353 rfl rfl rfl (Nat.le_of_ble_eq_true rfl) dX6_readStatement_5 rfl (fun z1 e_z1 => ?_)
  refine GG_put hk LC5 0 (pc' := 11) tw_204 rfl rfl (by decide) rfl rfl (Nat.le_of_ble_eq_true rfl) (pv_5_0 _ _ _ _) dX6_readStatement_8 rfl (fun M2 e_M2 => ?_)
  refine GG_aload_n hk (pc' := 12) 0 dX6_readStatement_11 rfl rfl rfl ?_
  refine GG_get hk LC6 3 (v := .ref (kh k + 99)) (pc' := 15) tw_260 rfl rfl (by decide) rfl dX6_readStatement_12 rfl ?_
  refine GG_get hk LC5 0 (v := .int (M2 99 0)) (pc' := 18) tw_204 rfl rfl (by decide) rfl dX6_readStatement_15 rfl ?_
  refine GG_if (fun c3 => ?_) (fun c3 => ?_)
  · refine GG_tabIn hk 204 100 c3 dX6_readStatement_18 (by decide) (by decide) rfl (by decide) ?_
    refine GG_aload_n hk (pc' := 205) 0 dX6_readStatement_204 rfl rfl rfl ?_
    refine GG_dup hk (pc' := 206) dX6_readStatement_205 rfl rfl ?_
    refine GG_get hk LC6 2 (v := .int (M2 97 2)) (pc' := 209) tw_258 rfl rfl (by decide) rfl dX6_readStatement_206 rfl ?_
    refine GG_iconst hk (pc' := 210) 1 dX6_readStatement_209 rfl rfl ?_
    refine GG_iadd hk (pc' := 211) dX6_readStatement_210 rfl ?_
    refine GG_put hk LC6 2 (pc' := 214) tw_258 rfl rfl (by decide) rfl rfl (Nat.le_of_ble_eq_true rfl) (pv_6_2 _ _ _ _) dX6_readStatement_211 rfl (fun M4 e_M4 => ?_)
    refine GG_aload_n hk (pc' := 215) 0 dX6_readStatement_214 rfl rfl rfl ?_
    refine GG_callVi hk (st := []) (pc' := 218) mf_X6_readLayer mv_X6_readLayer LC6 rfl (c_X6_readLayer _ _ _ M4  ) (by omega) tw_357 rfl rfl rfl (Nat.le_of_ble_eq_true rfl) dX6_readStatement_215 rfl (fun z5 e_z5 => ?_)
    refine GG_if_eq hk 241 (pc' := 221) dX6_readStatement_218 rfl (by decide) (fun c6 => ?_) (fun c6 => ?_)
    · refine GG_iconst hk (pc' := 242) 0 dX6_readStatement_241 rfl rfl ?_
      exact GG_zret hk hq dX6_readStatement_242
    · refine GG_aload_n hk (pc' := 222) 0 dX6_readStatement_221 rfl rfl rfl ?_
      refine GG_callVi hk (st := []) (pc' := 225) mf_X6_readKey mv_X6_readKey LC6 rfl (c_X6_readKey _ _ _ z5.2  ) (by omega) tw_377 rfl rfl rfl (Nat.le_of_ble_eq_true rfl) dX6_readStatement_222 rfl (fun z7 e_z7 => ?_)
      refine GG_if_eq hk 241 (pc' := 228) dX6_readStatement_225 rfl (by decide) (fun c8 => ?_) (fun c8 => ?_)
      · refine GG_iconst hk (pc' := 242) 0 dX6_readStatement_241 rfl rfl ?_
        exact GG_zret hk hq dX6_readStatement_242
      · refine GG_aload_n hk (pc' := 229) 0 dX6_readStatement_228 rfl rfl rfl ?_
        refine GG_bipush hk (pc' := 231) 59 dX6_readStatement_229 rfl rfl ?_
        refine GG_callVi hk (st := []) (pc' := 234) mf_X6_readSign mv_X6_readSign LC6 rfl (c_X6_readSign _ _ _ z7.2 59 ) (by omega) tw_373 rfl rfl rfl (Nat.le_of_ble_eq_true rfl) dX6_readStatement_231 rfl (fun z9 e_z9 => ?_)
        refine GG_if_eq hk 241 (pc' := 237) dX6_readStatement_234 rfl (by decide) (fun c10 => ?_) (fun c10 => ?_)
        · refine GG_iconst hk (pc' := 242) 0 dX6_readStatement_241 rfl rfl ?_
          exact GG_zret hk hq dX6_readStatement_242
        · refine GG_iconst hk (pc' := 238) 1 dX6_readStatement_237 rfl rfl ?_
          refine GG_goto hk 242 dX6_readStatement_238 (by decide) ?_
          exact GG_zret hk hq dX6_readStatement_242
  · refine GG_if (fun c11 => ?_) (fun c11 => ?_)
    · refine GG_tabIn hk 158 101 c11 dX6_readStatement_18 (by decide) (by decide) rfl (by decide) ?_
      refine GG_aload_n hk (pc' := 159) 0 dX6_readStatement_158 rfl rfl rfl ?_
      refine GG_dup hk (pc' := 160) dX6_readStatement_159 rfl rfl ?_
      refine GG_get hk LC6 2 (v := .int (M2 97 2)) (pc' := 163) tw_258 rfl rfl (by decide) rfl dX6_readStatement_160 rfl ?_
      refine GG_iconst hk (pc' := 164) 1 dX6_readStatement_163 rfl rfl ?_
      refine GG_iadd hk (pc' := 165) dX6_readStatement_164 rfl ?_
      refine GG_put hk LC6 2 (pc' := 168) tw_258 rfl rfl (by decide) rfl rfl (Nat.le_of_ble_eq_true rfl) (pv_6_2 _ _ _ _) dX6_readStatement_165 rfl (fun M12 e_M12 => ?_)
      refine GG_aload_n hk (pc' := 169) 0 dX6_readStatement_168 rfl rfl rfl ?_
      refine GG_callVi hk (st := []) (pc' := 172) mf_X6_readLayer mv_X6_readLayer LC6 rfl (c_X6_readLayer _ _ _ M12  ) (by omega) tw_357 rfl rfl rfl (Nat.le_of_ble_eq_true rfl) dX6_readStatement_169 rfl (fun z13 e_z13 => ?_)
      refine GG_if_eq hk 202 (pc' := 175) dX6_readStatement_172 rfl (by decide) (fun c14 => ?_) (fun c14 => ?_)
      · refine GG_iconst hk (pc' := 203) 0 dX6_readStatement_202 rfl rfl ?_
        exact GG_zret hk hq dX6_readStatement_203
      · refine GG_aload_n hk (pc' := 176) 0 dX6_readStatement_175 rfl rfl rfl ?_
        refine GG_callVi hk (st := []) (pc' := 179) mf_X6_readKey mv_X6_readKey LC6 rfl (c_X6_readKey _ _ _ z13.2  ) (by omega) tw_377 rfl rfl rfl (Nat.le_of_ble_eq_true rfl) dX6_readStatement_176 rfl (fun z15 e_z15 => ?_)
        refine GG_if_eq hk 202 (pc' := 182) dX6_readStatement_179 rfl (by decide) (fun c16 => ?_) (fun c16 => ?_)
        · refine GG_iconst hk (pc' := 203) 0 dX6_readStatement_202 rfl rfl ?_
          exact GG_zret hk hq dX6_readStatement_203
        · refine GG_aload_n hk (pc' := 183) 0 dX6_readStatement_182 rfl rfl rfl ?_
          refine GG_callVi hk (st := []) (pc' := 186) mf_X6_readEntry mv_X6_readEntry LC6 rfl (c_X6_readEntry _ _ _ z15.2  ) (by omega) tw_388 rfl rfl rfl (Nat.le_of_ble_eq_true rfl) dX6_readStatement_183 rfl (fun z17 e_z17 => ?_)
          refine GG_if_eq hk 202 (pc' := 189) dX6_readStatement_186 rfl (by decide) (fun c18 => ?_) (fun c18 => ?_)
          · refine GG_iconst hk (pc' := 203) 0 dX6_readStatement_202 rfl rfl ?_
            exact GG_zret hk hq dX6_readStatement_203
          · refine GG_aload_n hk (pc' := 190) 0 dX6_readStatement_189 rfl rfl rfl ?_
            refine GG_bipush hk (pc' := 192) 59 dX6_readStatement_190 rfl rfl ?_
            refine GG_callVi hk (st := []) (pc' := 195) mf_X6_readSign mv_X6_readSign LC6 rfl (c_X6_readSign _ _ _ z17.2 59 ) (by omega) tw_373 rfl rfl rfl (Nat.le_of_ble_eq_true rfl) dX6_readStatement_192 rfl (fun z19 e_z19 => ?_)
            refine GG_if_eq hk 202 (pc' := 198) dX6_readStatement_195 rfl (by decide) (fun c20 => ?_) (fun c20 => ?_)
            · refine GG_iconst hk (pc' := 203) 0 dX6_readStatement_202 rfl rfl ?_
              exact GG_zret hk hq dX6_readStatement_203
            · refine GG_iconst hk (pc' := 199) 1 dX6_readStatement_198 rfl rfl ?_
              refine GG_goto hk 203 dX6_readStatement_199 (by decide) ?_
              exact GG_zret hk hq dX6_readStatement_203
    · refine GG_if (fun c21 => ?_) (fun c21 => ?_)
      · refine GG_tabIn hk 282 102 c21 dX6_readStatement_18 (by decide) (by decide) rfl (by decide) ?_
        refine GG_iconst hk (pc' := 283) 0 dX6_readStatement_282 rfl rfl ?_
        exact GG_zret hk hq dX6_readStatement_283
      · refine GG_if (fun c22 => ?_) (fun c22 => ?_)
        · refine GG_tabIn hk 282 103 c22 dX6_readStatement_18 (by decide) (by decide) rfl (by decide) ?_
          refine GG_iconst hk (pc' := 283) 0 dX6_readStatement_282 rfl rfl ?_
          exact GG_zret hk hq dX6_readStatement_283
        · refine GG_if (fun c23 => ?_) (fun c23 => ?_)
          · refine GG_tabIn hk 282 104 c23 dX6_readStatement_18 (by decide) (by decide) rfl (by decide) ?_
            refine GG_iconst hk (pc' := 283) 0 dX6_readStatement_282 rfl rfl ?_
            exact GG_zret hk hq dX6_readStatement_283
          · refine GG_if (fun c24 => ?_) (fun c24 => ?_)
            · refine GG_tabIn hk 282 105 c24 dX6_readStatement_18 (by decide) (by decide) rfl (by decide) ?_
              refine GG_iconst hk (pc' := 283) 0 dX6_readStatement_282 rfl rfl ?_
              exact GG_zret hk hq dX6_readStatement_283
            · refine GG_if (fun c25 => ?_) (fun c25 => ?_)
              · refine GG_tabIn hk 282 106 c25 dX6_readStatement_18 (by decide) (by decide) rfl (by decide) ?_
                refine GG_iconst hk (pc' := 283) 0 dX6_readStatement_282 rfl rfl ?_
                exact GG_zret hk hq dX6_readStatement_283
              · refine GG_if (fun c26 => ?_) (fun c26 => ?_)
                · refine GG_tabIn hk 282 107 c26 dX6_readStatement_18 (by decide) (by decide) rfl (by decide) ?_
                  refine GG_iconst hk (pc' := 283) 0 dX6_readStatement_282 rfl rfl ?_
                  exact GG_zret hk hq dX6_readStatement_283
                · refine GG_if (fun c27 => ?_) (fun c27 => ?_)
                  · refine GG_tabIn hk 80 108 c27 dX6_readStatement_18 (by decide) (by decide) rfl (by decide) ?_
                    refine GG_aload_n hk (pc' := 81) 0 dX6_readStatement_80 rfl rfl rfl ?_
                    refine GG_dup hk (pc' := 82) dX6_readStatement_81 rfl rfl ?_
                    refine GG_get hk LC6 2 (v := .int (M2 97 2)) (pc' := 85) tw_258 rfl rfl (by decide) rfl dX6_readStatement_82 rfl ?_
                    refine GG_iconst hk (pc' := 86) 1 dX6_readStatement_85 rfl rfl ?_
                    refine GG_iadd hk (pc' := 87) dX6_readStatement_86 rfl ?_
                    refine GG_put hk LC6 2 (pc' := 90) tw_258 rfl rfl (by decide) rfl rfl (Nat.le_of_ble_eq_true rfl) (pv_6_2 _ _ _ _) dX6_readStatement_87 rfl (fun M28 e_M28 => ?_)
                    refine GG_aload_n hk (pc' := 91) 0 dX6_readStatement_90 rfl rfl rfl ?_
                    refine GG_callVi hk (st := []) (pc' := 94) mf_X6_readLayer mv_X6_readLayer LC6 rfl (c_X6_readLayer _ _ _ M28  ) (by omega) tw_357 rfl rfl rfl (Nat.le_of_ble_eq_true rfl) dX6_readStatement_91 rfl (fun z29 e_z29 => ?_)
                    refine GG_if_eq hk 124 (pc' := 97) dX6_readStatement_94 rfl (by decide) (fun c30 => ?_) (fun c30 => ?_)
                    · refine GG_iconst hk (pc' := 125) 0 dX6_readStatement_124 rfl rfl ?_
                      exact GG_zret hk hq dX6_readStatement_125
                    · refine GG_aload_n hk (pc' := 98) 0 dX6_readStatement_97 rfl rfl rfl ?_
                      refine GG_callVi hk (st := []) (pc' := 101) mf_X6_readKind mv_X6_readKind LC6 rfl (c_X6_readKind _ _ _ z29.2  ) (by omega) tw_365 rfl rfl rfl (Nat.le_of_ble_eq_true rfl) dX6_readStatement_98 rfl (fun z31 e_z31 => ?_)
                      refine GG_if_eq hk 124 (pc' := 104) dX6_readStatement_101 rfl (by decide) (fun c32 => ?_) (fun c32 => ?_)
                      · refine GG_iconst hk (pc' := 125) 0 dX6_readStatement_124 rfl rfl ?_
                        exact GG_zret hk hq dX6_readStatement_125
                      · refine GG_aload_n hk (pc' := 105) 0 dX6_readStatement_104 rfl rfl rfl ?_
                        refine GG_callVi hk (st := []) (pc' := 108) mf_X6_readFigure mv_X6_readFigure LC6 rfl (c_X6_readFigure _ _ _ z31.2  ) (by omega) tw_369 rfl rfl rfl (Nat.le_of_ble_eq_true rfl) dX6_readStatement_105 rfl (fun z33 e_z33 => ?_)
                        refine GG_if_eq hk 124 (pc' := 111) dX6_readStatement_108 rfl (by decide) (fun c34 => ?_) (fun c34 => ?_)
                        · refine GG_iconst hk (pc' := 125) 0 dX6_readStatement_124 rfl rfl ?_
                          exact GG_zret hk hq dX6_readStatement_125
                        · refine GG_aload_n hk (pc' := 112) 0 dX6_readStatement_111 rfl rfl rfl ?_
                          refine GG_bipush hk (pc' := 114) 59 dX6_readStatement_112 rfl rfl ?_
                          refine GG_callVi hk (st := []) (pc' := 117) mf_X6_readSign mv_X6_readSign LC6 rfl (c_X6_readSign _ _ _ z33.2 59 ) (by omega) tw_373 rfl rfl rfl (Nat.le_of_ble_eq_true rfl) dX6_readStatement_114 rfl (fun z35 e_z35 => ?_)
                          refine GG_if_eq hk 124 (pc' := 120) dX6_readStatement_117 rfl (by decide) (fun c36 => ?_) (fun c36 => ?_)
                          · refine GG_iconst hk (pc' := 125) 0 dX6_readStatement_124 rfl rfl ?_
                            exact GG_zret hk hq dX6_readStatement_125
                          · refine GG_iconst hk (pc' := 121) 1 dX6_readStatement_120 rfl rfl ?_
                            refine GG_goto hk 125 dX6_readStatement_121 (by decide) ?_
                            exact GG_zret hk hq dX6_readStatement_125
                  · refine GG_if (fun c37 => ?_) (fun c37 => ?_)
                    · refine GG_tabIn hk 243 109 c37 dX6_readStatement_18 (by decide) (by decide) rfl (by decide) ?_
                      refine GG_aload_n hk (pc' := 244) 0 dX6_readStatement_243 rfl rfl rfl ?_
                      refine GG_dup hk (pc' := 245) dX6_readStatement_244 rfl rfl ?_
                      refine GG_get hk LC6 2 (v := .int (M2 97 2)) (pc' := 248) tw_258 rfl rfl (by decide) rfl dX6_readStatement_245 rfl ?_
                      refine GG_iconst hk (pc' := 249) 1 dX6_readStatement_248 rfl rfl ?_
                      refine GG_iadd hk (pc' := 250) dX6_readStatement_249 rfl ?_
                      refine GG_put hk LC6 2 (pc' := 253) tw_258 rfl rfl (by decide) rfl rfl (Nat.le_of_ble_eq_true rfl) (pv_6_2 _ _ _ _) dX6_readStatement_250 rfl (fun M38 e_M38 => ?_)
                      refine GG_aload_n hk (pc' := 254) 0 dX6_readStatement_253 rfl rfl rfl ?_
                      refine GG_callVi hk (st := []) (pc' := 257) mf_X6_readKey mv_X6_readKey LC6 rfl (c_X6_readKey _ _ _ M38  ) (by omega) tw_377 rfl rfl rfl (Nat.le_of_ble_eq_true rfl) dX6_readStatement_254 rfl (fun z39 e_z39 => ?_)
                      refine GG_if_eq hk 280 (pc' := 260) dX6_readStatement_257 rfl (by decide) (fun c40 => ?_) (fun c40 => ?_)
                      · refine GG_iconst hk (pc' := 281) 0 dX6_readStatement_280 rfl rfl ?_
                        exact GG_zret hk hq dX6_readStatement_281
                      · refine GG_aload_n hk (pc' := 261) 0 dX6_readStatement_260 rfl rfl rfl ?_
                        refine GG_callVi hk (st := []) (pc' := 264) mf_X6_readManner mv_X6_readManner LC6 rfl (c_X6_readManner _ _ _ z39.2  ) (by omega) tw_416 rfl rfl rfl (Nat.le_of_ble_eq_true rfl) dX6_readStatement_261 rfl (fun z41 e_z41 => ?_)
                        refine GG_if_eq hk 280 (pc' := 267) dX6_readStatement_264 rfl (by decide) (fun c42 => ?_) (fun c42 => ?_)
                        · refine GG_iconst hk (pc' := 281) 0 dX6_readStatement_280 rfl rfl ?_
                          exact GG_zret hk hq dX6_readStatement_281
                        · refine GG_aload_n hk (pc' := 268) 0 dX6_readStatement_267 rfl rfl rfl ?_
                          refine GG_bipush hk (pc' := 270) 59 dX6_readStatement_268 rfl rfl ?_
                          refine GG_callVi hk (st := []) (pc' := 273) mf_X6_readSign mv_X6_readSign LC6 rfl (c_X6_readSign _ _ _ z41.2 59 ) (by omega) tw_373 rfl rfl rfl (Nat.le_of_ble_eq_true rfl) dX6_readStatement_270 rfl (fun z43 e_z43 => ?_)
                          refine GG_if_eq hk 280 (pc' := 276) dX6_readStatement_273 rfl (by decide) (fun c44 => ?_) (fun c44 => ?_)
                          · refine GG_iconst hk (pc' := 281) 0 dX6_readStatement_280 rfl rfl ?_
                            exact GG_zret hk hq dX6_readStatement_281
                          · refine GG_iconst hk (pc' := 277) 1 dX6_readStatement_276 rfl rfl ?_
                            refine GG_goto hk 281 dX6_readStatement_277 (by decide) ?_
                            exact GG_zret hk hq dX6_readStatement_281
                    · refine GG_if (fun c45 => ?_) (fun c45 => ?_)
                      · refine GG_tabIn hk 282 110 c45 dX6_readStatement_18 (by decide) (by decide) rfl (by decide) ?_
                        refine GG_iconst hk (pc' := 283) 0 dX6_readStatement_282 rfl rfl ?_
                        exact GG_zret hk hq dX6_readStatement_283
                      · refine GG_if (fun c46 => ?_) (fun c46 => ?_)
                        · refine GG_tabIn hk 126 111 c46 dX6_readStatement_18 (by decide) (by decide) rfl (by decide) ?_
                          refine GG_aload_n hk (pc' := 127) 0 dX6_readStatement_126 rfl rfl rfl ?_
                          refine GG_dup hk (pc' := 128) dX6_readStatement_127 rfl rfl ?_
                          refine GG_get hk LC6 2 (v := .int (M2 97 2)) (pc' := 131) tw_258 rfl rfl (by decide) rfl dX6_readStatement_128 rfl ?_
                          refine GG_iconst hk (pc' := 132) 1 dX6_readStatement_131 rfl rfl ?_
                          refine GG_iadd hk (pc' := 133) dX6_readStatement_132 rfl ?_
                          refine GG_put hk LC6 2 (pc' := 136) tw_258 rfl rfl (by decide) rfl rfl (Nat.le_of_ble_eq_true rfl) (pv_6_2 _ _ _ _) dX6_readStatement_133 rfl (fun M47 e_M47 => ?_)
                          refine GG_aload_n hk (pc' := 137) 0 dX6_readStatement_136 rfl rfl rfl ?_
                          refine GG_callVi hk (st := []) (pc' := 140) mf_X6_readLayer mv_X6_readLayer LC6 rfl (c_X6_readLayer _ _ _ M47  ) (by omega) tw_357 rfl rfl rfl (Nat.le_of_ble_eq_true rfl) dX6_readStatement_137 rfl (fun z48 e_z48 => ?_)
                          refine GG_if_eq hk 156 (pc' := 143) dX6_readStatement_140 rfl (by decide) (fun c49 => ?_) (fun c49 => ?_)
                          · refine GG_iconst hk (pc' := 157) 0 dX6_readStatement_156 rfl rfl ?_
                            exact GG_zret hk hq dX6_readStatement_157
                          · refine GG_aload_n hk (pc' := 144) 0 dX6_readStatement_143 rfl rfl rfl ?_
                            refine GG_bipush hk (pc' := 146) 59 dX6_readStatement_144 rfl rfl ?_
                            refine GG_callVi hk (st := []) (pc' := 149) mf_X6_readSign mv_X6_readSign LC6 rfl (c_X6_readSign _ _ _ z48.2 59 ) (by omega) tw_373 rfl rfl rfl (Nat.le_of_ble_eq_true rfl) dX6_readStatement_146 rfl (fun z50 e_z50 => ?_)
                            refine GG_if_eq hk 156 (pc' := 152) dX6_readStatement_149 rfl (by decide) (fun c51 => ?_) (fun c51 => ?_)
                            · refine GG_iconst hk (pc' := 157) 0 dX6_readStatement_156 rfl rfl ?_
                              exact GG_zret hk hq dX6_readStatement_157
                            · refine GG_iconst hk (pc' := 153) 1 dX6_readStatement_152 rfl rfl ?_
                              refine GG_goto hk 157 dX6_readStatement_153 (by decide) ?_
                              exact GG_zret hk hq dX6_readStatement_157
                        · refine GG_tabOut hk 282 dX6_readStatement_18 (sw_out_100_111 c3 c11 c21 c22 c23 c24 c25 c26 c27 c37 c45 c46) (by decide) ?_
                          refine GG_iconst hk (pc' := 283) 0 dX6_readStatement_282 rfl rfl ?_
                          exact GG_zret hk hq dX6_readStatement_283
theorem c_X6_readStatement (l : Launch) (C : DD) (a : Nat) (M : Mem)   : CI l C (a) yX6_readStatement cX6_readStatement 1 .boolean 6 [.ref (a + 97)] M (f_X6_readStatement M ) := by
  refine CI_of RX6 (by decide +kernel) rfl (Nat.le_of_ble_eq_true rfl) (fun k q hk hq e1 e2 e3 => ?_)
  subst e1; subst e2; subst e3
  exact m_X6_readStatement hk hq M  

/-! SettingsInLayers$Told.isWellFormed()Z -/
noncomputable def f_X6_isWellFormed_30  (k7 : Mem → Int32 → Option (Int32 × Mem)) (M : Mem) (l1 : Int32) : Option (Int32 × Mem) :=
    Option.bind (f_X6_readStatement M ) fun z1 =>
    if ¬ z1.1 = 0 then
      k7 z1.2 (l1 + 1)
    else
      bret 0 z1.2
set_option maxRecDepth 20000 in
theorem m_X6_isWellFormed_30 {k : KT} {q : Int32 × Mem} (hk : CX k cX6_isWellFormed RX6 2 (some .boolean) 7) (hq : RI k q) (k7 : Mem → Int32 → Option (Int32 × Mem)) (hk7 : ∀ (M : Mem) (l1 : Int32) , GG k q (wM k M) 7 [(0, .ref (kh k + 97)), (1, .int l1)] [] (k7 M l1)) (M : Mem) (l1 : Int32)  : GG k q (wM k M) 30 [(0, .ref (kh k + 97)), (1, .int l1)] [] (f_X6_isWellFormed_30 k7 M l1) := by
  unfold f_X6_isWellFormed_30
  refine GG_aload_n hk (pc' := 31) 0 dX6_isWellFormed_30 rfl rfl rfl ?_
  refine GG_callVi hk (st := []) (pc' := 34) mf_X6_readStatement mv_X6_readStatement LC6 rfl (c_X6_readStatement _ _ _ M  ) (by omega) tw_349 rfl rfl rfl (Nat.le_of_ble_eq_true rfl) dX6_isWellFormed_31 rfl (fun z1 e_z1 => ?_)
  refine GG_if_ne hk 39 (pc' := 37) dX6_isWellFormed_34 rfl (by decide) (fun c2 => ?_) (fun c2 => ?_)
  · refine GG_iinc hk (pc' := 42) 1 (l1 + 1) [(1, .int (l1 + 1)), (0, .ref (kh k + 97))] dX6_isWellFormed_39 rfl rfl rfl (by decide) rfl ?_
    refine GG_goto hk 7 dX6_isWellFormed_42 (by decide) ?_
    refine GG_sub (L' := [(0, .ref (kh k + 97)), (1, .int (l1 + 1))]) [1, 0] rfl ?_
    exact hk7 z1.2 (l1 + 1) 
  · refine GG_iconst hk (pc' := 38) 0 dX6_isWellFormed_37 rfl rfl ?_
    exact GG_zret hk hq dX6_isWellFormed_38
noncomputable def f_X6_isWellFormed_7  : Nat → Mem → Int32 → Option (Int32 × Mem)
  | 0, _, _ => none
  | n + 1, M, l1 =>
    if 96 ≤ l1 then
      bret 1 M
    else
      if l1 ≤ 0 then
        f_X6_isWellFormed_30 (f_X6_isWellFormed_7  n) M l1
      else
        if (M 97 2) < (M 97 1) then
          f_X6_isWellFormed_30 (f_X6_isWellFormed_7  n) M l1
        else
          bret 1 M
set_option maxRecDepth 20000 in
theorem m_X6_isWellFormed_7 {k : KT} {q : Int32 × Mem} (hk : CX k cX6_isWellFormed RX6 2 (some .boolean) 7) (hq : RI k q) : ∀ (n : Nat) (M : Mem) (l1 : Int32) , GG k q (wM k M) 7 [(0, .ref (kh k + 97)), (1, .int l1)] [] (f_X6_isWellFormed_7  n M l1) := by
  intro n
  induction n with
  | zero => intros; exact GG_none
  | succ n ih =>
    intro M l1 
    rw [f_X6_isWellFormed_7]
    refine GG_iload_n hk (pc' := 8) 1 dX6_isWellFormed_7 rfl rfl rfl ?_
    refine GG_bipush hk (pc' := 10) 96 dX6_isWellFormed_8 rfl rfl ?_
    refine GG_icmp_ge hk 45 (pc' := 13) dX6_isWellFormed_10 rfl (by decide) (fun c1 => ?_) (fun c1 => ?_)
    · refine GG_iconst hk (pc' := 46) 1 dX6_isWellFormed_45 rfl rfl ?_
      exact GG_zret hk hq dX6_isWellFormed_46
    · refine GG_iload_n hk (pc' := 14) 1 dX6_isWellFormed_13 rfl rfl rfl ?_
      refine GG_if_le hk 30 (pc' := 17) dX6_isWellFormed_14 rfl (by decide) (fun c2 => ?_) (fun c2 => ?_)
      · exact m_X6_isWellFormed_30 hk hq (f_X6_isWellFormed_7  n) ih M l1 
      · refine GG_aload_n hk (pc' := 18) 0 dX6_isWellFormed_17 rfl rfl rfl ?_
        refine GG_get hk LC6 2 (v := .int (M 97 2)) (pc' := 21) tw_258 rfl rfl (by decide) rfl dX6_isWellFormed_18 rfl ?_
        refine GG_aload_n hk (pc' := 22) 0 dX6_isWellFormed_21 rfl rfl rfl ?_
        refine GG_get hk LC6 1 (v := .int (M 97 1)) (pc' := 25) tw_256 rfl rfl (by decide) rfl dX6_isWellFormed_22 rfl ?_
        refine GG_icmp_lt hk 30 (pc' := 28) dX6_isWellFormed_25 rfl (by decide) (fun c3 => ?_) (fun c3 => ?_)
        · exact m_X6_isWellFormed_30 hk hq (f_X6_isWellFormed_7  n) ih M l1 
        · refine GG_iconst hk (pc' := 29) 1 dX6_isWellFormed_28 rfl rfl ?_
          exact GG_zret hk hq dX6_isWellFormed_29
noncomputable def f_X6_isWellFormed (M : Mem)  : Option (Int32 × Mem) :=
    Option.bind (wrf M 97 2 0) fun M1 =>
    f_X6_isWellFormed_7  1000 M1 0
set_option maxRecDepth 20000 in
theorem m_X6_isWellFormed {k : KT} {q : Int32 × Mem} (hk : CX k cX6_isWellFormed RX6 2 (some .boolean) 7) (hq : RI k q) (M : Mem)   : GG k q (wM k M) 0 [(0, .ref (kh k + 97))] [] (f_X6_isWellFormed M ) := by
  unfold f_X6_isWellFormed
  refine GG_aload_n hk (pc' := 1) 0 dX6_isWellFormed_0 rfl rfl rfl ?_
  refine GG_iconst hk (pc' := 2) 0 dX6_isWellFormed_1 rfl rfl ?_
  refine GG_put hk LC6 2 (pc' := 5) tw_258 rfl rfl (by decide) rfl rfl (Nat.le_of_ble_eq_true rfl) (pv_6_2 _ _ _ _) dX6_isWellFormed_2 rfl (fun M1 e_M1 => ?_)
  refine GG_iconst hk (pc' := 6) 0 dX6_isWellFormed_5 rfl rfl ?_
  refine GG_istore_n hk (pc' := 7) [(1, .int 0), (0, .ref (kh k + 97))] dX6_isWellFormed_6 rfl rfl (by decide) rfl ?_
  refine GG_sub (L' := [(0, .ref (kh k + 97)), (1, .int 0)]) [1, 0] rfl ?_
  exact m_X6_isWellFormed_7 hk hq  1000 M1 0 
theorem c_X6_isWellFormed (l : Launch) (C : DD) (a : Nat) (M : Mem)   : CI l C (a) yX6_isWellFormed cX6_isWellFormed 2 .boolean 7 [.ref (a + 97)] M (f_X6_isWellFormed M ) := by
  refine CI_of RX6 (by decide +kernel) rfl (Nat.le_of_ble_eq_true rfl) (fun k q hk hq e1 e2 e3 => ?_)
  subst e1; subst e2; subst e3
  exact m_X6_isWellFormed hk hq M  

/-! SettingsInLayers$Scene.become(LSettingsInLayers$Scene;)V -/
noncomputable def f_X4_become (M : Mem) (s : Nat) (l1 : Nat) : Option Mem :=
    Option.bind (wrf M s 0 (M l1 0)) fun M1 =>
    Option.bind (acp 6 6 M1 (l1 + 1) 0 (s + 1) 0 6) fun M2 =>
    Option.bind (acp 6 6 M2 (l1 + 2) 0 (s + 2) 0 6) fun M3 =>
    Option.bind (acp 8 8 M3 (l1 + 3) 0 (s + 3) 0 8) fun M4 =>
    Option.bind (acp 6 6 M4 (l1 + 4) 0 (s + 4) 0 6) fun M5 =>
    Option.bind (acp 48 48 M5 (l1 + 5) 0 (s + 5) 0 48) fun M6 =>
    Option.bind (acp 48 48 M6 (l1 + 6) 0 (s + 6) 0 48) fun M7 =>
    Option.bind (acp 48 48 M7 (l1 + 7) 0 (s + 7) 0 48) fun M8 =>
    Option.bind (acp 192 192 M8 (l1 + 8) 0 (s + 8) 0 192) fun M9 =>
    Option.bind (acp 192 192 M9 (l1 + 9) 0 (s + 9) 0 192) fun M10 =>
    some M10
set_option maxRecDepth 20000 in
theorem m_X4_become {k : KT} {q : Mem} (hk : CX k cX4_become RX4 2 none 1) (hq : RV k q) (M : Mem) (s : Nat) (l1 : Nat) (h_s : okS s) (h_l1 : okS l1) : GG k q (wM k M) 0 [(0, .ref (kh k + s)), (1, .ref (kh k + l1))] [] (f_X4_become M s l1) := by
  unfold f_X4_become
  refine GG_aload_n hk (pc' := 1) 0 dX4_become_0 rfl rfl rfl ?_
  refine GG_aload_n hk (pc' := 2) 1 dX4_become_1 rfl rfl rfl ?_
  refine GG_get hk LC4 0 (v := .int (M l1 0)) (pc' := 5) tw_44 rfl (kdS h_l1) (by decide) rfl dX4_become_2 rfl ?_
  refine GG_put hk LC4 0 (pc' := 8) tw_44 rfl (kdS h_s) (by decide) rfl rfl (Nat.le_of_ble_eq_true rfl) (pv_4_0 _ _ _ _) dX4_become_5 rfl (fun M1 e_M1 => ?_)
  refine GG_aload_n hk (pc' := 9) 1 dX4_become_8 rfl rfl rfl ?_
  refine GG_get hk LC4 1 (v := .ref (kh k + (l1 + 1))) (pc' := 12) tw_46 rfl (kdS h_l1) (by decide) rfl dX4_become_9 rfl ?_
  refine GG_iconst hk (pc' := 13) 0 dX4_become_12 rfl rfl ?_
  refine GG_aload_n hk (pc' := 14) 0 dX4_become_13 rfl rfl rfl ?_
  refine GG_get hk LC4 1 (v := .ref (kh k + (s + 1))) (pc' := 17) tw_46 rfl (kdS h_s) (by decide) rfl dX4_become_14 rfl ?_
  refine GG_iconst hk (pc' := 18) 0 dX4_become_17 rfl rfl ?_
  refine GG_bipush hk (pc' := 20) 6 dX4_become_18 rfl rfl ?_
  refine GG_copy hk (st := []) (pc' := 23) tw_428 tw_430 tw_429 tw_10 (kdSa h_l1 0 (by decide)) (lnSa h_l1 0 (by decide) rfl) (kdSa h_s 0 (by decide)) (lnSa h_s 0 (by decide) rfl) (by omega) (Nat.le_of_ble_eq_true rfl) dX4_become_20 rfl (fun M2 e_M2 => ?_)
  refine GG_aload_n hk (pc' := 24) 1 dX4_become_23 rfl rfl rfl ?_
  refine GG_get hk LC4 2 (v := .ref (kh k + (l1 + 2))) (pc' := 27) tw_49 rfl (kdS h_l1) (by decide) rfl dX4_become_24 rfl ?_
  refine GG_iconst hk (pc' := 28) 0 dX4_become_27 rfl rfl ?_
  refine GG_aload_n hk (pc' := 29) 0 dX4_become_28 rfl rfl rfl ?_
  refine GG_get hk LC4 2 (v := .ref (kh k + (s + 2))) (pc' := 32) tw_49 rfl (kdS h_s) (by decide) rfl dX4_become_29 rfl ?_
  refine GG_iconst hk (pc' := 33) 0 dX4_become_32 rfl rfl ?_
  refine GG_bipush hk (pc' := 35) 6 dX4_become_33 rfl rfl ?_
  refine GG_copy hk (st := []) (pc' := 38) tw_428 tw_430 tw_429 tw_10 (kdSa h_l1 1 (by decide)) (lnSa h_l1 1 (by decide) rfl) (kdSa h_s 1 (by decide)) (lnSa h_s 1 (by decide) rfl) (by omega) (Nat.le_of_ble_eq_true rfl) dX4_become_35 rfl (fun M3 e_M3 => ?_)
  refine GG_aload_n hk (pc' := 39) 1 dX4_become_38 rfl rfl rfl ?_
  refine GG_get hk LC4 3 (v := .ref (kh k + (l1 + 3))) (pc' := 42) tw_52 rfl (kdS h_l1) (by decide) rfl dX4_become_39 rfl ?_
  refine GG_iconst hk (pc' := 43) 0 dX4_become_42 rfl rfl ?_
  refine GG_aload_n hk (pc' := 44) 0 dX4_become_43 rfl rfl rfl ?_
  refine GG_get hk LC4 3 (v := .ref (kh k + (s + 3))) (pc' := 47) tw_52 rfl (kdS h_s) (by decide) rfl dX4_become_44 rfl ?_
  refine GG_iconst hk (pc' := 48) 0 dX4_become_47 rfl rfl ?_
  refine GG_bipush hk (pc' := 50) 8 dX4_become_48 rfl rfl ?_
  refine GG_copy hk (st := []) (pc' := 53) tw_428 tw_430 tw_429 tw_10 (kdSa h_l1 2 (by decide)) (lnSa h_l1 2 (by decide) rfl) (kdSa h_s 2 (by decide)) (lnSa h_s 2 (by decide) rfl) (by omega) (Nat.le_of_ble_eq_true rfl) dX4_become_50 rfl (fun M4 e_M4 => ?_)
  refine GG_aload_n hk (pc' := 54) 1 dX4_become_53 rfl rfl rfl ?_
  refine GG_get hk LC4 4 (v := .ref (kh k + (l1 + 4))) (pc' := 57) tw_56 rfl (kdS h_l1) (by decide) rfl dX4_become_54 rfl ?_
  refine GG_iconst hk (pc' := 58) 0 dX4_become_57 rfl rfl ?_
  refine GG_aload_n hk (pc' := 59) 0 dX4_become_58 rfl rfl rfl ?_
  refine GG_get hk LC4 4 (v := .ref (kh k + (s + 4))) (pc' := 62) tw_56 rfl (kdS h_s) (by decide) rfl dX4_become_59 rfl ?_
  refine GG_iconst hk (pc' := 63) 0 dX4_become_62 rfl rfl ?_
  refine GG_bipush hk (pc' := 65) 6 dX4_become_63 rfl rfl ?_
  refine GG_copy hk (st := []) (pc' := 68) tw_428 tw_430 tw_429 tw_10 (kdSa h_l1 3 (by decide)) (lnSa h_l1 3 (by decide) rfl) (kdSa h_s 3 (by decide)) (lnSa h_s 3 (by decide) rfl) (by omega) (Nat.le_of_ble_eq_true rfl) dX4_become_65 rfl (fun M5 e_M5 => ?_)
  refine GG_aload_n hk (pc' := 69) 1 dX4_become_68 rfl rfl rfl ?_
  refine GG_get hk LC4 5 (v := .ref (kh k + (l1 + 5))) (pc' := 72) tw_58 rfl (kdS h_l1) (by decide) rfl dX4_become_69 rfl ?_
  refine GG_iconst hk (pc' := 73) 0 dX4_become_72 rfl rfl ?_
  refine GG_aload_n hk (pc' := 74) 0 dX4_become_73 rfl rfl rfl ?_
  refine GG_get hk LC4 5 (v := .ref (kh k + (s + 5))) (pc' := 77) tw_58 rfl (kdS h_s) (by decide) rfl dX4_become_74 rfl ?_
  refine GG_iconst hk (pc' := 78) 0 dX4_become_77 rfl rfl ?_
  refine GG_bipush hk (pc' := 80) 48 dX4_become_78 rfl rfl ?_
  refine GG_copy hk (st := []) (pc' := 83) tw_428 tw_430 tw_429 tw_10 (kdSa h_l1 4 (by decide)) (lnSa h_l1 4 (by decide) rfl) (kdSa h_s 4 (by decide)) (lnSa h_s 4 (by decide) rfl) (by omega) (Nat.le_of_ble_eq_true rfl) dX4_become_80 rfl (fun M6 e_M6 => ?_)
  refine GG_aload_n hk (pc' := 84) 1 dX4_become_83 rfl rfl rfl ?_
  refine GG_get hk LC4 6 (v := .ref (kh k + (l1 + 6))) (pc' := 87) tw_62 rfl (kdS h_l1) (by decide) rfl dX4_become_84 rfl ?_
  refine GG_iconst hk (pc' := 88) 0 dX4_become_87 rfl rfl ?_
  refine GG_aload_n hk (pc' := 89) 0 dX4_become_88 rfl rfl rfl ?_
  refine GG_get hk LC4 6 (v := .ref (kh k + (s + 6))) (pc' := 92) tw_62 rfl (kdS h_s) (by decide) rfl dX4_become_89 rfl ?_
  refine GG_iconst hk (pc' := 93) 0 dX4_become_92 rfl rfl ?_
  refine GG_bipush hk (pc' := 95) 48 dX4_become_93 rfl rfl ?_
  refine GG_copy hk (st := []) (pc' := 98) tw_428 tw_430 tw_429 tw_10 (kdSa h_l1 5 (by decide)) (lnSa h_l1 5 (by decide) rfl) (kdSa h_s 5 (by decide)) (lnSa h_s 5 (by decide) rfl) (by omega) (Nat.le_of_ble_eq_true rfl) dX4_become_95 rfl (fun M7 e_M7 => ?_)
  refine GG_aload_n hk (pc' := 99) 1 dX4_become_98 rfl rfl rfl ?_
  refine GG_get hk LC4 7 (v := .ref (kh k + (l1 + 7))) (pc' := 102) tw_65 rfl (kdS h_l1) (by decide) rfl dX4_become_99 rfl ?_
  refine GG_iconst hk (pc' := 103) 0 dX4_become_102 rfl rfl ?_
  refine GG_aload_n hk (pc' := 104) 0 dX4_become_103 rfl rfl rfl ?_
  refine GG_get hk LC4 7 (v := .ref (kh k + (s + 7))) (pc' := 107) tw_65 rfl (kdS h_s) (by decide) rfl dX4_become_104 rfl ?_
  refine GG_iconst hk (pc' := 108) 0 dX4_become_107 rfl rfl ?_
  refine GG_bipush hk (pc' := 110) 48 dX4_become_108 rfl rfl ?_
  refine GG_copy hk (st := []) (pc' := 113) tw_428 tw_430 tw_429 tw_10 (kdSa h_l1 6 (by decide)) (lnSa h_l1 6 (by decide) rfl) (kdSa h_s 6 (by decide)) (lnSa h_s 6 (by decide) rfl) (by omega) (Nat.le_of_ble_eq_true rfl) dX4_become_110 rfl (fun M8 e_M8 => ?_)
  refine GG_aload_n hk (pc' := 114) 1 dX4_become_113 rfl rfl rfl ?_
  refine GG_get hk LC4 8 (v := .ref (kh k + (l1 + 8))) (pc' := 117) tw_68 rfl (kdS h_l1) (by decide) rfl dX4_become_114 rfl ?_
  refine GG_iconst hk (pc' := 118) 0 dX4_become_117 rfl rfl ?_
  refine GG_aload_n hk (pc' := 119) 0 dX4_become_118 rfl rfl rfl ?_
  refine GG_get hk LC4 8 (v := .ref (kh k + (s + 8))) (pc' := 122) tw_68 rfl (kdS h_s) (by decide) rfl dX4_become_119 rfl ?_
  refine GG_iconst hk (pc' := 123) 0 dX4_become_122 rfl rfl ?_
  refine GG_sipush hk (pc' := 126) 192 dX4_become_123 rfl rfl ?_
  refine GG_copy hk (st := []) (pc' := 129) tw_428 tw_430 tw_429 tw_10 (kdSa h_l1 7 (by decide)) (lnSa h_l1 7 (by decide) rfl) (kdSa h_s 7 (by decide)) (lnSa h_s 7 (by decide) rfl) (by omega) (Nat.le_of_ble_eq_true rfl) dX4_become_126 rfl (fun M9 e_M9 => ?_)
  refine GG_aload_n hk (pc' := 130) 1 dX4_become_129 rfl rfl rfl ?_
  refine GG_get hk LC4 9 (v := .ref (kh k + (l1 + 9))) (pc' := 133) tw_70 rfl (kdS h_l1) (by decide) rfl dX4_become_130 rfl ?_
  refine GG_iconst hk (pc' := 134) 0 dX4_become_133 rfl rfl ?_
  refine GG_aload_n hk (pc' := 135) 0 dX4_become_134 rfl rfl rfl ?_
  refine GG_get hk LC4 9 (v := .ref (kh k + (s + 9))) (pc' := 138) tw_70 rfl (kdS h_s) (by decide) rfl dX4_become_135 rfl ?_
  refine GG_iconst hk (pc' := 139) 0 dX4_become_138 rfl rfl ?_
  refine GG_sipush hk (pc' := 142) 192 dX4_become_139 rfl rfl ?_
  refine GG_copy hk (st := []) (pc' := 145) tw_428 tw_430 tw_429 tw_10 (kdSa h_l1 8 (by decide)) (lnSa h_l1 8 (by decide) rfl) (kdSa h_s 8 (by decide)) (lnSa h_s 8 (by decide) rfl) (by omega) (Nat.le_of_ble_eq_true rfl) dX4_become_142 rfl (fun M10 e_M10 => ?_)
  exact GG_vret hk hq dX4_become_145
theorem c_X4_become (l : Launch) (C : DD) (a : Nat) (M : Mem) (s : Nat) (l1 : Nat) (h_s : okS s) (h_l1 : okS l1) : CV l C (a) yX4_become cX4_become 2 1 [.ref (a + s), .ref (a + l1)] M (f_X4_become M s l1) := by
  refine CV_of RX4 (by decide +kernel) rfl (Nat.le_of_ble_eq_true rfl) (fun k q hk hq e1 e2 e3 => ?_)
  subst e1; subst e2; subst e3
  exact m_X4_become hk hq M s l1 h_s h_l1

/-! SettingsInLayers$Scene.rank(I)I -/
noncomputable def f_X4_rank_45  (M : Mem) (l0 : Nat) (l1 : Int32) : Option (Int32 × Mem) :=
    Option.bind (rd 6 (M (l0 + 2)) l1) fun v1 =>
    some (((l1 + 10) + v1), M)
set_option maxRecDepth 20000 in
theorem m_X4_rank_45 {k : KT} {q : Int32 × Mem} (hk : CX k cX4_rank RX4 2 (some .int) 1) (hq : RI k q) (M : Mem) (l0 : Nat) (l1 : Int32) (h_l0 : okS l0) : GG k q (wM k M) 45 [(0, .ref (kh k + l0)), (1, .int l1)] [] (f_X4_rank_45  M l0 l1) := by
  unfold f_X4_rank_45
  refine GG_iload_n hk (pc' := 46) 1 dX4_rank_45 rfl rfl rfl ?_
  refine GG_bipush hk (pc' := 48) 10 dX4_rank_46 rfl rfl ?_
  refine GG_iadd hk (pc' := 49) dX4_rank_48 rfl ?_
  refine GG_aload_n hk (pc' := 50) 0 dX4_rank_49 rfl rfl rfl ?_
  refine GG_get hk LC4 2 (v := .ref (kh k + (l0 + 2))) (pc' := 53) tw_49 rfl (kdS h_l0) (by decide) rfl dX4_rank_50 rfl ?_
  refine GG_iload_n hk (pc' := 54) 1 dX4_rank_53 rfl rfl rfl ?_
  refine GG_iald hk (pc' := 55) (kdSa h_l0 1 (by decide)) (lnSa h_l0 1 (by decide) rfl) dX4_rank_54 rfl (fun v1 e_v1 => ?_)
  refine GG_iadd hk (pc' := 56) dX4_rank_55 rfl ?_
  exact GG_iret hk hq dX4_rank_56
noncomputable def f_X4_rank (M : Mem) (s : Nat) (l1 : Int32) : Option (Int32 × Mem) :=
    Option.bind (rd 6 (M (s + 1)) l1) fun v1 =>
    if v1 = 1 then
      some ((l1 + 10), M)
    else
      if v1 = 2 then
        f_X4_rank_45  M s l1
      else
        if v1 = 3 then
          some ((l1 + 110), M)
        else
          if v1 = 4 then
            some ((l1 - 20), M)
          else
            if v1 = 5 then
              f_X4_rank_45  M s l1
            else
              some (l1, M)
set_option maxRecDepth 20000 in
theorem m_X4_rank {k : KT} {q : Int32 × Mem} (hk : CX k cX4_rank RX4 2 (some .int) 1) (hq : RI k q) (M : Mem) (s : Nat) (l1 : Int32) (h_s : okS s) : GG k q (wM k M) 0 [(0, .ref (kh k + s)), (1, .int l1)] [] (f_X4_rank M s l1) := by
  unfold f_X4_rank
  refine GG_aload_n hk (pc' := 1) 0 dX4_rank_0 rfl rfl rfl ?_
  refine GG_get hk LC4 1 (v := .ref (kh k + (s + 1))) (pc' := 4) tw_46 rfl (kdS h_s) (by decide) rfl dX4_rank_1 rfl ?_
  refine GG_iload_n hk (pc' := 5) 1 dX4_rank_4 rfl rfl rfl ?_
  refine GG_iald hk (pc' := 6) (kdSa h_s 0 (by decide)) (lnSa h_s 0 (by decide) rfl) dX4_rank_5 rfl (fun v1 e_v1 => ?_)
  
  refine GG_if (fun c2 => ?_) (fun c2 => ?_)
  · refine GG_tabIn hk 40 1 c2 dX4_rank_6 (by decide) (by decide) rfl (by decide) ?_
    refine GG_iload_n hk (pc' := 41) 1 dX4_rank_40 rfl rfl rfl ?_
    refine GG_bipush hk (pc' := 43) 10 dX4_rank_41 rfl rfl ?_
    refine GG_iadd hk (pc' := 44) dX4_rank_43 rfl ?_
    exact GG_iret hk hq dX4_rank_44
  · refine GG_if (fun c3 => ?_) (fun c3 => ?_)
    · refine GG_tabIn hk 45 2 c3 dX4_rank_6 (by decide) (by decide) rfl (by decide) ?_
      exact m_X4_rank_45 hk hq  M s l1 h_s
    · refine GG_if (fun c4 => ?_) (fun c4 => ?_)
      · refine GG_tabIn hk 57 3 c4 dX4_rank_6 (by decide) (by decide) rfl (by decide) ?_
        refine GG_iload_n hk (pc' := 58) 1 dX4_rank_57 rfl rfl rfl ?_
        refine GG_bipush hk (pc' := 60) 110 dX4_rank_58 rfl rfl ?_
        refine GG_iadd hk (pc' := 61) dX4_rank_60 rfl ?_
        exact GG_iret hk hq dX4_rank_61
      · refine GG_if (fun c5 => ?_) (fun c5 => ?_)
        · refine GG_tabIn hk 62 4 c5 dX4_rank_6 (by decide) (by decide) rfl (by decide) ?_
          refine GG_iload_n hk (pc' := 63) 1 dX4_rank_62 rfl rfl rfl ?_
          refine GG_bipush hk (pc' := 65) 20 dX4_rank_63 rfl rfl ?_
          refine GG_isub hk (pc' := 66) dX4_rank_65 rfl ?_
          exact GG_iret hk hq dX4_rank_66
        · refine GG_if (fun c6 => ?_) (fun c6 => ?_)
          · refine GG_tabIn hk 45 5 c6 dX4_rank_6 (by decide) (by decide) rfl (by decide) ?_
            exact m_X4_rank_45 hk hq  M s l1 h_s
          · refine GG_tabOut hk 67 dX4_rank_6 (sw_out_1_5 c2 c3 c4 c5 c6) (by decide) ?_
            refine GG_iload_n hk (pc' := 68) 1 dX4_rank_67 rfl rfl rfl ?_
            exact GG_iret hk hq dX4_rank_68
theorem c_X4_rank (l : Launch) (C : DD) (a : Nat) (M : Mem) (s : Nat) (l1 : Int32) (h_s : okS s) : CI l C (a) yX4_rank cX4_rank 2 .int 1 [.ref (a + s), .int l1] M (f_X4_rank M s l1) := by
  refine CI_of RX4 (by decide +kernel) rfl (Nat.le_of_ble_eq_true rfl) (fun k q hk hq e1 e2 e3 => ?_)
  subst e1; subst e2; subst e3
  exact m_X4_rank hk hq M s l1 h_s

/-! SettingsInLayers$Scene.arrange()V -/
noncomputable def f_X4_arrange_54  (k2 : Mem → Nat → Int32 → Option Mem) (M : Mem) (l0 : Nat) (l1 : Int32) (l2 : Int32) : Option Mem :=
    Option.bind (wra 6 M (l0 + 4) l2 l1) fun M1 =>
    k2 M1 l0 (l1 + 1)
set_option maxRecDepth 20000 in
theorem m_X4_arrange_54 {k : KT} {q : Mem} (hk : CX k cX4_arrange RX4 3 none 2) (hq : RV k q) (k2 : Mem → Nat → Int32 → Option Mem) (hk2 : ∀ (M : Mem) (l0 : Nat) (l1 : Int32) (h_l0 : okS l0), GG k q (wM k M) 2 [(0, .ref (kh k + l0)), (1, .int l1)] [] (k2 M l0 l1)) (M : Mem) (l0 : Nat) (l1 : Int32) (l2 : Int32) (h_l0 : okS l0) : GG k q (wM k M) 54 [(0, .ref (kh k + l0)), (1, .int l1), (2, .int l2)] [] (f_X4_arrange_54 k2 M l0 l1 l2) := by
  unfold f_X4_arrange_54
  refine GG_aload_n hk (pc' := 55) 0 dX4_arrange_54 rfl rfl rfl ?_
  refine GG_get hk LC4 4 (v := .ref (kh k + (l0 + 4))) (pc' := 58) tw_56 rfl (kdS h_l0) (by decide) rfl dX4_arrange_55 rfl ?_
  refine GG_iload_n hk (pc' := 59) 2 dX4_arrange_58 rfl rfl rfl ?_
  refine GG_iload_n hk (pc' := 60) 1 dX4_arrange_59 rfl rfl rfl ?_
  refine GG_iast hk (pc' := 61) (kdSa h_l0 3 (by decide)) (lnSa h_l0 3 (by decide) rfl) dX4_arrange_60 rfl (fun M1 e_M1 => ?_)
  refine GG_iinc hk (pc' := 64) 1 (l1 + 1) [(1, .int (l1 + 1)), (0, .ref (kh k + l0)), (2, .int l2)] dX4_arrange_61 rfl rfl rfl (by decide) rfl ?_
  refine GG_goto hk 2 dX4_arrange_64 (by decide) ?_
  refine GG_sub (L' := [(0, .ref (kh k + l0)), (1, .int (l1 + 1))]) [1, 0] rfl ?_
  exact hk2 M1 l0 (l1 + 1) h_l0
noncomputable def f_X4_arrange_10  (k2 : Mem → Nat → Int32 → Option Mem) : Nat → Mem → Nat → Int32 → Int32 → Option Mem
  | 0, _, _, _, _ => none
  | n + 1, M, l0, l1, l2 =>
    if l2 ≤ 0 then
      f_X4_arrange_54 k2 M l0 l1 l2
    else
      Option.bind (rd 6 (M (l0 + 4)) (l2 - 1)) fun v2 =>
      Option.bind (f_X4_rank M l0 v2) fun z3 =>
      Option.bind (f_X4_rank z3.2 l0 l1) fun z4 =>
      if z3.1 ≤ z4.1 then
        f_X4_arrange_54 k2 z4.2 l0 l1 l2
      else
        Option.bind (rd 6 (z4.2 (l0 + 4)) (l2 - 1)) fun v6 =>
        Option.bind (wra 6 z4.2 (l0 + 4) l2 v6) fun M7 =>
        f_X4_arrange_10 k2 n M7 l0 l1 (l2 + (-1))
set_option maxRecDepth 20000 in
theorem m_X4_arrange_10 {k : KT} {q : Mem} (hk : CX k cX4_arrange RX4 3 none 2) (hq : RV k q) (k2 : Mem → Nat → Int32 → Option Mem) (hk2 : ∀ (M : Mem) (l0 : Nat) (l1 : Int32) (h_l0 : okS l0), GG k q (wM k M) 2 [(0, .ref (kh k + l0)), (1, .int l1)] [] (k2 M l0 l1)) : ∀ (n : Nat) (M : Mem) (l0 : Nat) (l1 : Int32) (l2 : Int32) (h_l0 : okS l0), GG k q (wM k M) 10 [(0, .ref (kh k + l0)), (1, .int l1), (2, .int l2)] [] (f_X4_arrange_10 k2 n M l0 l1 l2) := by
  intro n
  induction n with
  | zero => intros; exact GG_none
  | succ n ih =>
    intro M l0 l1 l2 h_l0
    rw [f_X4_arrange_10]
    refine GG_iload_n hk (pc' := 11) 2 dX4_arrange_10 rfl rfl rfl ?_
    refine GG_if_le hk 54 (pc' := 14) dX4_arrange_11 rfl (by decide) (fun c1 => ?_) (fun c1 => ?_)
    · exact m_X4_arrange_54 hk hq k2 hk2 M l0 l1 l2 h_l0
    · refine GG_aload_n hk (pc' := 15) 0 dX4_arrange_14 rfl rfl rfl ?_
      refine GG_aload_n hk (pc' := 16) 0 dX4_arrange_15 rfl rfl rfl ?_
      refine GG_get hk LC4 4 (v := .ref (kh k + (l0 + 4))) (pc' := 19) tw_56 rfl (kdS h_l0) (by decide) rfl dX4_arrange_16 rfl ?_
      refine GG_iload_n hk (pc' := 20) 2 dX4_arrange_19 rfl rfl rfl ?_
      refine GG_iconst hk (pc' := 21) 1 dX4_arrange_20 rfl rfl ?_
      refine GG_isub hk (pc' := 22) dX4_arrange_21 rfl ?_
      refine GG_iald hk (pc' := 23) (kdSa h_l0 3 (by decide)) (lnSa h_l0 3 (by decide) rfl) dX4_arrange_22 rfl (fun v2 e_v2 => ?_)
      refine GG_callVi hk (st := []) (pc' := 26) mf_X4_rank mv_X4_rank LC4 rfl (c_X4_rank _ _ _ M l0 v2 h_l0) (by omega) tw_40 (kdS h_l0) rfl rfl (Nat.le_of_ble_eq_true rfl) dX4_arrange_23 rfl (fun z3 e_z3 => ?_)
      refine GG_aload_n hk (pc' := 27) 0 dX4_arrange_26 rfl rfl rfl ?_
      refine GG_iload_n hk (pc' := 28) 1 dX4_arrange_27 rfl rfl rfl ?_
      refine GG_callVi hk (st := [.int z3.1]) (pc' := 31) mf_X4_rank mv_X4_rank LC4 rfl (c_X4_rank _ _ _ z3.2 l0 l1 h_l0) (by omega) tw_40 (kdS h_l0) rfl rfl (Nat.le_of_ble_eq_true rfl) dX4_arrange_28 rfl (fun z4 e_z4 => ?_)
      refine GG_icmp_le hk 54 (pc' := 34) dX4_arrange_31 rfl (by decide) (fun c5 => ?_) (fun c5 => ?_)
      · exact m_X4_arrange_54 hk hq k2 hk2 z4.2 l0 l1 l2 h_l0
      · refine GG_aload_n hk (pc' := 35) 0 dX4_arrange_34 rfl rfl rfl ?_
        refine GG_get hk LC4 4 (v := .ref (kh k + (l0 + 4))) (pc' := 38) tw_56 rfl (kdS h_l0) (by decide) rfl dX4_arrange_35 rfl ?_
        refine GG_iload_n hk (pc' := 39) 2 dX4_arrange_38 rfl rfl rfl ?_
        refine GG_aload_n hk (pc' := 40) 0 dX4_arrange_39 rfl rfl rfl ?_
        refine GG_get hk LC4 4 (v := .ref (kh k + (l0 + 4))) (pc' := 43) tw_56 rfl (kdS h_l0) (by decide) rfl dX4_arrange_40 rfl ?_
        refine GG_iload_n hk (pc' := 44) 2 dX4_arrange_43 rfl rfl rfl ?_
        refine GG_iconst hk (pc' := 45) 1 dX4_arrange_44 rfl rfl ?_
        refine GG_isub hk (pc' := 46) dX4_arrange_45 rfl ?_
        refine GG_iald hk (pc' := 47) (kdSa h_l0 3 (by decide)) (lnSa h_l0 3 (by decide) rfl) dX4_arrange_46 rfl (fun v6 e_v6 => ?_)
        refine GG_iast hk (pc' := 48) (kdSa h_l0 3 (by decide)) (lnSa h_l0 3 (by decide) rfl) dX4_arrange_47 rfl (fun M7 e_M7 => ?_)
        refine GG_iinc hk (pc' := 51) 2 (l2 + (-1)) [(2, .int (l2 + (-1))), (0, .ref (kh k + l0)), (1, .int l1)] dX4_arrange_48 rfl rfl rfl (by decide) rfl ?_
        refine GG_goto hk 10 dX4_arrange_51 (by decide) ?_
        refine GG_sub (L' := [(0, .ref (kh k + l0)), (1, .int l1), (2, .int (l2 + (-1)))]) [1, 2, 0] rfl ?_
        exact ih M7 l0 l1 (l2 + (-1)) h_l0
noncomputable def f_X4_arrange_2  : Nat → Mem → Nat → Int32 → Option Mem
  | 0, _, _, _ => none
  | n + 1, M, l0, l1 =>
    if 6 ≤ l1 then
      some M
    else
      f_X4_arrange_10 (f_X4_arrange_2  n) 1000 M l0 l1 l1
set_option maxRecDepth 20000 in
theorem m_X4_arrange_2 {k : KT} {q : Mem} (hk : CX k cX4_arrange RX4 3 none 2) (hq : RV k q) : ∀ (n : Nat) (M : Mem) (l0 : Nat) (l1 : Int32) (h_l0 : okS l0), GG k q (wM k M) 2 [(0, .ref (kh k + l0)), (1, .int l1)] [] (f_X4_arrange_2  n M l0 l1) := by
  intro n
  induction n with
  | zero => intros; exact GG_none
  | succ n ih =>
    intro M l0 l1 h_l0
    rw [f_X4_arrange_2]
    refine GG_iload_n hk (pc' := 3) 1 dX4_arrange_2 rfl rfl rfl ?_
    refine GG_bipush hk (pc' := 5) 6 dX4_arrange_3 rfl rfl ?_
    refine GG_icmp_ge hk 67 (pc' := 8) dX4_arrange_5 rfl (by decide) (fun c1 => ?_) (fun c1 => ?_)
    · exact GG_vret hk hq dX4_arrange_67
    · refine GG_iload_n hk (pc' := 9) 1 dX4_arrange_8 rfl rfl rfl ?_
      refine GG_istore_n hk (pc' := 10) [(2, .int l1), (0, .ref (kh k + l0)), (1, .int l1)] dX4_arrange_9 rfl rfl (by decide) rfl ?_
      refine GG_sub (L' := [(0, .ref (kh k + l0)), (1, .int l1), (2, .int l1)]) [1, 2, 0] rfl ?_
      exact m_X4_arrange_10 hk hq (f_X4_arrange_2  n) ih 1000 M l0 l1 l1 h_l0
noncomputable def f_X4_arrange (M : Mem) (s : Nat) : Option Mem :=
    f_X4_arrange_2  1000 M s 0
set_option maxRecDepth 20000 in
theorem m_X4_arrange {k : KT} {q : Mem} (hk : CX k cX4_arrange RX4 3 none 2) (hq : RV k q) (M : Mem) (s : Nat) (h_s : okS s) : GG k q (wM k M) 0 [(0, .ref (kh k + s))] [] (f_X4_arrange M s) := by
  unfold f_X4_arrange
  refine GG_iconst hk (pc' := 1) 0 dX4_arrange_0 rfl rfl ?_
  refine GG_istore_n hk (pc' := 2) [(1, .int 0), (0, .ref (kh k + s))] dX4_arrange_1 rfl rfl (by decide) rfl ?_
  refine GG_sub (L' := [(0, .ref (kh k + s)), (1, .int 0)]) [1, 0] rfl ?_
  exact m_X4_arrange_2 hk hq  1000 M s 0 h_s
theorem c_X4_arrange (l : Launch) (C : DD) (a : Nat) (M : Mem) (s : Nat) (h_s : okS s) : CV l C (a) yX4_arrange cX4_arrange 3 2 [.ref (a + s)] M (f_X4_arrange M s) := by
  refine CV_of RX4 (by decide +kernel) rfl (Nat.le_of_ble_eq_true rfl) (fun k q hk hq e1 e2 e3 => ?_)
  subst e1; subst e2; subst e3
  exact m_X4_arrange hk hq M s h_s

/-! SettingsInLayers$Scene.putKind(III)V -/
noncomputable def f_X4_putKind (M : Mem) (s : Nat) (l1 : Int32) (l2 : Int32) (l3 : Int32) : Option Mem :=
    Option.bind (wra 6 M (s + 1) l1 l2) fun M1 =>
    Option.bind (wra 6 M1 (s + 2) l1 l3) fun M2 =>
    Option.bind (f_X4_arrange M2 s) fun z3 =>
    some z3
set_option maxRecDepth 20000 in
theorem m_X4_putKind {k : KT} {q : Mem} (hk : CX k cX4_putKind RX4 4 none 3) (hq : RV k q) (M : Mem) (s : Nat) (l1 : Int32) (l2 : Int32) (l3 : Int32) (h_s : okS s) : GG k q (wM k M) 0 [(0, .ref (kh k + s)), (1, .int l1), (2, .int l2), (3, .int l3)] [] (f_X4_putKind M s l1 l2 l3) := by
  unfold f_X4_putKind
  refine GG_aload_n hk (pc' := 1) 0 dX4_putKind_0 rfl rfl rfl ?_
  refine GG_get hk LC4 1 (v := .ref (kh k + (s + 1))) (pc' := 4) tw_46 rfl (kdS h_s) (by decide) rfl dX4_putKind_1 rfl ?_
  refine GG_iload_n hk (pc' := 5) 1 dX4_putKind_4 rfl rfl rfl ?_
  refine GG_iload_n hk (pc' := 6) 2 dX4_putKind_5 rfl rfl rfl ?_
  refine GG_iast hk (pc' := 7) (kdSa h_s 0 (by decide)) (lnSa h_s 0 (by decide) rfl) dX4_putKind_6 rfl (fun M1 e_M1 => ?_)
  refine GG_aload_n hk (pc' := 8) 0 dX4_putKind_7 rfl rfl rfl ?_
  refine GG_get hk LC4 2 (v := .ref (kh k + (s + 2))) (pc' := 11) tw_49 rfl (kdS h_s) (by decide) rfl dX4_putKind_8 rfl ?_
  refine GG_iload_n hk (pc' := 12) 1 dX4_putKind_11 rfl rfl rfl ?_
  refine GG_iload_n hk (pc' := 13) 3 dX4_putKind_12 rfl rfl rfl ?_
  refine GG_iast hk (pc' := 14) (kdSa h_s 1 (by decide)) (lnSa h_s 1 (by decide) rfl) dX4_putKind_13 rfl (fun M2 e_M2 => ?_)
  refine GG_aload_n hk (pc' := 15) 0 dX4_putKind_14 rfl rfl rfl ?_
  refine GG_callVv hk (st := []) (pc' := 18) mf_X4_arrange mv_X4_arrange LC4 rfl (c_X4_arrange _ _ _ M2 s h_s) (by omega) tw_36 (kdS h_s) rfl rfl (Nat.le_of_ble_eq_true rfl) dX4_putKind_15 rfl (fun z3 e_z3 => ?_)
  exact GG_vret hk hq dX4_putKind_18
theorem c_X4_putKind (l : Launch) (C : DD) (a : Nat) (M : Mem) (s : Nat) (l1 : Int32) (l2 : Int32) (l3 : Int32) (h_s : okS s) : CV l C (a) yX4_putKind cX4_putKind 4 3 [.ref (a + s), .int l1, .int l2, .int l3] M (f_X4_putKind M s l1 l2 l3) := by
  refine CV_of RX4 (by decide +kernel) rfl (Nat.le_of_ble_eq_true rfl) (fun k q hk hq e1 e2 e3 => ?_)
  subst e1; subst e2; subst e3
  exact m_X4_putKind hk hq M s l1 l2 l3 h_s

/-! SettingsInLayers$Statement.applyKind(LSettingsInLayers$Scene;)Z -/
noncomputable def f_X5_applyKind (M : Mem) (l1 : Nat) : Option (Int32 × Mem) :=
    Option.bind (f_X7_noLayer M (M 99 1)) fun z1 =>
    if ¬ z1.1 = 0 then
      bret 0 z1.2
    else
      if (z1.2 99 3) < 6 then
        Option.bind (f_X4_putKind z1.2 l1 (z1.2 99 1) (z1.2 99 3) (z1.2 99 4)) fun z4 =>
        bret 1 z4
      else
        bret 0 z1.2
set_option maxRecDepth 20000 in
theorem m_X5_applyKind {k : KT} {q : Int32 × Mem} (hk : CX k cX5_applyKind RX5 2 (some .boolean) 4) (hq : RI k q) (M : Mem) (l1 : Nat) (h_l1 : okS l1) : GG k q (wM k M) 0 [(0, .ref (kh k + 99)), (1, .ref (kh k + l1))] [] (f_X5_applyKind M l1) := by
  unfold f_X5_applyKind
  refine GG_aload_n hk (pc' := 1) 0 dX5_applyKind_0 rfl rfl rfl ?_
  refine GG_get hk LC5 1 (v := .int (M 99 1)) (pc' := 4) tw_205 rfl rfl (by decide) rfl dX5_applyKind_1 rfl ?_
  refine GG_callNi hk (st := []) (pc' := 7) mf_X7_noLayer tw_441 (c_X7_noLayer _ _ _ M (M 99 1) ) (by omega) (by decide) rfl rfl (Nat.le_of_ble_eq_true rfl) dX5_applyKind_4 rfl (fun z1 e_z1 => ?_)
  refine GG_if_ne hk 19 (pc' := 10) dX5_applyKind_7 rfl (by decide) (fun c2 => ?_) (fun c2 => ?_)
  · refine GG_iconst hk (pc' := 20) 0 dX5_applyKind_19 rfl rfl ?_
    exact GG_zret hk hq dX5_applyKind_20
  · refine GG_aload_n hk (pc' := 11) 0 dX5_applyKind_10 rfl rfl rfl ?_
    refine GG_get hk LC5 3 (v := .int (z1.2 99 3)) (pc' := 14) tw_209 rfl rfl (by decide) rfl dX5_applyKind_11 rfl ?_
    refine GG_bipush hk (pc' := 16) 6 dX5_applyKind_14 rfl rfl ?_
    refine GG_icmp_lt hk 21 (pc' := 19) dX5_applyKind_16 rfl (by decide) (fun c3 => ?_) (fun c3 => ?_)
    · refine GG_aload_n hk (pc' := 22) 1 dX5_applyKind_21 rfl rfl rfl ?_
      refine GG_aload_n hk (pc' := 23) 0 dX5_applyKind_22 rfl rfl rfl ?_
      refine GG_get hk LC5 1 (v := .int (z1.2 99 1)) (pc' := 26) tw_205 rfl rfl (by decide) rfl dX5_applyKind_23 rfl ?_
      refine GG_aload_n hk (pc' := 27) 0 dX5_applyKind_26 rfl rfl rfl ?_
      refine GG_get hk LC5 3 (v := .int (z1.2 99 3)) (pc' := 30) tw_209 rfl rfl (by decide) rfl dX5_applyKind_27 rfl ?_
      refine GG_aload_n hk (pc' := 31) 0 dX5_applyKind_30 rfl rfl rfl ?_
      refine GG_get hk LC5 4 (v := .int (z1.2 99 4)) (pc' := 34) tw_211 rfl rfl (by decide) rfl dX5_applyKind_31 rfl ?_
      refine GG_callVv hk (st := []) (pc' := 37) mf_X4_putKind mv_X4_putKind LC4 rfl (c_X4_putKind _ _ _ z1.2 l1 (z1.2 99 1) (z1.2 99 3) (z1.2 99 4) h_l1) (by omega) tw_443 (kdS h_l1) rfl rfl (Nat.le_of_ble_eq_true rfl) dX5_applyKind_34 rfl (fun z4 e_z4 => ?_)
      refine GG_iconst hk (pc' := 38) 1 dX5_applyKind_37 rfl rfl ?_
      exact GG_zret hk hq dX5_applyKind_38
    · refine GG_iconst hk (pc' := 20) 0 dX5_applyKind_19 rfl rfl ?_
      exact GG_zret hk hq dX5_applyKind_20
theorem c_X5_applyKind (l : Launch) (C : DD) (a : Nat) (M : Mem) (l1 : Nat) (h_l1 : okS l1) : CI l C (a) yX5_applyKind cX5_applyKind 2 .boolean 4 [.ref (a + 99), .ref (a + l1)] M (f_X5_applyKind M l1) := by
  refine CI_of RX5 (by decide +kernel) rfl (Nat.le_of_ble_eq_true rfl) (fun k q hk hq e1 e2 e3 => ?_)
  subst e1; subst e2; subst e3
  exact m_X5_applyKind hk hq M l1 h_l1

/-! SettingsInLayers$Scene.toggle(I)V -/
noncomputable def f_X4_toggle (M : Mem) (s : Nat) (l1 : Int32) : Option Mem :=
    Option.bind (wrf M s 0 ((M s 0) ^^^ (1 <<< (l1 &&& 31)))) fun M1 =>
    some M1
set_option maxRecDepth 20000 in
theorem m_X4_toggle {k : KT} {q : Mem} (hk : CX k cX4_toggle RX4 2 none 1) (hq : RV k q) (M : Mem) (s : Nat) (l1 : Int32) (h_s : okS s) : GG k q (wM k M) 0 [(0, .ref (kh k + s)), (1, .int l1)] [] (f_X4_toggle M s l1) := by
  unfold f_X4_toggle
  refine GG_aload_n hk (pc' := 1) 0 dX4_toggle_0 rfl rfl rfl ?_
  refine GG_dup hk (pc' := 2) dX4_toggle_1 rfl rfl ?_
  refine GG_get hk LC4 0 (v := .int (M s 0)) (pc' := 5) tw_44 rfl (kdS h_s) (by decide) rfl dX4_toggle_2 rfl ?_
  refine GG_iconst hk (pc' := 6) 1 dX4_toggle_5 rfl rfl ?_
  refine GG_iload_n hk (pc' := 7) 1 dX4_toggle_6 rfl rfl rfl ?_
  refine GG_ishl hk (pc' := 8) dX4_toggle_7 rfl ?_
  refine GG_ixor hk (pc' := 9) dX4_toggle_8 rfl ?_
  refine GG_put hk LC4 0 (pc' := 12) tw_44 rfl (kdS h_s) (by decide) rfl rfl (Nat.le_of_ble_eq_true rfl) (pv_4_0 _ _ _ _) dX4_toggle_9 rfl (fun M1 e_M1 => ?_)
  exact GG_vret hk hq dX4_toggle_12
theorem c_X4_toggle (l : Launch) (C : DD) (a : Nat) (M : Mem) (s : Nat) (l1 : Int32) (h_s : okS s) : CV l C (a) yX4_toggle cX4_toggle 2 1 [.ref (a + s), .int l1] M (f_X4_toggle M s l1) := by
  refine CV_of RX4 (by decide +kernel) rfl (Nat.le_of_ble_eq_true rfl) (fun k q hk hq e1 e2 e3 => ?_)
  subst e1; subst e2; subst e3
  exact m_X4_toggle hk hq M s l1 h_s

/-! SettingsInLayers$Statement.applyToggle(LSettingsInLayers$Scene;)Z -/
noncomputable def f_X5_applyToggle (M : Mem) (l1 : Nat) : Option (Int32 × Mem) :=
    Option.bind (f_X7_noLayer M (M 99 1)) fun z1 =>
    if z1.1 = 0 then
      Option.bind (f_X4_toggle z1.2 l1 (z1.2 99 1)) fun z3 =>
      bret 1 z3
    else
      bret 0 z1.2
set_option maxRecDepth 20000 in
theorem m_X5_applyToggle {k : KT} {q : Int32 × Mem} (hk : CX k cX5_applyToggle RX5 2 (some .boolean) 2) (hq : RI k q) (M : Mem) (l1 : Nat) (h_l1 : okS l1) : GG k q (wM k M) 0 [(0, .ref (kh k + 99)), (1, .ref (kh k + l1))] [] (f_X5_applyToggle M l1) := by
  unfold f_X5_applyToggle
  refine GG_aload_n hk (pc' := 1) 0 dX5_applyToggle_0 rfl rfl rfl ?_
  refine GG_get hk LC5 1 (v := .int (M 99 1)) (pc' := 4) tw_205 rfl rfl (by decide) rfl dX5_applyToggle_1 rfl ?_
  refine GG_callNi hk (st := []) (pc' := 7) mf_X7_noLayer tw_441 (c_X7_noLayer _ _ _ M (M 99 1) ) (by omega) (by decide) rfl rfl (Nat.le_of_ble_eq_true rfl) dX5_applyToggle_4 rfl (fun z1 e_z1 => ?_)
  refine GG_if_eq hk 12 (pc' := 10) dX5_applyToggle_7 rfl (by decide) (fun c2 => ?_) (fun c2 => ?_)
  · refine GG_aload_n hk (pc' := 13) 1 dX5_applyToggle_12 rfl rfl rfl ?_
    refine GG_aload_n hk (pc' := 14) 0 dX5_applyToggle_13 rfl rfl rfl ?_
    refine GG_get hk LC5 1 (v := .int (z1.2 99 1)) (pc' := 17) tw_205 rfl rfl (by decide) rfl dX5_applyToggle_14 rfl ?_
    refine GG_callVv hk (st := []) (pc' := 20) mf_X4_toggle mv_X4_toggle LC4 rfl (c_X4_toggle _ _ _ z1.2 l1 (z1.2 99 1) h_l1) (by omega) tw_451 (kdS h_l1) rfl rfl (Nat.le_of_ble_eq_true rfl) dX5_applyToggle_17 rfl (fun z3 e_z3 => ?_)
    refine GG_iconst hk (pc' := 21) 1 dX5_applyToggle_20 rfl rfl ?_
    exact GG_zret hk hq dX5_applyToggle_21
  · refine GG_iconst hk (pc' := 11) 0 dX5_applyToggle_10 rfl rfl ?_
    exact GG_zret hk hq dX5_applyToggle_11
theorem c_X5_applyToggle (l : Launch) (C : DD) (a : Nat) (M : Mem) (l1 : Nat) (h_l1 : okS l1) : CI l C (a) yX5_applyToggle cX5_applyToggle 2 .boolean 2 [.ref (a + 99), .ref (a + l1)] M (f_X5_applyToggle M l1) := by
  refine CI_of RX5 (by decide +kernel) rfl (Nat.le_of_ble_eq_true rfl) (fun k q hk hq e1 e2 e3 => ?_)
  subst e1; subst e2; subst e3
  exact m_X5_applyToggle hk hq M l1 h_l1

/-! SettingsInLayers$Scene.put(IIII)V -/
noncomputable def f_X4_put (M : Mem) (s : Nat) (l1 : Int32) (l2 : Int32) (l3 : Int32) (l4 : Int32) : Option Mem :=
    Option.bind (wra 48 M (s + 5) l1 l2) fun M1 =>
    Option.bind (wra 48 M1 (s + 6) l1 l3) fun M2 =>
    Option.bind (wra 48 M2 (s + 7) l1 l4) fun M3 =>
    some M3
set_option maxRecDepth 20000 in
theorem m_X4_put {k : KT} {q : Mem} (hk : CX k cX4_put RX4 5 none 1) (hq : RV k q) (M : Mem) (s : Nat) (l1 : Int32) (l2 : Int32) (l3 : Int32) (l4 : Int32) (h_s : okS s) : GG k q (wM k M) 0 [(0, .ref (kh k + s)), (1, .int l1), (2, .int l2), (3, .int l3), (4, .int l4)] [] (f_X4_put M s l1 l2 l3 l4) := by
  unfold f_X4_put
  refine GG_aload_n hk (pc' := 1) 0 dX4_put_0 rfl rfl rfl ?_
  refine GG_get hk LC4 5 (v := .ref (kh k + (s + 5))) (pc' := 4) tw_58 rfl (kdS h_s) (by decide) rfl dX4_put_1 rfl ?_
  refine GG_iload_n hk (pc' := 5) 1 dX4_put_4 rfl rfl rfl ?_
  refine GG_iload_n hk (pc' := 6) 2 dX4_put_5 rfl rfl rfl ?_
  refine GG_iast hk (pc' := 7) (kdSa h_s 4 (by decide)) (lnSa h_s 4 (by decide) rfl) dX4_put_6 rfl (fun M1 e_M1 => ?_)
  refine GG_aload_n hk (pc' := 8) 0 dX4_put_7 rfl rfl rfl ?_
  refine GG_get hk LC4 6 (v := .ref (kh k + (s + 6))) (pc' := 11) tw_62 rfl (kdS h_s) (by decide) rfl dX4_put_8 rfl ?_
  refine GG_iload_n hk (pc' := 12) 1 dX4_put_11 rfl rfl rfl ?_
  refine GG_iload_n hk (pc' := 13) 3 dX4_put_12 rfl rfl rfl ?_
  refine GG_iast hk (pc' := 14) (kdSa h_s 5 (by decide)) (lnSa h_s 5 (by decide) rfl) dX4_put_13 rfl (fun M2 e_M2 => ?_)
  refine GG_aload_n hk (pc' := 15) 0 dX4_put_14 rfl rfl rfl ?_
  refine GG_get hk LC4 7 (v := .ref (kh k + (s + 7))) (pc' := 18) tw_65 rfl (kdS h_s) (by decide) rfl dX4_put_15 rfl ?_
  refine GG_iload_n hk (pc' := 19) 1 dX4_put_18 rfl rfl rfl ?_
  refine GG_iload hk (pc' := 21) 4 dX4_put_19 rfl rfl ?_
  refine GG_iast hk (pc' := 22) (kdSa h_s 6 (by decide)) (lnSa h_s 6 (by decide) rfl) dX4_put_21 rfl (fun M3 e_M3 => ?_)
  exact GG_vret hk hq dX4_put_22
theorem c_X4_put (l : Launch) (C : DD) (a : Nat) (M : Mem) (s : Nat) (l1 : Int32) (l2 : Int32) (l3 : Int32) (l4 : Int32) (h_s : okS s) : CV l C (a) yX4_put cX4_put 5 1 [.ref (a + s), .int l1, .int l2, .int l3, .int l4] M (f_X4_put M s l1 l2 l3 l4) := by
  refine CV_of RX4 (by decide +kernel) rfl (Nat.le_of_ble_eq_true rfl) (fun k q hk hq e1 e2 e3 => ?_)
  subst e1; subst e2; subst e3
  exact m_X4_put hk hq M s l1 l2 l3 l4 h_s

/-! SettingsInLayers$Scene.addItem(III)I -/
noncomputable def f_X4_addItem (M : Mem) (s : Nat) (l1 : Int32) (l2 : Int32) (l3 : Int32) : Option (Int32 × Mem) :=
    Option.bind (rd 48 (M (s + 6)) l1) fun v1 =>
    Option.bind (wra 192 M (s + 8) ((l1 * 4) + v1) l2) fun M2 =>
    Option.bind (wra 192 M2 (s + 9) ((l1 * 4) + v1) l3) fun M3 =>
    Option.bind (rd 48 (M3 (s + 6)) l1) fun v4 =>
    Option.bind (wra 48 M3 (s + 6) l1 (v4 + 1)) fun M5 =>
    Option.bind (rd 48 (M5 (s + 6)) l1) fun v6 =>
    some (v6, M5)
set_option maxRecDepth 20000 in
theorem m_X4_addItem {k : KT} {q : Int32 × Mem} (hk : CX k cX4_addItem RX4 5 (some .int) 1) (hq : RI k q) (M : Mem) (s : Nat) (l1 : Int32) (l2 : Int32) (l3 : Int32) (h_s : okS s) : GG k q (wM k M) 0 [(0, .ref (kh k + s)), (1, .int l1), (2, .int l2), (3, .int l3)] [] (f_X4_addItem M s l1 l2 l3) := by
  unfold f_X4_addItem
  refine GG_iload_n hk (pc' := 1) 1 dX4_addItem_0 rfl rfl rfl ?_
  refine GG_iconst hk (pc' := 2) 4 dX4_addItem_1 rfl rfl ?_
  refine GG_imul hk (pc' := 3) dX4_addItem_2 rfl ?_
  refine GG_aload_n hk (pc' := 4) 0 dX4_addItem_3 rfl rfl rfl ?_
  refine GG_get hk LC4 6 (v := .ref (kh k + (s + 6))) (pc' := 7) tw_62 rfl (kdS h_s) (by decide) rfl dX4_addItem_4 rfl ?_
  refine GG_iload_n hk (pc' := 8) 1 dX4_addItem_7 rfl rfl rfl ?_
  refine GG_iald hk (pc' := 9) (kdSa h_s 5 (by decide)) (lnSa h_s 5 (by decide) rfl) dX4_addItem_8 rfl (fun v1 e_v1 => ?_)
  refine GG_iadd hk (pc' := 10) dX4_addItem_9 rfl ?_
  refine GG_istore hk (pc' := 12) [(4, .int ((l1 * 4) + v1)), (0, .ref (kh k + s)), (1, .int l1), (2, .int l2), (3, .int l3)] dX4_addItem_10 rfl (by decide) rfl ?_
  refine GG_aload_n hk (pc' := 13) 1 dX4_addItem_12 rfl rfl rfl ?_
  refine GG_get hk LC4 8 (v := .ref (kh k + (s + 8))) (pc' := 16) tw_68 rfl (kdS h_s) (by decide) rfl dX4_addItem_13 rfl ?_
  refine GG_iload hk (pc' := 18) 0 dX4_addItem_16 rfl rfl ?_
  refine GG_iload_n hk (pc' := 19) 3 dX4_addItem_18 rfl rfl rfl ?_
  refine GG_iast hk (pc' := 20) (kdSa h_s 7 (by decide)) (lnSa h_s 7 (by decide) rfl) dX4_addItem_19 rfl (fun M2 e_M2 => ?_)
  refine GG_aload_n hk (pc' := 21) 1 dX4_addItem_20 rfl rfl rfl ?_
  refine GG_get hk LC4 9 (v := .ref (kh k + (s + 9))) (pc' := 24) tw_70 rfl (kdS h_s) (by decide) rfl dX4_addItem_21 rfl ?_
  refine GG_iload hk (pc' := 26) 0 dX4_addItem_24 rfl rfl ?_
  refine GG_iload_n hk (pc' := 27) 4 dX4_addItem_26 rfl rfl rfl ?_
  refine GG_iast hk (pc' := 28) (kdSa h_s 8 (by decide)) (lnSa h_s 8 (by decide) rfl) dX4_addItem_27 rfl (fun M3 e_M3 => ?_)
  refine GG_aload_n hk (pc' := 29) 1 dX4_addItem_28 rfl rfl rfl ?_
  refine GG_get hk LC4 6 (v := .ref (kh k + (s + 6))) (pc' := 32) tw_62 rfl (kdS h_s) (by decide) rfl dX4_addItem_29 rfl ?_
  refine GG_iload_n hk (pc' := 33) 2 dX4_addItem_32 rfl rfl rfl ?_
  refine GG_dup2 hk (pc' := 34) dX4_addItem_33 rfl rfl rfl ?_
  refine GG_iald hk (pc' := 35) (kdSa h_s 5 (by decide)) (lnSa h_s 5 (by decide) rfl) dX4_addItem_34 rfl (fun v4 e_v4 => ?_)
  refine GG_iconst hk (pc' := 36) 1 dX4_addItem_35 rfl rfl ?_
  refine GG_iadd hk (pc' := 37) dX4_addItem_36 rfl ?_
  refine GG_iast hk (pc' := 38) (kdSa h_s 5 (by decide)) (lnSa h_s 5 (by decide) rfl) dX4_addItem_37 rfl (fun M5 e_M5 => ?_)
  refine GG_aload_n hk (pc' := 39) 1 dX4_addItem_38 rfl rfl rfl ?_
  refine GG_get hk LC4 6 (v := .ref (kh k + (s + 6))) (pc' := 42) tw_62 rfl (kdS h_s) (by decide) rfl dX4_addItem_39 rfl ?_
  refine GG_iload_n hk (pc' := 43) 2 dX4_addItem_42 rfl rfl rfl ?_
  refine GG_iald hk (pc' := 44) (kdSa h_s 5 (by decide)) (lnSa h_s 5 (by decide) rfl) dX4_addItem_43 rfl (fun v6 e_v6 => ?_)
  exact GG_iret hk hq dX4_addItem_44
theorem c_X4_addItem (l : Launch) (C : DD) (a : Nat) (M : Mem) (s : Nat) (l1 : Int32) (l2 : Int32) (l3 : Int32) (h_s : okS s) : CI l C (a) yX4_addItem cX4_addItem 5 .int 1 [.ref (a + s), .int l1, .int l2, .int l3] M (f_X4_addItem M s l1 l2 l3) := by
  refine CI_of RX4 (by decide +kernel) rfl (Nat.le_of_ble_eq_true rfl) (fun k q hk hq e1 e2 e3 => ?_)
  subst e1; subst e2; subst e3
  exact m_X4_addItem hk hq M s l1 l2 l3 h_s

/-! SettingsInLayers$Statement.applyEntry(LSettingsInLayers$Scene;)Z -/
noncomputable def f_X5_applyEntry_58  : Nat → Mem → Nat → Int32 → Int32 → Option (Int32 × Mem)
  | 0, _, _, _, _ => none
  | n + 1, M, l1, l2, l3 =>
    if (M 99 9) ≤ l3 then
      bret 1 M
    else
      Option.bind (rd 4 (M 100) l3) fun v2 =>
      Option.bind (rd 4 (M 101) l3) fun v3 =>
      Option.bind (f_X4_addItem M l1 l2 v2 v3) fun z4 =>
      f_X5_applyEntry_58  n z4.2 l1 l2 (l3 + 1)
set_option maxRecDepth 20000 in
theorem m_X5_applyEntry_58 {k : KT} {q : Int32 × Mem} (hk : CX k cX5_applyEntry RX5 4 (some .boolean) 2) (hq : RI k q) : ∀ (n : Nat) (M : Mem) (l1 : Nat) (l2 : Int32) (l3 : Int32) (h_l1 : okS l1), GG k q (wM k M) 58 [(0, .ref (kh k + 99)), (1, .ref (kh k + l1)), (2, .int l2), (3, .int l3)] [] (f_X5_applyEntry_58  n M l1 l2 l3) := by
  intro n
  induction n with
  | zero => intros; exact GG_none
  | succ n ih =>
    intro M l1 l2 l3 h_l1
    rw [f_X5_applyEntry_58]
    refine GG_iload_n hk (pc' := 59) 3 dX5_applyEntry_58 rfl rfl rfl ?_
    refine GG_aload_n hk (pc' := 60) 0 dX5_applyEntry_59 rfl rfl rfl ?_
    refine GG_get hk LC5 9 (v := .int (M 99 9)) (pc' := 63) tw_221 rfl rfl (by decide) rfl dX5_applyEntry_60 rfl ?_
    refine GG_icmp_ge hk 90 (pc' := 66) dX5_applyEntry_63 rfl (by decide) (fun c1 => ?_) (fun c1 => ?_)
    · refine GG_iconst hk (pc' := 91) 1 dX5_applyEntry_90 rfl rfl ?_
      exact GG_zret hk hq dX5_applyEntry_91
    · refine GG_aload_n hk (pc' := 67) 1 dX5_applyEntry_66 rfl rfl rfl ?_
      refine GG_iload_n hk (pc' := 68) 2 dX5_applyEntry_67 rfl rfl rfl ?_
      refine GG_aload_n hk (pc' := 69) 0 dX5_applyEntry_68 rfl rfl rfl ?_
      refine GG_get hk LC5 12 (v := .ref (kh k + 100)) (pc' := 72) tw_224 rfl rfl (by decide) rfl dX5_applyEntry_69 rfl ?_
      refine GG_iload_n hk (pc' := 73) 3 dX5_applyEntry_72 rfl rfl rfl ?_
      refine GG_iald hk (pc' := 74) rfl rfl dX5_applyEntry_73 rfl (fun v2 e_v2 => ?_)
      refine GG_aload_n hk (pc' := 75) 0 dX5_applyEntry_74 rfl rfl rfl ?_
      refine GG_get hk LC5 13 (v := .ref (kh k + 101)) (pc' := 78) tw_225 rfl rfl (by decide) rfl dX5_applyEntry_75 rfl ?_
      refine GG_iload_n hk (pc' := 79) 3 dX5_applyEntry_78 rfl rfl rfl ?_
      refine GG_iald hk (pc' := 80) rfl rfl dX5_applyEntry_79 rfl (fun v3 e_v3 => ?_)
      refine GG_callVi hk (st := []) (pc' := 83) mf_X4_addItem mv_X4_addItem LC4 rfl (c_X4_addItem _ _ _ M l1 l2 v2 v3 h_l1) (by omega) tw_463 (kdS h_l1) rfl rfl (Nat.le_of_ble_eq_true rfl) dX5_applyEntry_80 rfl (fun z4 e_z4 => ?_)
      refine GG_pop hk (pc' := 84) dX5_applyEntry_83 rfl rfl ?_
      refine GG_iinc hk (pc' := 87) 3 (l3 + 1) [(3, .int (l3 + 1)), (0, .ref (kh k + 99)), (1, .ref (kh k + l1)), (2, .int l2)] dX5_applyEntry_84 rfl rfl rfl (by decide) rfl ?_
      refine GG_goto hk 58 dX5_applyEntry_87 (by decide) ?_
      refine GG_sub (L' := [(0, .ref (kh k + 99)), (1, .ref (kh k + l1)), (2, .int l2), (3, .int (l3 + 1))]) [1, 2, 3, 0] rfl ?_
      exact ih z4.2 l1 l2 (l3 + 1) h_l1
noncomputable def f_X5_applyEntry (M : Mem) (l1 : Nat) : Option (Int32 × Mem) :=
    Option.bind (f_X7_noLayer M (M 99 1)) fun z1 =>
    if ¬ z1.1 = 0 then
      bret 0 z1.2
    else
      if 4 < (z1.2 99 9) then
        bret 0 z1.2
      else
        if (z1.2 99 11) = 0 then
          Option.bind (f_X7_slotOf z1.2 (z1.2 99 1) (z1.2 99 2)) fun z5 =>
          Option.bind (f_X4_put z5.2 l1 z5.1 (z5.2 99 6) (z5.2 99 7) (z5.2 99 8)) fun z6 =>
          f_X5_applyEntry_58  1000 z6 l1 z5.1 0
        else
          bret 0 z1.2
set_option maxRecDepth 20000 in
theorem m_X5_applyEntry {k : KT} {q : Int32 × Mem} (hk : CX k cX5_applyEntry RX5 4 (some .boolean) 2) (hq : RI k q) (M : Mem) (l1 : Nat) (h_l1 : okS l1) : GG k q (wM k M) 0 [(0, .ref (kh k + 99)), (1, .ref (kh k + l1))] [] (f_X5_applyEntry M l1) := by
  unfold f_X5_applyEntry
  refine GG_aload_n hk (pc' := 1) 0 dX5_applyEntry_0 rfl rfl rfl ?_
  refine GG_get hk LC5 1 (v := .int (M 99 1)) (pc' := 4) tw_205 rfl rfl (by decide) rfl dX5_applyEntry_1 rfl ?_
  refine GG_callNi hk (st := []) (pc' := 7) mf_X7_noLayer tw_441 (c_X7_noLayer _ _ _ M (M 99 1) ) (by omega) (by decide) rfl rfl (Nat.le_of_ble_eq_true rfl) dX5_applyEntry_4 rfl (fun z1 e_z1 => ?_)
  refine GG_if_ne hk 25 (pc' := 10) dX5_applyEntry_7 rfl (by decide) (fun c2 => ?_) (fun c2 => ?_)
  · refine GG_iconst hk (pc' := 26) 0 dX5_applyEntry_25 rfl rfl ?_
    exact GG_zret hk hq dX5_applyEntry_26
  · refine GG_aload_n hk (pc' := 11) 0 dX5_applyEntry_10 rfl rfl rfl ?_
    refine GG_get hk LC5 9 (v := .int (z1.2 99 9)) (pc' := 14) tw_221 rfl rfl (by decide) rfl dX5_applyEntry_11 rfl ?_
    refine GG_iconst hk (pc' := 15) 4 dX5_applyEntry_14 rfl rfl ?_
    refine GG_icmp_gt hk 25 (pc' := 18) dX5_applyEntry_15 rfl (by decide) (fun c3 => ?_) (fun c3 => ?_)
    · refine GG_iconst hk (pc' := 26) 0 dX5_applyEntry_25 rfl rfl ?_
      exact GG_zret hk hq dX5_applyEntry_26
    · refine GG_aload_n hk (pc' := 19) 0 dX5_applyEntry_18 rfl rfl rfl ?_
      refine GG_get hk LC5 11 (v := .int (z1.2 99 11)) (pc' := 22) tw_223 rfl rfl (by decide) rfl dX5_applyEntry_19 rfl ?_
      refine GG_if_eq hk 27 (pc' := 25) dX5_applyEntry_22 rfl (by decide) (fun c4 => ?_) (fun c4 => ?_)
      · refine GG_aload_n hk (pc' := 28) 0 dX5_applyEntry_27 rfl rfl rfl ?_
        refine GG_get hk LC5 1 (v := .int (z1.2 99 1)) (pc' := 31) tw_205 rfl rfl (by decide) rfl dX5_applyEntry_28 rfl ?_
        refine GG_aload_n hk (pc' := 32) 0 dX5_applyEntry_31 rfl rfl rfl ?_
        refine GG_get hk LC5 2 (v := .int (z1.2 99 2)) (pc' := 35) tw_207 rfl rfl (by decide) rfl dX5_applyEntry_32 rfl ?_
        refine GG_callNi hk (st := []) (pc' := 38) mf_X7_slotOf tw_460 (c_X7_slotOf _ _ _ z1.2 (z1.2 99 1) (z1.2 99 2) ) (by omega) (by decide) rfl rfl (Nat.le_of_ble_eq_true rfl) dX5_applyEntry_35 rfl (fun z5 e_z5 => ?_)
        refine GG_istore_n hk (pc' := 39) [(2, .int z5.1), (0, .ref (kh k + 99)), (1, .ref (kh k + l1))] dX5_applyEntry_38 rfl rfl (by decide) rfl ?_
        refine GG_aload_n hk (pc' := 40) 2 dX5_applyEntry_39 rfl rfl rfl ?_
        refine GG_iload_n hk (pc' := 41) 0 dX5_applyEntry_40 rfl rfl rfl ?_
        refine GG_aload_n hk (pc' := 42) 1 dX5_applyEntry_41 rfl rfl rfl ?_
        refine GG_get hk LC5 6 (v := .int (z5.2 99 6)) (pc' := 45) tw_216 rfl rfl (by decide) rfl dX5_applyEntry_42 rfl ?_
        refine GG_aload_n hk (pc' := 46) 1 dX5_applyEntry_45 rfl rfl rfl ?_
        refine GG_get hk LC5 7 (v := .int (z5.2 99 7)) (pc' := 49) tw_217 rfl rfl (by decide) rfl dX5_applyEntry_46 rfl ?_
        refine GG_aload_n hk (pc' := 50) 1 dX5_applyEntry_49 rfl rfl rfl ?_
        refine GG_get hk LC5 8 (v := .int (z5.2 99 8)) (pc' := 53) tw_219 rfl rfl (by decide) rfl dX5_applyEntry_50 rfl ?_
        refine GG_callVv hk (st := []) (pc' := 56) mf_X4_put mv_X4_put LC4 rfl (c_X4_put _ _ _ z5.2 l1 z5.1 (z5.2 99 6) (z5.2 99 7) (z5.2 99 8) h_l1) (by omega) tw_462 (kdS h_l1) rfl rfl (Nat.le_of_ble_eq_true rfl) dX5_applyEntry_53 rfl (fun z6 e_z6 => ?_)
        refine GG_iconst hk (pc' := 57) 0 dX5_applyEntry_56 rfl rfl ?_
        refine GG_istore_n hk (pc' := 58) [(3, .int 0), (2, .int z5.1), (0, .ref (kh k + 99)), (1, .ref (kh k + l1))] dX5_applyEntry_57 rfl rfl (by decide) rfl ?_
        refine GG_sub (L' := [(0, .ref (kh k + 99)), (1, .ref (kh k + l1)), (2, .int z5.1), (3, .int 0)]) [2, 3, 1, 0] rfl ?_
        exact m_X5_applyEntry_58 hk hq  1000 z6 l1 z5.1 0 h_l1
      · refine GG_iconst hk (pc' := 26) 0 dX5_applyEntry_25 rfl rfl ?_
        exact GG_zret hk hq dX5_applyEntry_26
theorem c_X5_applyEntry (l : Launch) (C : DD) (a : Nat) (M : Mem) (l1 : Nat) (h_l1 : okS l1) : CI l C (a) yX5_applyEntry cX5_applyEntry 4 .boolean 2 [.ref (a + 99), .ref (a + l1)] M (f_X5_applyEntry M l1) := by
  refine CI_of RX5 (by decide +kernel) rfl (Nat.le_of_ble_eq_true rfl) (fun k q hk hq e1 e2 e3 => ?_)
  subst e1; subst e2; subst e3
  exact m_X5_applyEntry hk hq M l1 h_l1

/-! SettingsInLayers$Scene.erase(I)V -/
noncomputable def f_X4_erase (M : Mem) (s : Nat) (l1 : Int32) : Option Mem :=
    Option.bind (f_X4_put M s l1 (-1) 0 (-9)) fun z1 =>
    some z1
set_option maxRecDepth 20000 in
theorem m_X4_erase {k : KT} {q : Mem} (hk : CX k cX4_erase RX4 2 none 2) (hq : RV k q) (M : Mem) (s : Nat) (l1 : Int32) (h_s : okS s) : GG k q (wM k M) 0 [(0, .ref (kh k + s)), (1, .int l1)] [] (f_X4_erase M s l1) := by
  unfold f_X4_erase
  refine GG_aload_n hk (pc' := 1) 0 dX4_erase_0 rfl rfl rfl ?_
  refine GG_iload_n hk (pc' := 2) 1 dX4_erase_1 rfl rfl rfl ?_
  refine GG_iconst hk (pc' := 3) (-1) dX4_erase_2 rfl rfl ?_
  refine GG_iconst hk (pc' := 4) 0 dX4_erase_3 rfl rfl ?_
  refine GG_bipush hk (pc' := 6) (-9) dX4_erase_4 rfl rfl ?_
  refine GG_callVv hk (st := []) (pc' := 9) mf_X4_put mv_X4_put LC4 rfl (c_X4_put _ _ _ M s l1 (-1) 0 (-9) h_s) (by omega) tw_32 (kdS h_s) rfl rfl (Nat.le_of_ble_eq_true rfl) dX4_erase_6 rfl (fun z1 e_z1 => ?_)
  exact GG_vret hk hq dX4_erase_9
theorem c_X4_erase (l : Launch) (C : DD) (a : Nat) (M : Mem) (s : Nat) (l1 : Int32) (h_s : okS s) : CV l C (a) yX4_erase cX4_erase 2 2 [.ref (a + s), .int l1] M (f_X4_erase M s l1) := by
  refine CV_of RX4 (by decide +kernel) rfl (Nat.le_of_ble_eq_true rfl) (fun k q hk hq e1 e2 e3 => ?_)
  subst e1; subst e2; subst e3
  exact m_X4_erase hk hq M s l1 h_s

/-! SettingsInLayers$Statement.applyDrop(LSettingsInLayers$Scene;)Z -/
noncomputable def f_X5_applyDrop (M : Mem) (l1 : Nat) : Option (Int32 × Mem) :=
    Option.bind (f_X7_noLayer M (M 99 1)) fun z1 =>
    if ¬ z1.1 = 0 then
      bret 0 z1.2
    else
      Option.bind (f_X7_slotOf z1.2 (z1.2 99 1) (z1.2 99 2)) fun z3 =>
      Option.bind (rd 48 (z3.2 (l1 + 5)) z3.1) fun v4 =>
      if ¬ v4 = (-1) then
        Option.bind (f_X7_slotOf z3.2 (z3.2 99 1) (z3.2 99 2)) fun z6 =>
        Option.bind (f_X4_erase z6.2 l1 z6.1) fun z7 =>
        bret 1 z7
      else
        bret 0 z3.2
set_option maxRecDepth 20000 in
theorem m_X5_applyDrop {k : KT} {q : Int32 × Mem} (hk : CX k cX5_applyDrop RX5 2 (some .boolean) 3) (hq : RI k q) (M : Mem) (l1 : Nat) (h_l1 : okS l1) : GG k q (wM k M) 0 [(0, .ref (kh k + 99)), (1, .ref (kh k + l1))] [] (f_X5_applyDrop M l1) := by
  unfold f_X5_applyDrop
  refine GG_aload_n hk (pc' := 1) 0 dX5_applyDrop_0 rfl rfl rfl ?_
  refine GG_get hk LC5 1 (v := .int (M 99 1)) (pc' := 4) tw_205 rfl rfl (by decide) rfl dX5_applyDrop_1 rfl ?_
  refine GG_callNi hk (st := []) (pc' := 7) mf_X7_noLayer tw_441 (c_X7_noLayer _ _ _ M (M 99 1) ) (by omega) (by decide) rfl rfl (Nat.le_of_ble_eq_true rfl) dX5_applyDrop_4 rfl (fun z1 e_z1 => ?_)
  refine GG_if_ne hk 30 (pc' := 10) dX5_applyDrop_7 rfl (by decide) (fun c2 => ?_) (fun c2 => ?_)
  · refine GG_iconst hk (pc' := 31) 0 dX5_applyDrop_30 rfl rfl ?_
    exact GG_zret hk hq dX5_applyDrop_31
  · refine GG_aload_n hk (pc' := 11) 1 dX5_applyDrop_10 rfl rfl rfl ?_
    refine GG_get hk LC4 5 (v := .ref (kh k + (l1 + 5))) (pc' := 14) tw_60 rfl (kdS h_l1) (by decide) rfl dX5_applyDrop_11 rfl ?_
    refine GG_aload_n hk (pc' := 15) 0 dX5_applyDrop_14 rfl rfl rfl ?_
    refine GG_get hk LC5 1 (v := .int (z1.2 99 1)) (pc' := 18) tw_205 rfl rfl (by decide) rfl dX5_applyDrop_15 rfl ?_
    refine GG_aload_n hk (pc' := 19) 0 dX5_applyDrop_18 rfl rfl rfl ?_
    refine GG_get hk LC5 2 (v := .int (z1.2 99 2)) (pc' := 22) tw_207 rfl rfl (by decide) rfl dX5_applyDrop_19 rfl ?_
    refine GG_callNi hk (st := [.ref (kh k + (l1 + 5))]) (pc' := 25) mf_X7_slotOf tw_460 (c_X7_slotOf _ _ _ z1.2 (z1.2 99 1) (z1.2 99 2) ) (by omega) (by decide) rfl rfl (Nat.le_of_ble_eq_true rfl) dX5_applyDrop_22 rfl (fun z3 e_z3 => ?_)
    refine GG_iald hk (pc' := 26) (kdSa h_l1 4 (by decide)) (lnSa h_l1 4 (by decide) rfl) dX5_applyDrop_25 rfl (fun v4 e_v4 => ?_)
    refine GG_iconst hk (pc' := 27) (-1) dX5_applyDrop_26 rfl rfl ?_
    refine GG_icmp_ne hk 32 (pc' := 30) dX5_applyDrop_27 rfl (by decide) (fun c5 => ?_) (fun c5 => ?_)
    · refine GG_aload_n hk (pc' := 33) 1 dX5_applyDrop_32 rfl rfl rfl ?_
      refine GG_aload_n hk (pc' := 34) 0 dX5_applyDrop_33 rfl rfl rfl ?_
      refine GG_get hk LC5 1 (v := .int (z3.2 99 1)) (pc' := 37) tw_205 rfl rfl (by decide) rfl dX5_applyDrop_34 rfl ?_
      refine GG_aload_n hk (pc' := 38) 0 dX5_applyDrop_37 rfl rfl rfl ?_
      refine GG_get hk LC5 2 (v := .int (z3.2 99 2)) (pc' := 41) tw_207 rfl rfl (by decide) rfl dX5_applyDrop_38 rfl ?_
      refine GG_callNi hk (st := [.ref (kh k + l1)]) (pc' := 44) mf_X7_slotOf tw_460 (c_X7_slotOf _ _ _ z3.2 (z3.2 99 1) (z3.2 99 2) ) (by omega) (by decide) rfl rfl (Nat.le_of_ble_eq_true rfl) dX5_applyDrop_41 rfl (fun z6 e_z6 => ?_)
      refine GG_callVv hk (st := []) (pc' := 47) mf_X4_erase mv_X4_erase LC4 rfl (c_X4_erase _ _ _ z6.2 l1 z6.1 h_l1) (by omega) tw_471 (kdS h_l1) rfl rfl (Nat.le_of_ble_eq_true rfl) dX5_applyDrop_44 rfl (fun z7 e_z7 => ?_)
      refine GG_iconst hk (pc' := 48) 1 dX5_applyDrop_47 rfl rfl ?_
      exact GG_zret hk hq dX5_applyDrop_48
    · refine GG_iconst hk (pc' := 31) 0 dX5_applyDrop_30 rfl rfl ?_
      exact GG_zret hk hq dX5_applyDrop_31
theorem c_X5_applyDrop (l : Launch) (C : DD) (a : Nat) (M : Mem) (l1 : Nat) (h_l1 : okS l1) : CI l C (a) yX5_applyDrop cX5_applyDrop 2 .boolean 3 [.ref (a + 99), .ref (a + l1)] M (f_X5_applyDrop M l1) := by
  refine CI_of RX5 (by decide +kernel) rfl (Nat.le_of_ble_eq_true rfl) (fun k q hk hq e1 e2 e3 => ?_)
  subst e1; subst e2; subst e3
  exact m_X5_applyDrop hk hq M l1 h_l1

/-! SettingsInLayers$Statement.applyManner(LSettingsInLayers$Scene;)Z -/
noncomputable def f_X5_applyManner (M : Mem) (l1 : Nat) : Option (Int32 × Mem) :=
    if (M 99 5) < 5 then
      Option.bind (wra 8 M (l1 + 3) (M 99 2) (M 99 5)) fun M2 =>
      bret 1 M2
    else
      bret 0 M
set_option maxRecDepth 20000 in
theorem m_X5_applyManner {k : KT} {q : Int32 × Mem} (hk : CX k cX5_applyManner RX5 2 (some .boolean) 1) (hq : RI k q) (M : Mem) (l1 : Nat) (h_l1 : okS l1) : GG k q (wM k M) 0 [(0, .ref (kh k + 99)), (1, .ref (kh k + l1))] [] (f_X5_applyManner M l1) := by
  unfold f_X5_applyManner
  refine GG_aload_n hk (pc' := 1) 0 dX5_applyManner_0 rfl rfl rfl ?_
  refine GG_get hk LC5 5 (v := .int (M 99 5)) (pc' := 4) tw_213 rfl rfl (by decide) rfl dX5_applyManner_1 rfl ?_
  refine GG_iconst hk (pc' := 5) 5 dX5_applyManner_4 rfl rfl ?_
  refine GG_icmp_lt hk 10 (pc' := 8) dX5_applyManner_5 rfl (by decide) (fun c1 => ?_) (fun c1 => ?_)
  · refine GG_aload_n hk (pc' := 11) 1 dX5_applyManner_10 rfl rfl rfl ?_
    refine GG_get hk LC4 3 (v := .ref (kh k + (l1 + 3))) (pc' := 14) tw_55 rfl (kdS h_l1) (by decide) rfl dX5_applyManner_11 rfl ?_
    refine GG_aload_n hk (pc' := 15) 0 dX5_applyManner_14 rfl rfl rfl ?_
    refine GG_get hk LC5 2 (v := .int (M 99 2)) (pc' := 18) tw_207 rfl rfl (by decide) rfl dX5_applyManner_15 rfl ?_
    refine GG_aload_n hk (pc' := 19) 0 dX5_applyManner_18 rfl rfl rfl ?_
    refine GG_get hk LC5 5 (v := .int (M 99 5)) (pc' := 22) tw_213 rfl rfl (by decide) rfl dX5_applyManner_19 rfl ?_
    refine GG_iast hk (pc' := 23) (kdSa h_l1 2 (by decide)) (lnSa h_l1 2 (by decide) rfl) dX5_applyManner_22 rfl (fun M2 e_M2 => ?_)
    refine GG_iconst hk (pc' := 24) 1 dX5_applyManner_23 rfl rfl ?_
    exact GG_zret hk hq dX5_applyManner_24
  · refine GG_iconst hk (pc' := 9) 0 dX5_applyManner_8 rfl rfl ?_
    exact GG_zret hk hq dX5_applyManner_9
theorem c_X5_applyManner (l : Launch) (C : DD) (a : Nat) (M : Mem) (l1 : Nat) (h_l1 : okS l1) : CI l C (a) yX5_applyManner cX5_applyManner 2 .boolean 1 [.ref (a + 99), .ref (a + l1)] M (f_X5_applyManner M l1) := by
  refine CI_of RX5 (by decide +kernel) rfl (Nat.le_of_ble_eq_true rfl) (fun k q hk hq e1 e2 e3 => ?_)
  subst e1; subst e2; subst e3
  exact m_X5_applyManner hk hq M l1 h_l1

/-! SettingsInLayers$Statement.applyTo(LSettingsInLayers$Scene;)Z -/
noncomputable def f_X5_applyTo (M : Mem) (l1 : Nat) : Option (Int32 × Mem) :=
    if (M 99 0) = 100 then
      Option.bind (f_X5_applyDrop M l1) fun z2 =>
      bret z2.1 z2.2
    else
      if (M 99 0) = 101 then
        Option.bind (f_X5_applyEntry M l1) fun z4 =>
        bret z4.1 z4.2
      else
        if (M 99 0) = 108 then
          Option.bind (f_X5_applyKind M l1) fun z6 =>
          bret z6.1 z6.2
        else
          if (M 99 0) = 111 then
            Option.bind (f_X5_applyToggle M l1) fun z8 =>
            bret z8.1 z8.2
          else
            Option.bind (f_X5_applyManner M l1) fun z9 =>
            bret z9.1 z9.2
set_option maxRecDepth 20000 in
theorem m_X5_applyTo {k : KT} {q : Int32 × Mem} (hk : CX k cX5_applyTo RX5 2 (some .boolean) 5) (hq : RI k q) (M : Mem) (l1 : Nat) (h_l1 : okS l1) : GG k q (wM k M) 0 [(0, .ref (kh k + 99)), (1, .ref (kh k + l1))] [] (f_X5_applyTo M l1) := by
  unfold f_X5_applyTo
  refine GG_aload_n hk (pc' := 1) 0 dX5_applyTo_0 rfl rfl rfl ?_
  refine GG_get hk LC5 0 (v := .int (M 99 0)) (pc' := 4) tw_203 rfl rfl (by decide) rfl dX5_applyTo_1 rfl ?_
  refine GG_if (fun c1 => ?_) (fun c1 => ?_)
  · refine GG_look hk 66 dX5_applyTo_4 (by decide) (off := 62) (by rw [c1]; rfl) (by decide) ?_
    refine GG_aload_n hk (pc' := 67) 0 dX5_applyTo_66 rfl rfl rfl ?_
    refine GG_aload_n hk (pc' := 68) 1 dX5_applyTo_67 rfl rfl rfl ?_
    refine GG_callVi hk (st := []) (pc' := 71) mf_X5_applyDrop mv_X5_applyDrop LC5 rfl (c_X5_applyDrop _ _ _ M l1 h_l1) (by omega) tw_467 rfl rfl rfl (Nat.le_of_ble_eq_true rfl) dX5_applyTo_68 rfl (fun z2 e_z2 => ?_)
    exact GG_zret hk hq dX5_applyTo_71
  · refine GG_if (fun c3 => ?_) (fun c3 => ?_)
    · refine GG_look hk 60 dX5_applyTo_4 (by decide) (off := 56) (by rw [c3]; rfl) (by decide) ?_
      refine GG_aload_n hk (pc' := 61) 0 dX5_applyTo_60 rfl rfl rfl ?_
      refine GG_aload_n hk (pc' := 62) 1 dX5_applyTo_61 rfl rfl rfl ?_
      refine GG_callVi hk (st := []) (pc' := 65) mf_X5_applyEntry mv_X5_applyEntry LC5 rfl (c_X5_applyEntry _ _ _ M l1 h_l1) (by omega) tw_455 rfl rfl rfl (Nat.le_of_ble_eq_true rfl) dX5_applyTo_62 rfl (fun z4 e_z4 => ?_)
      exact GG_zret hk hq dX5_applyTo_65
    · refine GG_if (fun c5 => ?_) (fun c5 => ?_)
      · refine GG_look hk 48 dX5_applyTo_4 (by decide) (off := 44) (by rw [c5]; rfl) (by decide) ?_
        refine GG_aload_n hk (pc' := 49) 0 dX5_applyTo_48 rfl rfl rfl ?_
        refine GG_aload_n hk (pc' := 50) 1 dX5_applyTo_49 rfl rfl rfl ?_
        refine GG_callVi hk (st := []) (pc' := 53) mf_X5_applyKind mv_X5_applyKind LC5 rfl (c_X5_applyKind _ _ _ M l1 h_l1) (by omega) tw_436 rfl rfl rfl (Nat.le_of_ble_eq_true rfl) dX5_applyTo_50 rfl (fun z6 e_z6 => ?_)
        exact GG_zret hk hq dX5_applyTo_53
      · refine GG_if (fun c7 => ?_) (fun c7 => ?_)
        · refine GG_look hk 54 dX5_applyTo_4 (by decide) (off := 50) (by rw [c7]; rfl) (by decide) ?_
          refine GG_aload_n hk (pc' := 55) 0 dX5_applyTo_54 rfl rfl rfl ?_
          refine GG_aload_n hk (pc' := 56) 1 dX5_applyTo_55 rfl rfl rfl ?_
          refine GG_callVi hk (st := []) (pc' := 59) mf_X5_applyToggle mv_X5_applyToggle LC5 rfl (c_X5_applyToggle _ _ _ M l1 h_l1) (by omega) tw_447 rfl rfl rfl (Nat.le_of_ble_eq_true rfl) dX5_applyTo_56 rfl (fun z8 e_z8 => ?_)
          exact GG_zret hk hq dX5_applyTo_59
        · refine GG_look hk 72 dX5_applyTo_4 (by decide) (off := 68) ((lv_osw c1 rfl).trans ((lv_osw c3 rfl).trans ((lv_osw c5 rfl).trans ((lv_osw c7 rfl).trans rfl)))) (by decide) ?_
          refine GG_aload_n hk (pc' := 73) 0 dX5_applyTo_72 rfl rfl rfl ?_
          refine GG_aload_n hk (pc' := 74) 1 dX5_applyTo_73 rfl rfl rfl ?_
          refine GG_callVi hk (st := []) (pc' := 77) mf_X5_applyManner mv_X5_applyManner LC5 rfl (c_X5_applyManner _ _ _ M l1 h_l1) (by omega) tw_472 rfl rfl rfl (Nat.le_of_ble_eq_true rfl) dX5_applyTo_74 rfl (fun z9 e_z9 => ?_)
          exact GG_zret hk hq dX5_applyTo_77
theorem c_X5_applyTo (l : Launch) (C : DD) (a : Nat) (M : Mem) (l1 : Nat) (h_l1 : okS l1) : CI l C (a) yX5_applyTo cX5_applyTo 2 .boolean 5 [.ref (a + 99), .ref (a + l1)] M (f_X5_applyTo M l1) := by
  refine CI_of RX5 (by decide +kernel) rfl (Nat.le_of_ble_eq_true rfl) (fun k q hk hq e1 e2 e3 => ?_)
  subst e1; subst e2; subst e3
  exact m_X5_applyTo hk hq M l1 h_l1

/-! SettingsInLayers$Scene.isOn(I)Z -/
noncomputable def f_X4_isOn (M : Mem) (s : Nat) (l1 : Int32) : Option (Int32 × Mem) :=
    if (((M s 0) >>> (l1 &&& 31)) &&& 1) = 0 then
      bret 0 M
    else
      bret 1 M
set_option maxRecDepth 20000 in
theorem m_X4_isOn {k : KT} {q : Int32 × Mem} (hk : CX k cX4_isOn RX4 2 (some .boolean) 1) (hq : RI k q) (M : Mem) (s : Nat) (l1 : Int32) (h_s : okS s) : GG k q (wM k M) 0 [(0, .ref (kh k + s)), (1, .int l1)] [] (f_X4_isOn M s l1) := by
  unfold f_X4_isOn
  refine GG_aload_n hk (pc' := 1) 0 dX4_isOn_0 rfl rfl rfl ?_
  refine GG_get hk LC4 0 (v := .int (M s 0)) (pc' := 4) tw_44 rfl (kdS h_s) (by decide) rfl dX4_isOn_1 rfl ?_
  refine GG_iload_n hk (pc' := 5) 1 dX4_isOn_4 rfl rfl rfl ?_
  refine GG_ishr hk (pc' := 6) dX4_isOn_5 rfl ?_
  refine GG_iconst hk (pc' := 7) 1 dX4_isOn_6 rfl rfl ?_
  refine GG_iand hk (pc' := 8) dX4_isOn_7 rfl ?_
  refine GG_if_eq hk 15 (pc' := 11) dX4_isOn_8 rfl (by decide) (fun c1 => ?_) (fun c1 => ?_)
  · refine GG_iconst hk (pc' := 16) 0 dX4_isOn_15 rfl rfl ?_
    exact GG_zret hk hq dX4_isOn_16
  · refine GG_iconst hk (pc' := 12) 1 dX4_isOn_11 rfl rfl ?_
    refine GG_goto hk 16 dX4_isOn_12 (by decide) ?_
    exact GG_zret hk hq dX4_isOn_16
theorem c_X4_isOn (l : Launch) (C : DD) (a : Nat) (M : Mem) (s : Nat) (l1 : Int32) (h_s : okS s) : CI l C (a) yX4_isOn cX4_isOn 2 .boolean 1 [.ref (a + s), .int l1] M (f_X4_isOn M s l1) := by
  refine CI_of RX4 (by decide +kernel) rfl (Nat.le_of_ble_eq_true rfl) (fun k q hk hq e1 e2 e3 => ?_)
  subst e1; subst e2; subst e3
  exact m_X4_isOn hk hq M s l1 h_s

/-! SettingsInLayers$Scene.hasItem(II)Z -/
noncomputable def f_X4_hasItem_2  : Nat → Mem → Nat → Int32 → Int32 → Int32 → Option (Int32 × Mem)
  | 0, _, _, _, _, _ => none
  | n + 1, M, l0, l1, l2, l3 =>
    Option.bind (rd 48 (M (l0 + 6)) l1) fun v1 =>
    if v1 ≤ l3 then
      bret 0 M
    else
      Option.bind (rd 192 (M (l0 + 8)) ((l1 * 4) + l3)) fun v3 =>
      if ¬ v3 = l2 then
        f_X4_hasItem_2  n M l0 l1 l2 (l3 + 1)
      else
        bret 1 M
set_option maxRecDepth 20000 in
theorem m_X4_hasItem_2 {k : KT} {q : Int32 × Mem} (hk : CX k cX4_hasItem RX4 4 (some .boolean) 1) (hq : RI k q) : ∀ (n : Nat) (M : Mem) (l0 : Nat) (l1 : Int32) (l2 : Int32) (l3 : Int32) (h_l0 : okS l0), GG k q (wM k M) 2 [(0, .ref (kh k + l0)), (1, .int l1), (2, .int l2), (3, .int l3)] [] (f_X4_hasItem_2  n M l0 l1 l2 l3) := by
  intro n
  induction n with
  | zero => intros; exact GG_none
  | succ n ih =>
    intro M l0 l1 l2 l3 h_l0
    rw [f_X4_hasItem_2]
    refine GG_iload_n hk (pc' := 3) 3 dX4_hasItem_2 rfl rfl rfl ?_
    refine GG_aload_n hk (pc' := 4) 0 dX4_hasItem_3 rfl rfl rfl ?_
    refine GG_get hk LC4 6 (v := .ref (kh k + (l0 + 6))) (pc' := 7) tw_62 rfl (kdS h_l0) (by decide) rfl dX4_hasItem_4 rfl ?_
    refine GG_iload_n hk (pc' := 8) 1 dX4_hasItem_7 rfl rfl rfl ?_
    refine GG_iald hk (pc' := 9) (kdSa h_l0 5 (by decide)) (lnSa h_l0 5 (by decide) rfl) dX4_hasItem_8 rfl (fun v1 e_v1 => ?_)
    refine GG_icmp_ge hk 34 (pc' := 12) dX4_hasItem_9 rfl (by decide) (fun c2 => ?_) (fun c2 => ?_)
    · refine GG_iconst hk (pc' := 35) 0 dX4_hasItem_34 rfl rfl ?_
      exact GG_zret hk hq dX4_hasItem_35
    · refine GG_aload_n hk (pc' := 13) 0 dX4_hasItem_12 rfl rfl rfl ?_
      refine GG_get hk LC4 8 (v := .ref (kh k + (l0 + 8))) (pc' := 16) tw_68 rfl (kdS h_l0) (by decide) rfl dX4_hasItem_13 rfl ?_
      refine GG_iload_n hk (pc' := 17) 1 dX4_hasItem_16 rfl rfl rfl ?_
      refine GG_iconst hk (pc' := 18) 4 dX4_hasItem_17 rfl rfl ?_
      refine GG_imul hk (pc' := 19) dX4_hasItem_18 rfl ?_
      refine GG_iload_n hk (pc' := 20) 3 dX4_hasItem_19 rfl rfl rfl ?_
      refine GG_iadd hk (pc' := 21) dX4_hasItem_20 rfl ?_
      refine GG_iald hk (pc' := 22) (kdSa h_l0 7 (by decide)) (lnSa h_l0 7 (by decide) rfl) dX4_hasItem_21 rfl (fun v3 e_v3 => ?_)
      refine GG_iload_n hk (pc' := 23) 2 dX4_hasItem_22 rfl rfl rfl ?_
      refine GG_icmp_ne hk 28 (pc' := 26) dX4_hasItem_23 rfl (by decide) (fun c4 => ?_) (fun c4 => ?_)
      · refine GG_iinc hk (pc' := 31) 3 (l3 + 1) [(3, .int (l3 + 1)), (0, .ref (kh k + l0)), (1, .int l1), (2, .int l2)] dX4_hasItem_28 rfl rfl rfl (by decide) rfl ?_
        refine GG_goto hk 2 dX4_hasItem_31 (by decide) ?_
        refine GG_sub (L' := [(0, .ref (kh k + l0)), (1, .int l1), (2, .int l2), (3, .int (l3 + 1))]) [1, 2, 3, 0] rfl ?_
        exact ih M l0 l1 l2 (l3 + 1) h_l0
      · refine GG_iconst hk (pc' := 27) 1 dX4_hasItem_26 rfl rfl ?_
        exact GG_zret hk hq dX4_hasItem_27
noncomputable def f_X4_hasItem (M : Mem) (s : Nat) (l1 : Int32) (l2 : Int32) : Option (Int32 × Mem) :=
    f_X4_hasItem_2  1000 M s l1 l2 0
set_option maxRecDepth 20000 in
theorem m_X4_hasItem {k : KT} {q : Int32 × Mem} (hk : CX k cX4_hasItem RX4 4 (some .boolean) 1) (hq : RI k q) (M : Mem) (s : Nat) (l1 : Int32) (l2 : Int32) (h_s : okS s) : GG k q (wM k M) 0 [(0, .ref (kh k + s)), (1, .int l1), (2, .int l2)] [] (f_X4_hasItem M s l1 l2) := by
  unfold f_X4_hasItem
  refine GG_iconst hk (pc' := 1) 0 dX4_hasItem_0 rfl rfl ?_
  refine GG_istore_n hk (pc' := 2) [(3, .int 0), (0, .ref (kh k + s)), (1, .int l1), (2, .int l2)] dX4_hasItem_1 rfl rfl (by decide) rfl ?_
  refine GG_sub (L' := [(0, .ref (kh k + s)), (1, .int l1), (2, .int l2), (3, .int 0)]) [1, 2, 3, 0] rfl ?_
  exact m_X4_hasItem_2 hk hq  1000 M s l1 l2 0 h_s
theorem c_X4_hasItem (l : Launch) (C : DD) (a : Nat) (M : Mem) (s : Nat) (l1 : Int32) (l2 : Int32) (h_s : okS s) : CI l C (a) yX4_hasItem cX4_hasItem 4 .boolean 1 [.ref (a + s), .int l1, .int l2] M (f_X4_hasItem M s l1 l2) := by
  refine CI_of RX4 (by decide +kernel) rfl (Nat.le_of_ble_eq_true rfl) (fun k q hk hq e1 e2 e3 => ?_)
  subst e1; subst e2; subst e3
  exact m_X4_hasItem hk hq M s l1 l2 h_s

/-! SettingsInLayers$Scene.keyBits(I)I -/
noncomputable def f_X4_keyBits_4  : Nat → Mem → Nat → Int32 → Int32 → Int32 → Option (Int32 × Mem)
  | 0, _, _, _, _, _ => none
  | n + 1, M, l0, l1, l2, l3 =>
    if 8 ≤ l3 then
      some (l2, M)
    else
      Option.bind (f_X7_slotOf M l1 l3) fun z2 =>
      Option.bind (rd 48 (z2.2 (l0 + 5)) z2.1) fun v3 =>
      if v3 = (-1) then
        f_X4_keyBits_4  n z2.2 l0 l1 l2 (l3 + 1)
      else
        Option.bind (some (l2 ||| (1 <<< (l3 &&& 31)))) fun v5 =>
        f_X4_keyBits_4  n z2.2 l0 l1 v5 (l3 + 1)
set_option maxRecDepth 20000 in
theorem m_X4_keyBits_4 {k : KT} {q : Int32 × Mem} (hk : CX k cX4_keyBits RX4 4 (some .int) 2) (hq : RI k q) : ∀ (n : Nat) (M : Mem) (l0 : Nat) (l1 : Int32) (l2 : Int32) (l3 : Int32) (h_l0 : okS l0), GG k q (wM k M) 4 [(0, .ref (kh k + l0)), (1, .int l1), (2, .int l2), (3, .int l3)] [] (f_X4_keyBits_4  n M l0 l1 l2 l3) := by
  intro n
  induction n with
  | zero => intros; exact GG_none
  | succ n ih =>
    intro M l0 l1 l2 l3 h_l0
    rw [f_X4_keyBits_4]
    refine GG_iload_n hk (pc' := 5) 3 dX4_keyBits_4 rfl rfl rfl ?_
    refine GG_bipush hk (pc' := 7) 8 dX4_keyBits_5 rfl rfl ?_
    refine GG_icmp_ge hk 36 (pc' := 10) dX4_keyBits_7 rfl (by decide) (fun c1 => ?_) (fun c1 => ?_)
    · refine GG_iload_n hk (pc' := 37) 2 dX4_keyBits_36 rfl rfl rfl ?_
      exact GG_iret hk hq dX4_keyBits_37
    · refine GG_aload_n hk (pc' := 11) 0 dX4_keyBits_10 rfl rfl rfl ?_
      refine GG_get hk LC4 5 (v := .ref (kh k + (l0 + 5))) (pc' := 14) tw_58 rfl (kdS h_l0) (by decide) rfl dX4_keyBits_11 rfl ?_
      refine GG_iload_n hk (pc' := 15) 1 dX4_keyBits_14 rfl rfl rfl ?_
      refine GG_iload_n hk (pc' := 16) 3 dX4_keyBits_15 rfl rfl rfl ?_
      refine GG_callNi hk (st := [.ref (kh k + (l0 + 5))]) (pc' := 19) mf_X7_slotOf tw_460 (c_X7_slotOf _ _ _ M l1 l3 ) (by omega) (by decide) rfl rfl (Nat.le_of_ble_eq_true rfl) dX4_keyBits_16 rfl (fun z2 e_z2 => ?_)
      refine GG_iald hk (pc' := 20) (kdSa h_l0 4 (by decide)) (lnSa h_l0 4 (by decide) rfl) dX4_keyBits_19 rfl (fun v3 e_v3 => ?_)
      refine GG_iconst hk (pc' := 21) (-1) dX4_keyBits_20 rfl rfl ?_
      refine GG_icmp_eq hk 30 (pc' := 24) dX4_keyBits_21 rfl (by decide) (fun c4 => ?_) (fun c4 => ?_)
      · refine GG_iinc hk (pc' := 33) 3 (l3 + 1) [(3, .int (l3 + 1)), (0, .ref (kh k + l0)), (1, .int l1), (2, .int l2)] dX4_keyBits_30 rfl rfl rfl (by decide) rfl ?_
        refine GG_goto hk 4 dX4_keyBits_33 (by decide) ?_
        refine GG_sub (L' := [(0, .ref (kh k + l0)), (1, .int l1), (2, .int l2), (3, .int (l3 + 1))]) [1, 2, 3, 0] rfl ?_
        exact ih z2.2 l0 l1 l2 (l3 + 1) h_l0
      · refine GG_iload_n hk (pc' := 25) 2 dX4_keyBits_24 rfl rfl rfl ?_
        refine GG_iconst hk (pc' := 26) 1 dX4_keyBits_25 rfl rfl ?_
        refine GG_iload_n hk (pc' := 27) 3 dX4_keyBits_26 rfl rfl rfl ?_
        refine GG_ishl hk (pc' := 28) dX4_keyBits_27 rfl ?_
        refine GG_ior hk (pc' := 29) dX4_keyBits_28 rfl ?_
        refine GG_nm (fun v5 e_v5 => ?_)
        refine GG_istore_n hk (pc' := 30) [(2, .int v5), (0, .ref (kh k + l0)), (1, .int l1), (3, .int l3)] dX4_keyBits_29 rfl rfl (by decide) rfl ?_
        refine GG_iinc hk (pc' := 33) 3 (l3 + 1) [(3, .int (l3 + 1)), (2, .int v5), (0, .ref (kh k + l0)), (1, .int l1)] dX4_keyBits_30 rfl rfl rfl (by decide) rfl ?_
        refine GG_goto hk 4 dX4_keyBits_33 (by decide) ?_
        refine GG_sub (L' := [(0, .ref (kh k + l0)), (1, .int l1), (2, .int v5), (3, .int (l3 + 1))]) [2, 3, 1, 0] rfl ?_
        exact ih z2.2 l0 l1 v5 (l3 + 1) h_l0
noncomputable def f_X4_keyBits (M : Mem) (s : Nat) (l1 : Int32) : Option (Int32 × Mem) :=
    f_X4_keyBits_4  1000 M s l1 0 0
set_option maxRecDepth 20000 in
theorem m_X4_keyBits {k : KT} {q : Int32 × Mem} (hk : CX k cX4_keyBits RX4 4 (some .int) 2) (hq : RI k q) (M : Mem) (s : Nat) (l1 : Int32) (h_s : okS s) : GG k q (wM k M) 0 [(0, .ref (kh k + s)), (1, .int l1)] [] (f_X4_keyBits M s l1) := by
  unfold f_X4_keyBits
  refine GG_iconst hk (pc' := 1) 0 dX4_keyBits_0 rfl rfl ?_
  refine GG_istore_n hk (pc' := 2) [(2, .int 0), (0, .ref (kh k + s)), (1, .int l1)] dX4_keyBits_1 rfl rfl (by decide) rfl ?_
  refine GG_iconst hk (pc' := 3) 0 dX4_keyBits_2 rfl rfl ?_
  refine GG_istore_n hk (pc' := 4) [(3, .int 0), (2, .int 0), (0, .ref (kh k + s)), (1, .int l1)] dX4_keyBits_3 rfl rfl (by decide) rfl ?_
  refine GG_sub (L' := [(0, .ref (kh k + s)), (1, .int l1), (2, .int 0), (3, .int 0)]) [2, 3, 1, 0] rfl ?_
  exact m_X4_keyBits_4 hk hq  1000 M s l1 0 0 h_s
theorem c_X4_keyBits (l : Launch) (C : DD) (a : Nat) (M : Mem) (s : Nat) (l1 : Int32) (h_s : okS s) : CI l C (a) yX4_keyBits cX4_keyBits 4 .int 2 [.ref (a + s), .int l1] M (f_X4_keyBits M s l1) := by
  refine CI_of RX4 (by decide +kernel) rfl (Nat.le_of_ble_eq_true rfl) (fun k q hk hq e1 e2 e3 => ?_)
  subst e1; subst e2; subst e3
  exact m_X4_keyBits hk hq M s l1 h_s

/-! SettingsInLayers$Scene.howManyBehind(I)I -/
noncomputable def f_X4_howManyBehind_4  : Nat → Mem → Nat → Int32 → Int32 → Int32 → Option (Int32 × Mem)
  | 0, _, _, _, _, _ => none
  | n + 1, M, l0, l1, l2, l3 =>
    if l3 ≤ 0 then
      some (l2, M)
    else
      Option.bind (rd 6 (M (l0 + 4)) l3) fun v2 =>
      if v2 = l1 then
        some (l2, M)
      else
        f_X4_howManyBehind_4  n M l0 l1 (l2 + 1) (l3 + (-1))
set_option maxRecDepth 20000 in
theorem m_X4_howManyBehind_4 {k : KT} {q : Int32 × Mem} (hk : CX k cX4_howManyBehind RX4 4 (some .int) 1) (hq : RI k q) : ∀ (n : Nat) (M : Mem) (l0 : Nat) (l1 : Int32) (l2 : Int32) (l3 : Int32) (h_l0 : okS l0), GG k q (wM k M) 4 [(0, .ref (kh k + l0)), (1, .int l1), (2, .int l2), (3, .int l3)] [] (f_X4_howManyBehind_4  n M l0 l1 l2 l3) := by
  intro n
  induction n with
  | zero => intros; exact GG_none
  | succ n ih =>
    intro M l0 l1 l2 l3 h_l0
    rw [f_X4_howManyBehind_4]
    refine GG_iload_n hk (pc' := 5) 3 dX4_howManyBehind_4 rfl rfl rfl ?_
    refine GG_if_le hk 27 (pc' := 8) dX4_howManyBehind_5 rfl (by decide) (fun c1 => ?_) (fun c1 => ?_)
    · refine GG_iload_n hk (pc' := 28) 2 dX4_howManyBehind_27 rfl rfl rfl ?_
      exact GG_iret hk hq dX4_howManyBehind_28
    · refine GG_aload_n hk (pc' := 9) 0 dX4_howManyBehind_8 rfl rfl rfl ?_
      refine GG_get hk LC4 4 (v := .ref (kh k + (l0 + 4))) (pc' := 12) tw_56 rfl (kdS h_l0) (by decide) rfl dX4_howManyBehind_9 rfl ?_
      refine GG_iload_n hk (pc' := 13) 3 dX4_howManyBehind_12 rfl rfl rfl ?_
      refine GG_iald hk (pc' := 14) (kdSa h_l0 3 (by decide)) (lnSa h_l0 3 (by decide) rfl) dX4_howManyBehind_13 rfl (fun v2 e_v2 => ?_)
      refine GG_iload_n hk (pc' := 15) 1 dX4_howManyBehind_14 rfl rfl rfl ?_
      refine GG_icmp_eq hk 27 (pc' := 18) dX4_howManyBehind_15 rfl (by decide) (fun c3 => ?_) (fun c3 => ?_)
      · refine GG_iload_n hk (pc' := 28) 2 dX4_howManyBehind_27 rfl rfl rfl ?_
        exact GG_iret hk hq dX4_howManyBehind_28
      · refine GG_iinc hk (pc' := 21) 2 (l2 + 1) [(2, .int (l2 + 1)), (0, .ref (kh k + l0)), (1, .int l1), (3, .int l3)] dX4_howManyBehind_18 rfl rfl rfl (by decide) rfl ?_
        refine GG_iinc hk (pc' := 24) 3 (l3 + (-1)) [(3, .int (l3 + (-1))), (2, .int (l2 + 1)), (0, .ref (kh k + l0)), (1, .int l1)] dX4_howManyBehind_21 rfl rfl rfl (by decide) rfl ?_
        refine GG_goto hk 4 dX4_howManyBehind_24 (by decide) ?_
        refine GG_sub (L' := [(0, .ref (kh k + l0)), (1, .int l1), (2, .int (l2 + 1)), (3, .int (l3 + (-1)))]) [2, 3, 1, 0] rfl ?_
        exact ih M l0 l1 (l2 + 1) (l3 + (-1)) h_l0
noncomputable def f_X4_howManyBehind (M : Mem) (s : Nat) (l1 : Int32) : Option (Int32 × Mem) :=
    f_X4_howManyBehind_4  1000 M s l1 0 5
set_option maxRecDepth 20000 in
theorem m_X4_howManyBehind {k : KT} {q : Int32 × Mem} (hk : CX k cX4_howManyBehind RX4 4 (some .int) 1) (hq : RI k q) (M : Mem) (s : Nat) (l1 : Int32) (h_s : okS s) : GG k q (wM k M) 0 [(0, .ref (kh k + s)), (1, .int l1)] [] (f_X4_howManyBehind M s l1) := by
  unfold f_X4_howManyBehind
  refine GG_iconst hk (pc' := 1) 0 dX4_howManyBehind_0 rfl rfl ?_
  refine GG_istore_n hk (pc' := 2) [(2, .int 0), (0, .ref (kh k + s)), (1, .int l1)] dX4_howManyBehind_1 rfl rfl (by decide) rfl ?_
  refine GG_iconst hk (pc' := 3) 5 dX4_howManyBehind_2 rfl rfl ?_
  refine GG_istore_n hk (pc' := 4) [(3, .int 5), (2, .int 0), (0, .ref (kh k + s)), (1, .int l1)] dX4_howManyBehind_3 rfl rfl (by decide) rfl ?_
  refine GG_sub (L' := [(0, .ref (kh k + s)), (1, .int l1), (2, .int 0), (3, .int 5)]) [2, 3, 1, 0] rfl ?_
  exact m_X4_howManyBehind_4 hk hq  1000 M s l1 0 5 h_s
theorem c_X4_howManyBehind (l : Launch) (C : DD) (a : Nat) (M : Mem) (s : Nat) (l1 : Int32) (h_s : okS s) : CI l C (a) yX4_howManyBehind cX4_howManyBehind 4 .int 1 [.ref (a + s), .int l1] M (f_X4_howManyBehind M s l1) := by
  refine CI_of RX4 (by decide +kernel) rfl (Nat.le_of_ble_eq_true rfl) (fun k q hk hq e1 e2 e3 => ?_)
  subst e1; subst e2; subst e3
  exact m_X4_howManyBehind hk hq M s l1 h_s

/-! SettingsInLayers$Outcome.reset()V -/
noncomputable def f_X1_reset (M : Mem) (o : Nat) : Option Mem :=
    Option.bind (wrf M o 0 0) fun M1 =>
    Option.bind (wrf M1 o 1 0) fun M2 =>
    Option.bind (wrf M2 o 5 0) fun M3 =>
    Option.bind (wrf M3 o 8 0) fun M4 =>
    Option.bind (wrf M4 o 9 0) fun M5 =>
    Option.bind (wrf M5 o 11 0) fun M6 =>
    Option.bind (wrf M6 o 12 0) fun M7 =>
    Option.bind (wrf M7 o 13 0) fun M8 =>
    some M8
set_option maxRecDepth 20000 in
theorem m_X1_reset {k : KT} {q : Mem} (hk : CX k cX1_reset RX1 1 none 1) (hq : RV k q) (M : Mem) (o : Nat) (h_o : okO o) : GG k q (wM k M) 0 [(0, .ref (kh k + o))] [] (f_X1_reset M o) := by
  unfold f_X1_reset
  refine GG_aload_n hk (pc' := 1) 0 dX1_reset_0 rfl rfl rfl ?_
  refine GG_iconst hk (pc' := 2) 0 dX1_reset_1 rfl rfl ?_
  refine GG_put hk LC1 0 (pc' := 5) tw_107 rfl (kdO h_o) (by decide) rfl rfl (Nat.le_of_ble_eq_true rfl) (pv_1_0 _ _ _ _) dX1_reset_2 rfl (fun M1 e_M1 => ?_)
  refine GG_aload_n hk (pc' := 6) 0 dX1_reset_5 rfl rfl rfl ?_
  refine GG_iconst hk (pc' := 7) 0 dX1_reset_6 rfl rfl ?_
  refine GG_put hk LC1 1 (pc' := 10) tw_110 rfl (kdO h_o) (by decide) rfl rfl (Nat.le_of_ble_eq_true rfl) (pv_1_1 _ _ _ _) dX1_reset_7 rfl (fun M2 e_M2 => ?_)
  refine GG_aload_n hk (pc' := 11) 0 dX1_reset_10 rfl rfl rfl ?_
  refine GG_iconst hk (pc' := 12) 0 dX1_reset_11 rfl rfl ?_
  refine GG_put hk LC1 5 (pc' := 15) tw_121 rfl (kdO h_o) (by decide) rfl rfl (Nat.le_of_ble_eq_true rfl) (pv_1_5 _ _ _ _) dX1_reset_12 rfl (fun M3 e_M3 => ?_)
  refine GG_aload_n hk (pc' := 16) 0 dX1_reset_15 rfl rfl rfl ?_
  refine GG_iconst hk (pc' := 17) 0 dX1_reset_16 rfl rfl ?_
  refine GG_put hk LC1 8 (pc' := 20) tw_130 rfl (kdO h_o) (by decide) rfl rfl (Nat.le_of_ble_eq_true rfl) (pv_1_8 _ _ _ _) dX1_reset_17 rfl (fun M4 e_M4 => ?_)
  refine GG_aload_n hk (pc' := 21) 0 dX1_reset_20 rfl rfl rfl ?_
  refine GG_iconst hk (pc' := 22) 0 dX1_reset_21 rfl rfl ?_
  refine GG_put hk LC1 9 (pc' := 25) tw_133 rfl (kdO h_o) (by decide) rfl rfl (Nat.le_of_ble_eq_true rfl) (pv_1_9 _ _ _ _) dX1_reset_22 rfl (fun M5 e_M5 => ?_)
  refine GG_aload_n hk (pc' := 26) 0 dX1_reset_25 rfl rfl rfl ?_
  refine GG_iconst hk (pc' := 27) 0 dX1_reset_26 rfl rfl ?_
  refine GG_put hk LC1 11 (pc' := 30) tw_136 rfl (kdO h_o) (by decide) rfl rfl (Nat.le_of_ble_eq_true rfl) (pv_1_11 _ _ _ _) dX1_reset_27 rfl (fun M6 e_M6 => ?_)
  refine GG_aload_n hk (pc' := 31) 0 dX1_reset_30 rfl rfl rfl ?_
  refine GG_iconst hk (pc' := 32) 0 dX1_reset_31 rfl rfl ?_
  refine GG_put hk LC1 12 (pc' := 35) tw_138 rfl (kdO h_o) (by decide) rfl rfl (Nat.le_of_ble_eq_true rfl) (pv_1_12 _ _ _ _) dX1_reset_32 rfl (fun M7 e_M7 => ?_)
  refine GG_aload_n hk (pc' := 36) 0 dX1_reset_35 rfl rfl rfl ?_
  refine GG_iconst hk (pc' := 37) 0 dX1_reset_36 rfl rfl ?_
  refine GG_put hk LC1 13 (pc' := 40) tw_140 rfl (kdO h_o) (by decide) rfl rfl (Nat.le_of_ble_eq_true rfl) (pv_1_13 _ _ _ _) dX1_reset_37 rfl (fun M8 e_M8 => ?_)
  exact GG_vret hk hq dX1_reset_40
theorem c_X1_reset (l : Launch) (C : DD) (a : Nat) (M : Mem) (o : Nat) (h_o : okO o) : CV l C (a) yX1_reset cX1_reset 1 1 [.ref (a + o)] M (f_X1_reset M o) := by
  refine CV_of RX1 (by decide +kernel) rfl (Nat.le_of_ble_eq_true rfl) (fun k q hk hq e1 e2 e3 => ?_)
  subst e1; subst e2; subst e3
  exact m_X1_reset hk hq M o h_o

/-! SettingsInLayers$Resolver.fail(II)Z -/
noncomputable def f_X2_fail_44  (M : Mem) (l1 : Int32) (l2 : Int32) (l3 : Nat) : Option (Int32 × Mem) :=
    Option.bind (wra 9 M (l3 + 4) l2 l1) fun M1 =>
    Option.bind (rd 9 (M1 32) l2) fun v2 =>
    Option.bind (wra 9 M1 (l3 + 5) l2 v2) fun M3 =>
    Option.bind (wrf M3 l3 5 (l2 + 1)) fun M4 =>
    Option.bind (wrf M4 l3 0 2) fun M5 =>
    bret 0 M5
set_option maxRecDepth 20000 in
theorem m_X2_fail_44 {k : KT} {q : Int32 × Mem} (hk : CX k cX2_fail RX2 5 (some .boolean) 1) (hq : RI k q) (M : Mem) (l1 : Int32) (l2 : Int32) (l3 : Nat) (h_l3 : okO l3) : GG k q (wM k M) 44 [(0, .ref (kh k + 31)), (1, .int l1), (2, .int l2), (3, .ref (kh k + l3))] [] (f_X2_fail_44  M l1 l2 l3) := by
  unfold f_X2_fail_44
  refine GG_aload_n hk (pc' := 45) 3 dX2_fail_44 rfl rfl rfl ?_
  refine GG_get hk LC1 6 (v := .ref (kh k + (l3 + 4))) (pc' := 48) tw_125 rfl (kdO h_l3) (by decide) rfl dX2_fail_45 rfl ?_
  refine GG_iload_n hk (pc' := 49) 2 dX2_fail_48 rfl rfl rfl ?_
  refine GG_iload_n hk (pc' := 50) 1 dX2_fail_49 rfl rfl rfl ?_
  refine GG_iast hk (pc' := 51) (kdOa h_l3 3 (by decide)) (lnOa h_l3 3 (by decide) rfl) dX2_fail_50 rfl (fun M1 e_M1 => ?_)
  refine GG_aload_n hk (pc' := 52) 3 dX2_fail_51 rfl rfl rfl ?_
  refine GG_get hk LC1 7 (v := .ref (kh k + (l3 + 5))) (pc' := 55) tw_128 rfl (kdO h_l3) (by decide) rfl dX2_fail_52 rfl ?_
  refine GG_iload_n hk (pc' := 56) 2 dX2_fail_55 rfl rfl rfl ?_
  refine GG_aload_n hk (pc' := 57) 0 dX2_fail_56 rfl rfl rfl ?_
  refine GG_get hk LC2 4 (v := .ref (kh k + 32)) (pc' := 60) tw_176 rfl rfl (by decide) rfl dX2_fail_57 rfl ?_
  refine GG_iload_n hk (pc' := 61) 2 dX2_fail_60 rfl rfl rfl ?_
  refine GG_iald hk (pc' := 62) rfl rfl dX2_fail_61 rfl (fun v2 e_v2 => ?_)
  refine GG_iast hk (pc' := 63) (kdOa h_l3 4 (by decide)) (lnOa h_l3 4 (by decide) rfl) dX2_fail_62 rfl (fun M3 e_M3 => ?_)
  refine GG_aload_n hk (pc' := 64) 3 dX2_fail_63 rfl rfl rfl ?_
  refine GG_iload_n hk (pc' := 65) 2 dX2_fail_64 rfl rfl rfl ?_
  refine GG_iconst hk (pc' := 66) 1 dX2_fail_65 rfl rfl ?_
  refine GG_iadd hk (pc' := 67) dX2_fail_66 rfl ?_
  refine GG_put hk LC1 5 (pc' := 70) tw_122 rfl (kdO h_l3) (by decide) rfl rfl (Nat.le_of_ble_eq_true rfl) (pv_1_5 _ _ _ _) dX2_fail_67 rfl (fun M4 e_M4 => ?_)
  refine GG_aload_n hk (pc' := 71) 3 dX2_fail_70 rfl rfl rfl ?_
  refine GG_iconst hk (pc' := 72) 2 dX2_fail_71 rfl rfl ?_
  refine GG_put hk LC1 0 (pc' := 75) tw_108 rfl (kdO h_l3) (by decide) rfl rfl (Nat.le_of_ble_eq_true rfl) (pv_1_0 _ _ _ _) dX2_fail_72 rfl (fun M5 e_M5 => ?_)
  refine GG_iconst hk (pc' := 76) 0 dX2_fail_75 rfl rfl ?_
  exact GG_zret hk hq dX2_fail_76
noncomputable def f_X2_fail_10  : Nat → Mem → Int32 → Int32 → Nat → Int32 → Option (Int32 × Mem)
  | 0, _, _, _, _, _ => none
  | n + 1, M, l1, l2, l3, l4 =>
    if l2 ≤ l4 then
      f_X2_fail_44  M l1 l2 l3
    else
      Option.bind (wra 9 M (l3 + 4) l4 5) fun M2 =>
      Option.bind (rd 9 (M2 32) l4) fun v3 =>
      Option.bind (wra 9 M2 (l3 + 5) l4 v3) fun M4 =>
      f_X2_fail_10  n M4 l1 l2 l3 (l4 + 1)
set_option maxRecDepth 20000 in
theorem m_X2_fail_10 {k : KT} {q : Int32 × Mem} (hk : CX k cX2_fail RX2 5 (some .boolean) 1) (hq : RI k q) : ∀ (n : Nat) (M : Mem) (l1 : Int32) (l2 : Int32) (l3 : Nat) (l4 : Int32) (h_l3 : okO l3), GG k q (wM k M) 10 [(0, .ref (kh k + 31)), (1, .int l1), (2, .int l2), (3, .ref (kh k + l3)), (4, .int l4)] [] (f_X2_fail_10  n M l1 l2 l3 l4) := by
  intro n
  induction n with
  | zero => intros; exact GG_none
  | succ n ih =>
    intro M l1 l2 l3 l4 h_l3
    rw [f_X2_fail_10]
    refine GG_iload hk (pc' := 12) 4 dX2_fail_10 rfl rfl ?_
    refine GG_iload_n hk (pc' := 13) 2 dX2_fail_12 rfl rfl rfl ?_
    refine GG_icmp_ge hk 44 (pc' := 16) dX2_fail_13 rfl (by decide) (fun c1 => ?_) (fun c1 => ?_)
    · refine GG_sub (L' := [(0, .ref (kh k + 31)), (1, .int l1), (2, .int l2), (3, .ref (kh k + l3))]) [0, 1, 2, 3] rfl ?_
      exact m_X2_fail_44 hk hq  M l1 l2 l3 h_l3
    · refine GG_aload_n hk (pc' := 17) 3 dX2_fail_16 rfl rfl rfl ?_
      refine GG_get hk LC1 6 (v := .ref (kh k + (l3 + 4))) (pc' := 20) tw_125 rfl (kdO h_l3) (by decide) rfl dX2_fail_17 rfl ?_
      refine GG_iload hk (pc' := 22) 4 dX2_fail_20 rfl rfl ?_
      refine GG_iconst hk (pc' := 23) 5 dX2_fail_22 rfl rfl ?_
      refine GG_iast hk (pc' := 24) (kdOa h_l3 3 (by decide)) (lnOa h_l3 3 (by decide) rfl) dX2_fail_23 rfl (fun M2 e_M2 => ?_)
      refine GG_aload_n hk (pc' := 25) 3 dX2_fail_24 rfl rfl rfl ?_
      refine GG_get hk LC1 7 (v := .ref (kh k + (l3 + 5))) (pc' := 28) tw_128 rfl (kdO h_l3) (by decide) rfl dX2_fail_25 rfl ?_
      refine GG_iload hk (pc' := 30) 4 dX2_fail_28 rfl rfl ?_
      refine GG_aload_n hk (pc' := 31) 0 dX2_fail_30 rfl rfl rfl ?_
      refine GG_get hk LC2 4 (v := .ref (kh k + 32)) (pc' := 34) tw_176 rfl rfl (by decide) rfl dX2_fail_31 rfl ?_
      refine GG_iload hk (pc' := 36) 4 dX2_fail_34 rfl rfl ?_
      refine GG_iald hk (pc' := 37) rfl rfl dX2_fail_36 rfl (fun v3 e_v3 => ?_)
      refine GG_iast hk (pc' := 38) (kdOa h_l3 4 (by decide)) (lnOa h_l3 4 (by decide) rfl) dX2_fail_37 rfl (fun M4 e_M4 => ?_)
      refine GG_iinc hk (pc' := 41) 4 (l4 + 1) [(4, .int (l4 + 1)), (0, .ref (kh k + 31)), (1, .int l1), (2, .int l2), (3, .ref (kh k + l3))] dX2_fail_38 rfl rfl rfl (by decide) rfl ?_
      refine GG_goto hk 10 dX2_fail_41 (by decide) ?_
      refine GG_sub (L' := [(0, .ref (kh k + 31)), (1, .int l1), (2, .int l2), (3, .ref (kh k + l3)), (4, .int (l4 + 1))]) [1, 2, 3, 4, 0] rfl ?_
      exact ih M4 l1 l2 l3 (l4 + 1) h_l3
noncomputable def f_X2_fail (M : Mem) (l1 : Int32) (l2 : Int32) : Option (Int32 × Mem) :=
    Option.bind (rdO 9 34 0) fun o1 =>
    f_X2_fail_10  1000 M l1 l2 o1 0
set_option maxRecDepth 20000 in
theorem m_X2_fail {k : KT} {q : Int32 × Mem} (hk : CX k cX2_fail RX2 5 (some .boolean) 1) (hq : RI k q) (M : Mem) (l1 : Int32) (l2 : Int32)  : GG k q (wM k M) 0 [(0, .ref (kh k + 31)), (1, .int l1), (2, .int l2)] [] (f_X2_fail M l1 l2) := by
  unfold f_X2_fail
  refine GG_aload_n hk (pc' := 1) 0 dX2_fail_0 rfl rfl rfl ?_
  refine GG_get hk LC2 5 (v := .ref (kh k + 33)) (pc' := 4) tw_177 rfl rfl (by decide) rfl dX2_fail_1 rfl ?_
  refine GG_iconst hk (pc' := 5) 0 dX2_fail_4 rfl rfl ?_
  refine GG_aald hk (pc' := 6) rfl rfl (b := 34) rfl okO_33 dX2_fail_5 rfl (fun o1 h_o1 e_o1 => ?_)
  refine GG_astore_n hk (pc' := 7) [(3, .ref (kh k + o1)), (0, .ref (kh k + 31)), (1, .int l1), (2, .int l2)] dX2_fail_6 rfl rfl (by decide) rfl ?_
  refine GG_iconst hk (pc' := 8) 0 dX2_fail_7 rfl rfl ?_
  refine GG_istore hk (pc' := 10) [(4, .int 0), (3, .ref (kh k + o1)), (0, .ref (kh k + 31)), (1, .int l1), (2, .int l2)] dX2_fail_8 rfl (by decide) rfl ?_
  refine GG_sub (L' := [(0, .ref (kh k + 31)), (1, .int l1), (2, .int l2), (3, .ref (kh k + o1)), (4, .int 0)]) [2, 3, 4, 1, 0] rfl ?_
  exact m_X2_fail_10 hk hq  1000 M l1 l2 o1 0 h_o1
theorem c_X2_fail (l : Launch) (C : DD) (a : Nat) (M : Mem) (l1 : Int32) (l2 : Int32)  : CI l C (a) yX2_fail cX2_fail 5 .boolean 1 [.ref (a + 31), .int l1, .int l2] M (f_X2_fail M l1 l2) := by
  refine CI_of RX2 (by decide +kernel) rfl (Nat.le_of_ble_eq_true rfl) (fun k q hk hq e1 e2 e3 => ?_)
  subst e1; subst e2; subst e3
  exact m_X2_fail hk hq M l1 l2 

/-! SettingsInLayers$Resolver.counts(III)Z -/
noncomputable def f_X2_counts (M : Mem) (l1 : Int32) (l2 : Int32) (l3 : Int32) : Option (Int32 × Mem) :=
    Option.bind (rsc (M 31 0)) fun s1 =>
    Option.bind (rd 6 (M (s1 + 1)) l1) fun v2 =>
    if v2 = 4 then
      if ¬ l3 = 0 then
        bret 0 M
      else
        bret 1 M
    else
      if v2 = 5 then
        Option.bind (rsc (M 31 0)) fun s6 =>
        Option.bind (rd 6 (M (s6 + 2)) l1) fun v7 =>
        if v7 < l2 then
          bret 0 M
        else
          bret 1 M
      else
        bret 1 M
set_option maxRecDepth 20000 in
theorem m_X2_counts {k : KT} {q : Int32 × Mem} (hk : CX k cX2_counts RX2 4 (some .boolean) 1) (hq : RI k q) (M : Mem) (l1 : Int32) (l2 : Int32) (l3 : Int32)  : GG k q (wM k M) 0 [(0, .ref (kh k + 31)), (1, .int l1), (2, .int l2), (3, .int l3)] [] (f_X2_counts M l1 l2 l3) := by
  unfold f_X2_counts
  refine GG_aload_n hk (pc' := 1) 0 dX2_counts_0 rfl rfl rfl ?_
  refine GG_scene hk (pc' := 4) tw_172 dX2_counts_1 rfl (fun s1 h_s1 e_s1 => ?_)
  refine GG_get hk LC4 1 (v := .ref (kh k + (s1 + 1))) (pc' := 7) tw_48 rfl (kdS h_s1) (by decide) rfl dX2_counts_4 rfl ?_
  refine GG_iload_n hk (pc' := 8) 1 dX2_counts_7 rfl rfl rfl ?_
  refine GG_iald hk (pc' := 9) (kdSa h_s1 0 (by decide)) (lnSa h_s1 0 (by decide) rfl) dX2_counts_8 rfl (fun v2 e_v2 => ?_)
  
  refine GG_if (fun c3 => ?_) (fun c3 => ?_)
  · refine GG_look hk 36 dX2_counts_9 (by decide) (off := 27) (by rw [c3]; rfl) (by decide) ?_
    refine GG_iload_n hk (pc' := 37) 3 dX2_counts_36 rfl rfl rfl ?_
    refine GG_if_ne hk 44 (pc' := 40) dX2_counts_37 rfl (by decide) (fun c4 => ?_) (fun c4 => ?_)
    · refine GG_iconst hk (pc' := 45) 0 dX2_counts_44 rfl rfl ?_
      exact GG_zret hk hq dX2_counts_45
    · refine GG_iconst hk (pc' := 41) 1 dX2_counts_40 rfl rfl ?_
      refine GG_goto hk 45 dX2_counts_41 (by decide) ?_
      exact GG_zret hk hq dX2_counts_45
  · refine GG_if (fun c5 => ?_) (fun c5 => ?_)
    · refine GG_look hk 46 dX2_counts_9 (by decide) (off := 37) (by rw [c5]; rfl) (by decide) ?_
      refine GG_iload_n hk (pc' := 47) 2 dX2_counts_46 rfl rfl rfl ?_
      refine GG_aload_n hk (pc' := 48) 0 dX2_counts_47 rfl rfl rfl ?_
      refine GG_scene hk (pc' := 51) tw_172 dX2_counts_48 rfl (fun s6 h_s6 e_s6 => ?_)
      refine GG_get hk LC4 2 (v := .ref (kh k + (s6 + 2))) (pc' := 54) tw_51 rfl (kdS h_s6) (by decide) rfl dX2_counts_51 rfl ?_
      refine GG_iload_n hk (pc' := 55) 1 dX2_counts_54 rfl rfl rfl ?_
      refine GG_iald hk (pc' := 56) (kdSa h_s6 1 (by decide)) (lnSa h_s6 1 (by decide) rfl) dX2_counts_55 rfl (fun v7 e_v7 => ?_)
      refine GG_icmp_gt hk 63 (pc' := 59) dX2_counts_56 rfl (by decide) (fun c8 => ?_) (fun c8 => ?_)
      · refine GG_iconst hk (pc' := 64) 0 dX2_counts_63 rfl rfl ?_
        exact GG_zret hk hq dX2_counts_64
      · refine GG_iconst hk (pc' := 60) 1 dX2_counts_59 rfl rfl ?_
        refine GG_goto hk 64 dX2_counts_60 (by decide) ?_
        exact GG_zret hk hq dX2_counts_64
    · refine GG_look hk 65 dX2_counts_9 (by decide) (off := 56) ((lv_osw c3 rfl).trans ((lv_osw c5 rfl).trans rfl)) (by decide) ?_
      refine GG_iconst hk (pc' := 66) 1 dX2_counts_65 rfl rfl ?_
      exact GG_zret hk hq dX2_counts_66
theorem c_X2_counts (l : Launch) (C : DD) (a : Nat) (M : Mem) (l1 : Int32) (l2 : Int32) (l3 : Int32)  : CI l C (a) yX2_counts cX2_counts 4 .boolean 1 [.ref (a + 31), .int l1, .int l2, .int l3] M (f_X2_counts M l1 l2 l3) := by
  refine CI_of RX2 (by decide +kernel) rfl (Nat.le_of_ble_eq_true rfl) (fun k q hk hq e1 e2 e3 => ?_)
  subst e1; subst e2; subst e3
  exact m_X2_counts hk hq M l1 l2 l3 

/-! SettingsInLayers$Outcome.addOffer(I)V -/
noncomputable def f_X1_addOffer (M : Mem) (o : Nat) (l1 : Int32) : Option Mem :=
    Option.bind (wra 6 M (o + 6) (M o 8) l1) fun M1 =>
    Option.bind (wrf M1 o 8 ((M1 o 8) + 1)) fun M2 =>
    Option.bind (wrf M2 o 9 ((M2 o 9) ||| (1 <<< (l1 &&& 31)))) fun M3 =>
    some M3
set_option maxRecDepth 20000 in
theorem m_X1_addOffer {k : KT} {q : Mem} (hk : CX k cX1_addOffer RX1 2 none 1) (hq : RV k q) (M : Mem) (o : Nat) (l1 : Int32) (h_o : okO o) : GG k q (wM k M) 0 [(0, .ref (kh k + o)), (1, .int l1)] [] (f_X1_addOffer M o l1) := by
  unfold f_X1_addOffer
  refine GG_aload_n hk (pc' := 1) 0 dX1_addOffer_0 rfl rfl rfl ?_
  refine GG_get hk LC1 10 (v := .ref (kh k + (o + 6))) (pc' := 4) tw_135 rfl (kdO h_o) (by decide) rfl dX1_addOffer_1 rfl ?_
  refine GG_aload_n hk (pc' := 5) 0 dX1_addOffer_4 rfl rfl rfl ?_
  refine GG_get hk LC1 8 (v := .int (M o 8)) (pc' := 8) tw_130 rfl (kdO h_o) (by decide) rfl dX1_addOffer_5 rfl ?_
  refine GG_iload_n hk (pc' := 9) 1 dX1_addOffer_8 rfl rfl rfl ?_
  refine GG_iast hk (pc' := 10) (kdOa h_o 5 (by decide)) (lnOa h_o 5 (by decide) rfl) dX1_addOffer_9 rfl (fun M1 e_M1 => ?_)
  refine GG_aload_n hk (pc' := 11) 0 dX1_addOffer_10 rfl rfl rfl ?_
  refine GG_dup hk (pc' := 12) dX1_addOffer_11 rfl rfl ?_
  refine GG_get hk LC1 8 (v := .int (M1 o 8)) (pc' := 15) tw_130 rfl (kdO h_o) (by decide) rfl dX1_addOffer_12 rfl ?_
  refine GG_iconst hk (pc' := 16) 1 dX1_addOffer_15 rfl rfl ?_
  refine GG_iadd hk (pc' := 17) dX1_addOffer_16 rfl ?_
  refine GG_put hk LC1 8 (pc' := 20) tw_130 rfl (kdO h_o) (by decide) rfl rfl (Nat.le_of_ble_eq_true rfl) (pv_1_8 _ _ _ _) dX1_addOffer_17 rfl (fun M2 e_M2 => ?_)
  refine GG_aload_n hk (pc' := 21) 0 dX1_addOffer_20 rfl rfl rfl ?_
  refine GG_dup hk (pc' := 22) dX1_addOffer_21 rfl rfl ?_
  refine GG_get hk LC1 9 (v := .int (M2 o 9)) (pc' := 25) tw_133 rfl (kdO h_o) (by decide) rfl dX1_addOffer_22 rfl ?_
  refine GG_iconst hk (pc' := 26) 1 dX1_addOffer_25 rfl rfl ?_
  refine GG_iload_n hk (pc' := 27) 1 dX1_addOffer_26 rfl rfl rfl ?_
  refine GG_ishl hk (pc' := 28) dX1_addOffer_27 rfl ?_
  refine GG_ior hk (pc' := 29) dX1_addOffer_28 rfl ?_
  refine GG_put hk LC1 9 (pc' := 32) tw_133 rfl (kdO h_o) (by decide) rfl rfl (Nat.le_of_ble_eq_true rfl) (pv_1_9 _ _ _ _) dX1_addOffer_29 rfl (fun M3 e_M3 => ?_)
  exact GG_vret hk hq dX1_addOffer_32
theorem c_X1_addOffer (l : Launch) (C : DD) (a : Nat) (M : Mem) (o : Nat) (l1 : Int32) (h_o : okO o) : CV l C (a) yX1_addOffer cX1_addOffer 2 1 [.ref (a + o), .int l1] M (f_X1_addOffer M o l1) := by
  refine CV_of RX1 (by decide +kernel) rfl (Nat.le_of_ble_eq_true rfl) (fun k q hk hq e1 e2 e3 => ?_)
  subst e1; subst e2; subst e3
  exact m_X1_addOffer hk hq M o l1 h_o

/-! SettingsInLayers$Resolver.gatherOffers(ILSettingsInLayers$Outcome;)V -/
noncomputable def f_X2_gatherOffers_2  : Nat → Mem → Int32 → Nat → Int32 → Option Mem
  | 0, _, _, _, _ => none
  | n + 1, M, l1, l2, l3 =>
    if l3 < 0 then
      some M
    else
      Option.bind (rsc (M 31 0)) fun s2 =>
      Option.bind (rd 6 (M (s2 + 4)) l3) fun v3 =>
      Option.bind (rsc (M 31 0)) fun s4 =>
      Option.bind (f_X7_slotOf M v3 l1) fun z5 =>
      Option.bind (rd 48 (z5.2 (s4 + 5)) z5.1) fun v6 =>
      if v6 = (-1) then
        f_X2_gatherOffers_2  n z5.2 l1 l2 (l3 + (-1))
      else
        Option.bind (rsc (z5.2 31 0)) fun s8 =>
        Option.bind (f_X4_isOn z5.2 s8 v3) fun z9 =>
        if z9.1 = 0 then
          f_X2_gatherOffers_2  n z9.2 l1 l2 (l3 + (-1))
        else
          Option.bind (f_X2_counts z9.2 v3 l1 (z9.2 l2 8)) fun z11 =>
          if z11.1 = 0 then
            f_X2_gatherOffers_2  n z11.2 l1 l2 (l3 + (-1))
          else
            if ¬ v6 = 4 then
              Option.bind (f_X1_addOffer z11.2 l2 v3) fun z14 =>
              f_X2_gatherOffers_2  n z14 l1 l2 (l3 + (-1))
            else
              some z11.2
set_option maxRecDepth 20000 in
theorem m_X2_gatherOffers_2 {k : KT} {q : Mem} (hk : CX k cX2_gatherOffers RX2 6 none 2) (hq : RV k q) : ∀ (n : Nat) (M : Mem) (l1 : Int32) (l2 : Nat) (l3 : Int32) (h_l2 : okO l2), GG k q (wM k M) 2 [(0, .ref (kh k + 31)), (1, .int l1), (2, .ref (kh k + l2)), (3, .int l3)] [] (f_X2_gatherOffers_2  n M l1 l2 l3) := by
  intro n
  induction n with
  | zero => intros; exact GG_none
  | succ n ih =>
    intro M l1 l2 l3 h_l2
    rw [f_X2_gatherOffers_2]
    refine GG_iload_n hk (pc' := 3) 3 dX2_gatherOffers_2 rfl rfl rfl ?_
    refine GG_if_lt hk 84 (pc' := 6) dX2_gatherOffers_3 rfl (by decide) (fun c1 => ?_) (fun c1 => ?_)
    · exact GG_vret hk hq dX2_gatherOffers_84
    · refine GG_aload_n hk (pc' := 7) 0 dX2_gatherOffers_6 rfl rfl rfl ?_
      refine GG_scene hk (pc' := 10) tw_172 dX2_gatherOffers_7 rfl (fun s2 h_s2 e_s2 => ?_)
      refine GG_get hk LC4 4 (v := .ref (kh k + (s2 + 4))) (pc' := 13) tw_57 rfl (kdS h_s2) (by decide) rfl dX2_gatherOffers_10 rfl ?_
      refine GG_iload_n hk (pc' := 14) 3 dX2_gatherOffers_13 rfl rfl rfl ?_
      refine GG_iald hk (pc' := 15) (kdSa h_s2 3 (by decide)) (lnSa h_s2 3 (by decide) rfl) dX2_gatherOffers_14 rfl (fun v3 e_v3 => ?_)
      refine GG_istore hk (pc' := 17) [(4, .int v3), (0, .ref (kh k + 31)), (1, .int l1), (2, .ref (kh k + l2)), (3, .int l3)] dX2_gatherOffers_15 rfl (by decide) rfl ?_
      refine GG_aload_n hk (pc' := 18) 1 dX2_gatherOffers_17 rfl rfl rfl ?_
      refine GG_scene hk (pc' := 21) tw_172 dX2_gatherOffers_18 rfl (fun s4 h_s4 e_s4 => ?_)
      refine GG_get hk LC4 5 (v := .ref (kh k + (s4 + 5))) (pc' := 24) tw_59 rfl (kdS h_s4) (by decide) rfl dX2_gatherOffers_21 rfl ?_
      refine GG_iload hk (pc' := 26) 0 dX2_gatherOffers_24 rfl rfl ?_
      refine GG_iload_n hk (pc' := 27) 2 dX2_gatherOffers_26 rfl rfl rfl ?_
      refine GG_callNi hk (st := [.ref (kh k + (s4 + 5))]) (pc' := 30) mf_X7_slotOf tw_460 (c_X7_slotOf _ _ _ M v3 l1 ) (by omega) (by decide) rfl rfl (Nat.le_of_ble_eq_true rfl) dX2_gatherOffers_27 rfl (fun z5 e_z5 => ?_)
      refine GG_iald hk (pc' := 31) (kdSa h_s4 4 (by decide)) (lnSa h_s4 4 (by decide) rfl) dX2_gatherOffers_30 rfl (fun v6 e_v6 => ?_)
      refine GG_istore hk (pc' := 33) [(5, .int v6), (4, .int v3), (0, .ref (kh k + 31)), (1, .int l1), (2, .ref (kh k + l2)), (3, .int l3)] dX2_gatherOffers_31 rfl (by decide) rfl ?_
      refine GG_iload hk (pc' := 35) 0 dX2_gatherOffers_33 rfl rfl ?_
      refine GG_iconst hk (pc' := 36) (-1) dX2_gatherOffers_35 rfl rfl ?_
      refine GG_icmp_eq hk 78 (pc' := 39) dX2_gatherOffers_36 rfl (by decide) (fun c7 => ?_) (fun c7 => ?_)
      · refine GG_iinc hk (pc' := 81) 5 (l3 + (-1)) [(3, .int (l3 + (-1))), (5, .int v6), (4, .int v3), (0, .ref (kh k + 31)), (1, .int l1), (2, .ref (kh k + l2))] dX2_gatherOffers_78 rfl rfl rfl (by decide) rfl ?_
        refine GG_goto hk 2 dX2_gatherOffers_81 (by decide) ?_
        refine GG_sub (L' := [(0, .ref (kh k + 31)), (1, .int l1), (2, .ref (kh k + l2)), (3, .int (l3 + (-1)))]) [3, 4, 5, 0] rfl ?_
        exact ih z5.2 l1 l2 (l3 + (-1)) h_l2
      · refine GG_aload_n hk (pc' := 40) 2 dX2_gatherOffers_39 rfl rfl rfl ?_
        refine GG_scene hk (pc' := 43) tw_172 dX2_gatherOffers_40 rfl (fun s8 h_s8 e_s8 => ?_)
        refine GG_iload hk (pc' := 45) 1 dX2_gatherOffers_43 rfl rfl ?_
        refine GG_callVi hk (st := []) (pc' := 48) mf_X4_isOn mv_X4_isOn LC4 rfl (c_X4_isOn _ _ _ z5.2 s8 v3 h_s8) (by omega) tw_584 (kdS h_s8) rfl rfl (Nat.le_of_ble_eq_true rfl) dX2_gatherOffers_45 rfl (fun z9 e_z9 => ?_)
        refine GG_if_eq hk 78 (pc' := 51) dX2_gatherOffers_48 rfl (by decide) (fun c10 => ?_) (fun c10 => ?_)
        · refine GG_iinc hk (pc' := 81) 5 (l3 + (-1)) [(3, .int (l3 + (-1))), (5, .int v6), (4, .int v3), (0, .ref (kh k + 31)), (1, .int l1), (2, .ref (kh k + l2))] dX2_gatherOffers_78 rfl rfl rfl (by decide) rfl ?_
          refine GG_goto hk 2 dX2_gatherOffers_81 (by decide) ?_
          refine GG_sub (L' := [(0, .ref (kh k + 31)), (1, .int l1), (2, .ref (kh k + l2)), (3, .int (l3 + (-1)))]) [3, 4, 5, 0] rfl ?_
          exact ih z9.2 l1 l2 (l3 + (-1)) h_l2
        · refine GG_aload_n hk (pc' := 52) 2 dX2_gatherOffers_51 rfl rfl rfl ?_
          refine GG_iload hk (pc' := 54) 1 dX2_gatherOffers_52 rfl rfl ?_
          refine GG_iload_n hk (pc' := 55) 3 dX2_gatherOffers_54 rfl rfl rfl ?_
          refine GG_aload_n hk (pc' := 56) 4 dX2_gatherOffers_55 rfl rfl rfl ?_
          refine GG_get hk LC1 8 (v := .int (z9.2 l2 8)) (pc' := 59) tw_131 rfl (kdO h_l2) (by decide) rfl dX2_gatherOffers_56 rfl ?_
          refine GG_callVi hk (st := []) (pc' := 62) mf_X2_counts mv_X2_counts LC2 rfl (c_X2_counts _ _ _ z9.2 v3 l1 (z9.2 l2 8) ) (by omega) tw_585 rfl rfl rfl (Nat.le_of_ble_eq_true rfl) dX2_gatherOffers_59 rfl (fun z11 e_z11 => ?_)
          refine GG_if_eq hk 78 (pc' := 65) dX2_gatherOffers_62 rfl (by decide) (fun c12 => ?_) (fun c12 => ?_)
          · refine GG_iinc hk (pc' := 81) 5 (l3 + (-1)) [(3, .int (l3 + (-1))), (5, .int v6), (4, .int v3), (0, .ref (kh k + 31)), (1, .int l1), (2, .ref (kh k + l2))] dX2_gatherOffers_78 rfl rfl rfl (by decide) rfl ?_
            refine GG_goto hk 2 dX2_gatherOffers_81 (by decide) ?_
            refine GG_sub (L' := [(0, .ref (kh k + 31)), (1, .int l1), (2, .ref (kh k + l2)), (3, .int (l3 + (-1)))]) [3, 4, 5, 0] rfl ?_
            exact ih z11.2 l1 l2 (l3 + (-1)) h_l2
          · refine GG_iload hk (pc' := 67) 0 dX2_gatherOffers_65 rfl rfl ?_
            refine GG_iconst hk (pc' := 68) 4 dX2_gatherOffers_67 rfl rfl ?_
            refine GG_icmp_ne hk 72 (pc' := 71) dX2_gatherOffers_68 rfl (by decide) (fun c13 => ?_) (fun c13 => ?_)
            · refine GG_aload_n hk (pc' := 73) 4 dX2_gatherOffers_72 rfl rfl rfl ?_
              refine GG_iload hk (pc' := 75) 1 dX2_gatherOffers_73 rfl rfl ?_
              refine GG_callVv hk (st := []) (pc' := 78) mf_X1_addOffer mv_X1_addOffer LC1 rfl (c_X1_addOffer _ _ _ z11.2 l2 v3 h_l2) (by omega) tw_589 (kdO h_l2) rfl rfl (Nat.le_of_ble_eq_true rfl) dX2_gatherOffers_75 rfl (fun z14 e_z14 => ?_)
              refine GG_iinc hk (pc' := 81) 5 (l3 + (-1)) [(3, .int (l3 + (-1))), (5, .int v6), (4, .int v3), (0, .ref (kh k + 31)), (1, .int l1), (2, .ref (kh k + l2))] dX2_gatherOffers_78 rfl rfl rfl (by decide) rfl ?_
              refine GG_goto hk 2 dX2_gatherOffers_81 (by decide) ?_
              refine GG_sub (L' := [(0, .ref (kh k + 31)), (1, .int l1), (2, .ref (kh k + l2)), (3, .int (l3 + (-1)))]) [3, 4, 5, 0] rfl ?_
              exact ih z14 l1 l2 (l3 + (-1)) h_l2
            · exact GG_vret hk hq dX2_gatherOffers_71
noncomputable def f_X2_gatherOffers (M : Mem) (l1 : Int32) (l2 : Nat) : Option Mem :=
    f_X2_gatherOffers_2  1000 M l1 l2 5
set_option maxRecDepth 20000 in
theorem m_X2_gatherOffers {k : KT} {q : Mem} (hk : CX k cX2_gatherOffers RX2 6 none 2) (hq : RV k q) (M : Mem) (l1 : Int32) (l2 : Nat) (h_l2 : okO l2) : GG k q (wM k M) 0 [(0, .ref (kh k + 31)), (1, .int l1), (2, .ref (kh k + l2))] [] (f_X2_gatherOffers M l1 l2) := by
  unfold f_X2_gatherOffers
  refine GG_iconst hk (pc' := 1) 5 dX2_gatherOffers_0 rfl rfl ?_
  refine GG_istore_n hk (pc' := 2) [(3, .int 5), (0, .ref (kh k + 31)), (1, .int l1), (2, .ref (kh k + l2))] dX2_gatherOffers_1 rfl rfl (by decide) rfl ?_
  refine GG_sub (L' := [(0, .ref (kh k + 31)), (1, .int l1), (2, .ref (kh k + l2)), (3, .int 5)]) [1, 2, 3, 0] rfl ?_
  exact m_X2_gatherOffers_2 hk hq  1000 M l1 l2 5 h_l2
theorem c_X2_gatherOffers (l : Launch) (C : DD) (a : Nat) (M : Mem) (l1 : Int32) (l2 : Nat) (h_l2 : okO l2) : CV l C (a) yX2_gatherOffers cX2_gatherOffers 6 2 [.ref (a + 31), .int l1, .ref (a + l2)] M (f_X2_gatherOffers M l1 l2) := by
  refine CV_of RX2 (by decide +kernel) rfl (Nat.le_of_ble_eq_true rfl) (fun k q hk hq e1 e2 e3 => ?_)
  subst e1; subst e2; subst e3
  exact m_X2_gatherOffers hk hq M l1 l2 h_l2

/-! SettingsInLayers$Outcome.offerLayer(I)I -/
noncomputable def f_X1_offerLayer (M : Mem) (o : Nat) (l1 : Int32) : Option (Int32 × Mem) :=
    Option.bind (rd 6 (M (o + 6)) (((M o 8) - 1) - l1)) fun v1 =>
    some (v1, M)
set_option maxRecDepth 20000 in
theorem m_X1_offerLayer {k : KT} {q : Int32 × Mem} (hk : CX k cX1_offerLayer RX1 2 (some .int) 1) (hq : RI k q) (M : Mem) (o : Nat) (l1 : Int32) (h_o : okO o) : GG k q (wM k M) 0 [(0, .ref (kh k + o)), (1, .int l1)] [] (f_X1_offerLayer M o l1) := by
  unfold f_X1_offerLayer
  refine GG_aload_n hk (pc' := 1) 0 dX1_offerLayer_0 rfl rfl rfl ?_
  refine GG_get hk LC1 10 (v := .ref (kh k + (o + 6))) (pc' := 4) tw_135 rfl (kdO h_o) (by decide) rfl dX1_offerLayer_1 rfl ?_
  refine GG_aload_n hk (pc' := 5) 0 dX1_offerLayer_4 rfl rfl rfl ?_
  refine GG_get hk LC1 8 (v := .int (M o 8)) (pc' := 8) tw_130 rfl (kdO h_o) (by decide) rfl dX1_offerLayer_5 rfl ?_
  refine GG_iconst hk (pc' := 9) 1 dX1_offerLayer_8 rfl rfl ?_
  refine GG_isub hk (pc' := 10) dX1_offerLayer_9 rfl ?_
  refine GG_iload_n hk (pc' := 11) 1 dX1_offerLayer_10 rfl rfl rfl ?_
  refine GG_isub hk (pc' := 12) dX1_offerLayer_11 rfl ?_
  refine GG_iald hk (pc' := 13) (kdOa h_o 5 (by decide)) (lnOa h_o 5 (by decide) rfl) dX1_offerLayer_12 rfl (fun v1 e_v1 => ?_)
  exact GG_iret hk hq dX1_offerLayer_13
theorem c_X1_offerLayer (l : Launch) (C : DD) (a : Nat) (M : Mem) (o : Nat) (l1 : Int32) (h_o : okO o) : CI l C (a) yX1_offerLayer cX1_offerLayer 2 .int 1 [.ref (a + o), .int l1] M (f_X1_offerLayer M o l1) := by
  refine CI_of RX1 (by decide +kernel) rfl (Nat.le_of_ble_eq_true rfl) (fun k q hk hq e1 e2 e3 => ?_)
  subst e1; subst e2; subst e3
  exact m_X1_offerLayer hk hq M o l1 h_o

/-! SettingsInLayers$Outcome.increase(I)I -/
noncomputable def f_X1_increase (M : Mem) (o : Nat) (l1 : Int32) : Option (Int32 × Mem) :=
    if (M o 0) = 0 then
      Option.bind (wrf M o 1 ((M o 1) + l1)) fun M2 =>
      if (M2 o 1) ≤ 999 then
        some (0, M2)
      else
        some (4, M2)
    else
      some (3, M)
set_option maxRecDepth 20000 in
theorem m_X1_increase {k : KT} {q : Int32 × Mem} (hk : CX k cX1_increase RX1 2 (some .int) 1) (hq : RI k q) (M : Mem) (o : Nat) (l1 : Int32) (h_o : okO o) : GG k q (wM k M) 0 [(0, .ref (kh k + o)), (1, .int l1)] [] (f_X1_increase M o l1) := by
  unfold f_X1_increase
  refine GG_aload_n hk (pc' := 1) 0 dX1_increase_0 rfl rfl rfl ?_
  refine GG_get hk LC1 0 (v := .int (M o 0)) (pc' := 4) tw_107 rfl (kdO h_o) (by decide) rfl dX1_increase_1 rfl ?_
  refine GG_if_eq hk 9 (pc' := 7) dX1_increase_4 rfl (by decide) (fun c1 => ?_) (fun c1 => ?_)
  · refine GG_aload_n hk (pc' := 10) 0 dX1_increase_9 rfl rfl rfl ?_
    refine GG_dup hk (pc' := 11) dX1_increase_10 rfl rfl ?_
    refine GG_get hk LC1 1 (v := .int (M o 1)) (pc' := 14) tw_110 rfl (kdO h_o) (by decide) rfl dX1_increase_11 rfl ?_
    refine GG_iload_n hk (pc' := 15) 1 dX1_increase_14 rfl rfl rfl ?_
    refine GG_iadd hk (pc' := 16) dX1_increase_15 rfl ?_
    refine GG_put hk LC1 1 (pc' := 19) tw_110 rfl (kdO h_o) (by decide) rfl rfl (Nat.le_of_ble_eq_true rfl) (pv_1_1 _ _ _ _) dX1_increase_16 rfl (fun M2 e_M2 => ?_)
    refine GG_aload_n hk (pc' := 20) 0 dX1_increase_19 rfl rfl rfl ?_
    refine GG_get hk LC1 1 (v := .int (M2 o 1)) (pc' := 23) tw_110 rfl (kdO h_o) (by decide) rfl dX1_increase_20 rfl ?_
    refine GG_sipush hk (pc' := 26) 999 dX1_increase_23 rfl rfl ?_
    refine GG_icmp_le hk 33 (pc' := 29) dX1_increase_26 rfl (by decide) (fun c3 => ?_) (fun c3 => ?_)
    · refine GG_iconst hk (pc' := 34) 0 dX1_increase_33 rfl rfl ?_
      exact GG_iret hk hq dX1_increase_34
    · refine GG_iconst hk (pc' := 30) 4 dX1_increase_29 rfl rfl ?_
      refine GG_goto hk 34 dX1_increase_30 (by decide) ?_
      exact GG_iret hk hq dX1_increase_34
  · refine GG_iconst hk (pc' := 8) 3 dX1_increase_7 rfl rfl ?_
    exact GG_iret hk hq dX1_increase_8
theorem c_X1_increase (l : Launch) (C : DD) (a : Nat) (M : Mem) (o : Nat) (l1 : Int32) (h_o : okO o) : CI l C (a) yX1_increase cX1_increase 2 .int 1 [.ref (a + o), .int l1] M (f_X1_increase M o l1) := by
  refine CI_of RX1 (by decide +kernel) rfl (Nat.le_of_ble_eq_true rfl) (fun k q hk hq e1 e2 e3 => ?_)
  subst e1; subst e2; subst e3
  exact m_X1_increase hk hq M o l1 h_o

/-! SettingsInLayers$Resolver.copyEntry(ILSettingsInLayers$Outcome;)V -/
noncomputable def f_X2_copyEntry (M : Mem) (l1 : Int32) (l2 : Nat) : Option Mem :=
    Option.bind (f_X1_reset M l2) fun z1 =>
    Option.bind (rsc (z1 31 0)) fun s2 =>
    Option.bind (rd 48 (z1 (s2 + 5)) l1) fun v3 =>
    Option.bind (wrf z1 l2 0 v3) fun M4 =>
    Option.bind (rsc (M4 31 0)) fun s5 =>
    Option.bind (rd 48 (M4 (s5 + 6)) l1) fun v6 =>
    Option.bind (wrf M4 l2 1 v6) fun M7 =>
    if ¬ (M7 l2 0) = 1 then
      some M7
    else
      Option.bind (rsc (M7 31 0)) fun s9 =>
      Option.bind (acp 192 10 M7 (s9 + 8) (l1 * 4) (l2 + 1) 0 (M7 l2 1)) fun M10 =>
      Option.bind (rsc (M10 31 0)) fun s11 =>
      Option.bind (acp 192 10 M10 (s11 + 9) (l1 * 4) (l2 + 2) 0 (M10 l2 1)) fun M12 =>
      some M12
set_option maxRecDepth 20000 in
theorem m_X2_copyEntry {k : KT} {q : Mem} (hk : CX k cX2_copyEntry RX2 4 none 2) (hq : RV k q) (M : Mem) (l1 : Int32) (l2 : Nat) (h_l2 : okO l2) : GG k q (wM k M) 0 [(0, .ref (kh k + 31)), (1, .int l1), (2, .ref (kh k + l2))] [] (f_X2_copyEntry M l1 l2) := by
  unfold f_X2_copyEntry
  refine GG_aload_n hk (pc' := 1) 2 dX2_copyEntry_0 rfl rfl rfl ?_
  refine GG_callVv hk (st := []) (pc' := 4) mf_X1_reset mv_X1_reset LC1 rfl (c_X1_reset _ _ _ M l2 h_l2) (by omega) tw_571 (kdO h_l2) rfl rfl (Nat.le_of_ble_eq_true rfl) dX2_copyEntry_1 rfl (fun z1 e_z1 => ?_)
  refine GG_aload_n hk (pc' := 5) 2 dX2_copyEntry_4 rfl rfl rfl ?_
  refine GG_aload_n hk (pc' := 6) 0 dX2_copyEntry_5 rfl rfl rfl ?_
  refine GG_scene hk (pc' := 9) tw_172 dX2_copyEntry_6 rfl (fun s2 h_s2 e_s2 => ?_)
  refine GG_get hk LC4 5 (v := .ref (kh k + (s2 + 5))) (pc' := 12) tw_59 rfl (kdS h_s2) (by decide) rfl dX2_copyEntry_9 rfl ?_
  refine GG_iload_n hk (pc' := 13) 1 dX2_copyEntry_12 rfl rfl rfl ?_
  refine GG_iald hk (pc' := 14) (kdSa h_s2 4 (by decide)) (lnSa h_s2 4 (by decide) rfl) dX2_copyEntry_13 rfl (fun v3 e_v3 => ?_)
  refine GG_put hk LC1 0 (pc' := 17) tw_108 rfl (kdO h_l2) (by decide) rfl rfl (Nat.le_of_ble_eq_true rfl) (pv_1_0 _ _ _ _) dX2_copyEntry_14 rfl (fun M4 e_M4 => ?_)
  refine GG_aload_n hk (pc' := 18) 2 dX2_copyEntry_17 rfl rfl rfl ?_
  refine GG_aload_n hk (pc' := 19) 0 dX2_copyEntry_18 rfl rfl rfl ?_
  refine GG_scene hk (pc' := 22) tw_172 dX2_copyEntry_19 rfl (fun s5 h_s5 e_s5 => ?_)
  refine GG_get hk LC4 6 (v := .ref (kh k + (s5 + 6))) (pc' := 25) tw_64 rfl (kdS h_s5) (by decide) rfl dX2_copyEntry_22 rfl ?_
  refine GG_iload_n hk (pc' := 26) 1 dX2_copyEntry_25 rfl rfl rfl ?_
  refine GG_iald hk (pc' := 27) (kdSa h_s5 5 (by decide)) (lnSa h_s5 5 (by decide) rfl) dX2_copyEntry_26 rfl (fun v6 e_v6 => ?_)
  refine GG_put hk LC1 1 (pc' := 30) tw_111 rfl (kdO h_l2) (by decide) rfl rfl (Nat.le_of_ble_eq_true rfl) (pv_1_1 _ _ _ _) dX2_copyEntry_27 rfl (fun M7 e_M7 => ?_)
  refine GG_aload_n hk (pc' := 31) 2 dX2_copyEntry_30 rfl rfl rfl ?_
  refine GG_get hk LC1 0 (v := .int (M7 l2 0)) (pc' := 34) tw_108 rfl (kdO h_l2) (by decide) rfl dX2_copyEntry_31 rfl ?_
  refine GG_iconst hk (pc' := 35) 1 dX2_copyEntry_34 rfl rfl ?_
  refine GG_icmp_ne hk 82 (pc' := 38) dX2_copyEntry_35 rfl (by decide) (fun c8 => ?_) (fun c8 => ?_)
  · exact GG_vret hk hq dX2_copyEntry_82
  · refine GG_iload_n hk (pc' := 39) 1 dX2_copyEntry_38 rfl rfl rfl ?_
    refine GG_iconst hk (pc' := 40) 4 dX2_copyEntry_39 rfl rfl ?_
    refine GG_imul hk (pc' := 41) dX2_copyEntry_40 rfl ?_
    refine GG_istore_n hk (pc' := 42) [(3, .int (l1 * 4)), (0, .ref (kh k + 31)), (1, .int l1), (2, .ref (kh k + l2))] dX2_copyEntry_41 rfl rfl (by decide) rfl ?_
    refine GG_aload_n hk (pc' := 43) 1 dX2_copyEntry_42 rfl rfl rfl ?_
    refine GG_scene hk (pc' := 46) tw_172 dX2_copyEntry_43 rfl (fun s9 h_s9 e_s9 => ?_)
    refine GG_get hk LC4 8 (v := .ref (kh k + (s9 + 8))) (pc' := 49) tw_69 rfl (kdS h_s9) (by decide) rfl dX2_copyEntry_46 rfl ?_
    refine GG_iload_n hk (pc' := 50) 0 dX2_copyEntry_49 rfl rfl rfl ?_
    refine GG_aload_n hk (pc' := 51) 3 dX2_copyEntry_50 rfl rfl rfl ?_
    refine GG_get hk LC1 2 (v := .ref (kh k + (l2 + 1))) (pc' := 54) tw_114 rfl (kdO h_l2) (by decide) rfl dX2_copyEntry_51 rfl ?_
    refine GG_iconst hk (pc' := 55) 0 dX2_copyEntry_54 rfl rfl ?_
    refine GG_aload_n hk (pc' := 56) 3 dX2_copyEntry_55 rfl rfl rfl ?_
    refine GG_get hk LC1 1 (v := .int (M7 l2 1)) (pc' := 59) tw_111 rfl (kdO h_l2) (by decide) rfl dX2_copyEntry_56 rfl ?_
    refine GG_copy hk (st := []) (pc' := 62) tw_613 tw_430 tw_429 tw_10 (kdSa h_s9 7 (by decide)) (lnSa h_s9 7 (by decide) rfl) (kdOa h_l2 0 (by decide)) (lnOa h_l2 0 (by decide) rfl) (by omega) (Nat.le_of_ble_eq_true rfl) dX2_copyEntry_59 rfl (fun M10 e_M10 => ?_)
    refine GG_aload_n hk (pc' := 63) 1 dX2_copyEntry_62 rfl rfl rfl ?_
    refine GG_scene hk (pc' := 66) tw_172 dX2_copyEntry_63 rfl (fun s11 h_s11 e_s11 => ?_)
    refine GG_get hk LC4 9 (v := .ref (kh k + (s11 + 9))) (pc' := 69) tw_71 rfl (kdS h_s11) (by decide) rfl dX2_copyEntry_66 rfl ?_
    refine GG_iload_n hk (pc' := 70) 0 dX2_copyEntry_69 rfl rfl rfl ?_
    refine GG_aload_n hk (pc' := 71) 3 dX2_copyEntry_70 rfl rfl rfl ?_
    refine GG_get hk LC1 3 (v := .ref (kh k + (l2 + 2))) (pc' := 74) tw_117 rfl (kdO h_l2) (by decide) rfl dX2_copyEntry_71 rfl ?_
    refine GG_iconst hk (pc' := 75) 0 dX2_copyEntry_74 rfl rfl ?_
    refine GG_aload_n hk (pc' := 76) 3 dX2_copyEntry_75 rfl rfl rfl ?_
    refine GG_get hk LC1 1 (v := .int (M10 l2 1)) (pc' := 79) tw_111 rfl (kdO h_l2) (by decide) rfl dX2_copyEntry_76 rfl ?_
    refine GG_copy hk (st := []) (pc' := 82) tw_613 tw_430 tw_429 tw_10 (kdSa h_s11 8 (by decide)) (lnSa h_s11 8 (by decide) rfl) (kdOa h_l2 1 (by decide)) (lnOa h_l2 1 (by decide) rfl) (by omega) (Nat.le_of_ble_eq_true rfl) dX2_copyEntry_79 rfl (fun M12 e_M12 => ?_)
    exact GG_vret hk hq dX2_copyEntry_82
theorem c_X2_copyEntry (l : Launch) (C : DD) (a : Nat) (M : Mem) (l1 : Int32) (l2 : Nat) (h_l2 : okO l2) : CV l C (a) yX2_copyEntry cX2_copyEntry 4 2 [.ref (a + 31), .int l1, .ref (a + l2)] M (f_X2_copyEntry M l1 l2) := by
  refine CV_of RX2 (by decide +kernel) rfl (Nat.le_of_ble_eq_true rfl) (fun k q hk hq e1 e2 e3 => ?_)
  subst e1; subst e2; subst e3
  exact m_X2_copyEntry hk hq M l1 l2 h_l2

/-! SettingsInLayers$Resolver.make(III)Z -/
noncomputable def f_X2_make (rs : Mem → Int32 → Int32 → Option (Int32 × Mem)) (M : Mem) (l1 : Int32) (l2 : Int32) (l3 : Int32) : Option (Int32 × Mem) :=
    Option.bind (f_X7_slotOf M l1 l2) fun z1 =>
    Option.bind (rsc (z1.2 31 0)) fun s2 =>
    Option.bind (rd 48 (z1.2 (s2 + 5)) z1.1) fun v3 =>
    if (l3 + 1) < 9 then
      if ¬ v3 = 2 then
        if ¬ v3 = 3 then
          Option.bind (rdO 9 34 (l3 + 1)) fun o7 =>
          Option.bind (f_X2_copyEntry z1.2 z1.1 o7) fun z8 =>
          bret 1 z8
        else
          Option.bind (rsc (z1.2 31 0)) fun s9 =>
          Option.bind (rd 48 (z1.2 (s9 + 7)) z1.1) fun v10 =>
          Option.bind (rs z1.2 v10 (l3 + 1)) fun z11 =>
          if ¬ z11.1 = 0 then
            Option.bind (rdO 9 34 (l3 + 1)) fun o13 =>
            Option.bind (rsc (z11.2 31 0)) fun s14 =>
            Option.bind (rd 48 (z11.2 (s14 + 6)) z1.1) fun v15 =>
            Option.bind (f_X1_increase z11.2 o13 v15) fun z16 =>
            if z16.1 = 0 then
              bret 1 z16.2
            else
              Option.bind (f_X2_fail z16.2 z16.1 l3) fun z18 =>
              if z18.1 = 0 then
                bret 0 z18.2
              else
                bret 1 z18.2
          else
            bret 0 z11.2
      else
        Option.bind (rsc (z1.2 31 0)) fun s20 =>
        Option.bind (rd 48 (z1.2 (s20 + 7)) z1.1) fun v21 =>
        Option.bind (rs z1.2 v21 (l3 + 1)) fun z22 =>
        bret z22.1 z22.2
    else
      bret 0 z1.2
set_option maxRecDepth 20000 in
theorem m_X2_make {k : KT} {q : Int32 × Mem} (rs : Mem → Int32 → Int32 → Option (Int32 × Mem)) (hr : Nat) (hb : 10 ≤ hr) (hrs : ∀ (M : Mem) (x0 : Int32) (x1 : Int32), CI (kl k) (kC k) (kh k) yX2_resolve cX2_resolve 5 .boolean hr [.ref (kh k + 31), .int x0, .int x1] M (rs M x0 x1)) (hk : CX k cX2_make RX2 8 (some .boolean) (hr + 6)) (hq : RI k q) (M : Mem) (l1 : Int32) (l2 : Int32) (l3 : Int32)  : GG k q (wM k M) 0 [(0, .ref (kh k + 31)), (1, .int l1), (2, .int l2), (3, .int l3)] [] (f_X2_make rs M l1 l2 l3) := by
  unfold f_X2_make
  refine GG_iload_n hk (pc' := 1) 1 dX2_make_0 rfl rfl rfl ?_
  refine GG_iload_n hk (pc' := 2) 2 dX2_make_1 rfl rfl rfl ?_
  refine GG_callNi hk (st := []) (pc' := 5) mf_X7_slotOf tw_460 (c_X7_slotOf _ _ _ M l1 l2 ) (by omega) (by decide) rfl rfl (Nat.le_of_ble_eq_true rfl) dX2_make_2 rfl (fun z1 e_z1 => ?_)
  refine GG_istore hk (pc' := 7) [(4, .int z1.1), (0, .ref (kh k + 31)), (1, .int l1), (2, .int l2), (3, .int l3)] dX2_make_5 rfl (by decide) rfl ?_
  refine GG_aload_n hk (pc' := 8) 1 dX2_make_7 rfl rfl rfl ?_
  refine GG_scene hk (pc' := 11) tw_172 dX2_make_8 rfl (fun s2 h_s2 e_s2 => ?_)
  refine GG_get hk LC4 5 (v := .ref (kh k + (s2 + 5))) (pc' := 14) tw_59 rfl (kdS h_s2) (by decide) rfl dX2_make_11 rfl ?_
  refine GG_iload hk (pc' := 16) 0 dX2_make_14 rfl rfl ?_
  refine GG_iald hk (pc' := 17) (kdSa h_s2 4 (by decide)) (lnSa h_s2 4 (by decide) rfl) dX2_make_16 rfl (fun v3 e_v3 => ?_)
  refine GG_istore hk (pc' := 19) [(5, .int v3), (4, .int z1.1), (0, .ref (kh k + 31)), (1, .int l1), (2, .int l2), (3, .int l3)] dX2_make_17 rfl (by decide) rfl ?_
  refine GG_iload_n hk (pc' := 20) 5 dX2_make_19 rfl rfl rfl ?_
  refine GG_iconst hk (pc' := 21) 1 dX2_make_20 rfl rfl ?_
  refine GG_iadd hk (pc' := 22) dX2_make_21 rfl ?_
  refine GG_istore hk (pc' := 24) [(6, .int (l3 + 1)), (5, .int v3), (4, .int z1.1), (0, .ref (kh k + 31)), (1, .int l1), (2, .int l2), (3, .int l3)] dX2_make_22 rfl (by decide) rfl ?_
  refine GG_iload hk (pc' := 26) 0 dX2_make_24 rfl rfl ?_
  refine GG_bipush hk (pc' := 28) 9 dX2_make_26 rfl rfl ?_
  refine GG_icmp_lt hk 33 (pc' := 31) dX2_make_28 rfl (by decide) (fun c4 => ?_) (fun c4 => ?_)
  · refine GG_iload hk (pc' := 35) 1 dX2_make_33 rfl rfl ?_
    refine GG_iconst hk (pc' := 36) 2 dX2_make_35 rfl rfl ?_
    refine GG_icmp_ne hk 56 (pc' := 39) dX2_make_36 rfl (by decide) (fun c5 => ?_) (fun c5 => ?_)
    · refine GG_iload hk (pc' := 58) 1 dX2_make_56 rfl rfl ?_
      refine GG_iconst hk (pc' := 59) 3 dX2_make_58 rfl rfl ?_
      refine GG_icmp_ne hk 126 (pc' := 62) dX2_make_59 rfl (by decide) (fun c6 => ?_) (fun c6 => ?_)
      · refine GG_aload_n hk (pc' := 127) 3 dX2_make_126 rfl rfl rfl ?_
        refine GG_iload hk (pc' := 129) 2 dX2_make_127 rfl rfl ?_
        refine GG_aload_n hk (pc' := 130) 3 dX2_make_129 rfl rfl rfl ?_
        refine GG_get hk LC2 5 (v := .ref (kh k + 33)) (pc' := 133) tw_177 rfl rfl (by decide) rfl dX2_make_130 rfl ?_
        refine GG_iload hk (pc' := 135) 0 dX2_make_133 rfl rfl ?_
        refine GG_aald hk (pc' := 136) rfl rfl (b := 34) rfl okO_33 dX2_make_135 rfl (fun o7 h_o7 e_o7 => ?_)
        refine GG_callVv hk (st := []) (pc' := 139) mf_X2_copyEntry mv_X2_copyEntry LC2 rfl (c_X2_copyEntry _ _ _ z1.2 z1.1 o7 h_o7) (by omega) tw_609 rfl rfl rfl (Nat.le_of_ble_eq_true rfl) dX2_make_136 rfl (fun z8 e_z8 => ?_)
        refine GG_iconst hk (pc' := 140) 1 dX2_make_139 rfl rfl ?_
        exact GG_zret hk hq dX2_make_140
      · refine GG_aload_n hk (pc' := 63) 3 dX2_make_62 rfl rfl rfl ?_
        refine GG_aload_n hk (pc' := 64) 3 dX2_make_63 rfl rfl rfl ?_
        refine GG_scene hk (pc' := 67) tw_172 dX2_make_64 rfl (fun s9 h_s9 e_s9 => ?_)
        refine GG_get hk LC4 7 (v := .ref (kh k + (s9 + 7))) (pc' := 70) tw_66 rfl (kdS h_s9) (by decide) rfl dX2_make_67 rfl ?_
        refine GG_iload hk (pc' := 72) 2 dX2_make_70 rfl rfl ?_
        refine GG_iald hk (pc' := 73) (kdSa h_s9 6 (by decide)) (lnSa h_s9 6 (by decide) rfl) dX2_make_72 rfl (fun v10 e_v10 => ?_)
        refine GG_iload hk (pc' := 75) 0 dX2_make_73 rfl rfl ?_
        refine GG_callVi hk (st := []) (pc' := 78) mf_X2_resolve mv_X2_resolve LC2 rfl (hrs z1.2 v10 (l3 + 1)) (by omega) tw_567 rfl rfl rfl (Nat.le_of_ble_eq_true rfl) dX2_make_75 rfl (fun z11 e_z11 => ?_)
        refine GG_if_ne hk 83 (pc' := 81) dX2_make_78 rfl (by decide) (fun c12 => ?_) (fun c12 => ?_)
        · refine GG_aload_n hk (pc' := 84) 3 dX2_make_83 rfl rfl rfl ?_
          refine GG_get hk LC2 5 (v := .ref (kh k + 33)) (pc' := 87) tw_177 rfl rfl (by decide) rfl dX2_make_84 rfl ?_
          refine GG_iload hk (pc' := 89) 0 dX2_make_87 rfl rfl ?_
          refine GG_aald hk (pc' := 90) rfl rfl (b := 34) rfl okO_33 dX2_make_89 rfl (fun o13 h_o13 e_o13 => ?_)
          refine GG_aload_n hk (pc' := 91) 3 dX2_make_90 rfl rfl rfl ?_
          refine GG_scene hk (pc' := 94) tw_172 dX2_make_91 rfl (fun s14 h_s14 e_s14 => ?_)
          refine GG_get hk LC4 6 (v := .ref (kh k + (s14 + 6))) (pc' := 97) tw_64 rfl (kdS h_s14) (by decide) rfl dX2_make_94 rfl ?_
          refine GG_iload hk (pc' := 99) 2 dX2_make_97 rfl rfl ?_
          refine GG_iald hk (pc' := 100) (kdSa h_s14 5 (by decide)) (lnSa h_s14 5 (by decide) rfl) dX2_make_99 rfl (fun v15 e_v15 => ?_)
          refine GG_callVi hk (st := []) (pc' := 103) mf_X1_increase mv_X1_increase LC1 rfl (c_X1_increase _ _ _ z11.2 o13 v15 h_o13) (by omega) tw_605 (kdO h_o13) rfl rfl (Nat.le_of_ble_eq_true rfl) dX2_make_100 rfl (fun z16 e_z16 => ?_)
          refine GG_istore hk (pc' := 105) [(7, .int z16.1), (6, .int (l3 + 1)), (5, .int v3), (4, .int z1.1), (0, .ref (kh k + 31)), (1, .int l1), (2, .int l2), (3, .int l3)] dX2_make_103 rfl (by decide) rfl ?_
          refine GG_iload hk (pc' := 107) 0 dX2_make_105 rfl rfl ?_
          refine GG_if_eq hk 120 (pc' := 110) dX2_make_107 rfl (by decide) (fun c17 => ?_) (fun c17 => ?_)
          · refine GG_iconst hk (pc' := 121) 1 dX2_make_120 rfl rfl ?_
            refine GG_goto hk 125 dX2_make_121 (by decide) ?_
            exact GG_zret hk hq dX2_make_125
          · refine GG_aload_n hk (pc' := 111) 4 dX2_make_110 rfl rfl rfl ?_
            refine GG_iload hk (pc' := 113) 0 dX2_make_111 rfl rfl ?_
            refine GG_iload_n hk (pc' := 114) 7 dX2_make_113 rfl rfl rfl ?_
            refine GG_callVi hk (st := []) (pc' := 117) mf_X2_fail mv_X2_fail LC2 rfl (c_X2_fail _ _ _ z16.2 z16.1 l3 ) (by omega) tw_575 rfl rfl rfl (Nat.le_of_ble_eq_true rfl) dX2_make_114 rfl (fun z18 e_z18 => ?_)
            refine GG_if_eq hk 124 (pc' := 120) dX2_make_117 rfl (by decide) (fun c19 => ?_) (fun c19 => ?_)
            · refine GG_iconst hk (pc' := 125) 0 dX2_make_124 rfl rfl ?_
              exact GG_zret hk hq dX2_make_125
            · refine GG_iconst hk (pc' := 121) 1 dX2_make_120 rfl rfl ?_
              refine GG_goto hk 125 dX2_make_121 (by decide) ?_
              exact GG_zret hk hq dX2_make_125
        · refine GG_iconst hk (pc' := 82) 0 dX2_make_81 rfl rfl ?_
          exact GG_zret hk hq dX2_make_82
    · refine GG_aload_n hk (pc' := 40) 3 dX2_make_39 rfl rfl rfl ?_
      refine GG_aload_n hk (pc' := 41) 3 dX2_make_40 rfl rfl rfl ?_
      refine GG_scene hk (pc' := 44) tw_172 dX2_make_41 rfl (fun s20 h_s20 e_s20 => ?_)
      refine GG_get hk LC4 7 (v := .ref (kh k + (s20 + 7))) (pc' := 47) tw_66 rfl (kdS h_s20) (by decide) rfl dX2_make_44 rfl ?_
      refine GG_iload hk (pc' := 49) 2 dX2_make_47 rfl rfl ?_
      refine GG_iald hk (pc' := 50) (kdSa h_s20 6 (by decide)) (lnSa h_s20 6 (by decide) rfl) dX2_make_49 rfl (fun v21 e_v21 => ?_)
      refine GG_iload hk (pc' := 52) 0 dX2_make_50 rfl rfl ?_
      refine GG_callVi hk (st := []) (pc' := 55) mf_X2_resolve mv_X2_resolve LC2 rfl (hrs z1.2 v21 (l3 + 1)) (by omega) tw_567 rfl rfl rfl (Nat.le_of_ble_eq_true rfl) dX2_make_52 rfl (fun z22 e_z22 => ?_)
      exact GG_zret hk hq dX2_make_55
  · refine GG_iconst hk (pc' := 32) 0 dX2_make_31 rfl rfl ?_
    exact GG_zret hk hq dX2_make_32
theorem c_X2_make (l : Launch) (C : DD) (a : Nat) (rs : Mem → Int32 → Int32 → Option (Int32 × Mem)) (hr : Nat) (hb : 10 ≤ hr) (hrs : ∀ (M : Mem) (x0 : Int32) (x1 : Int32), CI l C (a) yX2_resolve cX2_resolve 5 .boolean hr [.ref (a + 31), .int x0, .int x1] M (rs M x0 x1)) (M : Mem) (l1 : Int32) (l2 : Int32) (l3 : Int32)  : CI l C (a) yX2_make cX2_make 8 .boolean (hr + 6) [.ref (a + 31), .int l1, .int l2, .int l3] M (f_X2_make rs M l1 l2 l3) := by
  refine CI_of RX2 (by decide +kernel) rfl (Nat.le_of_ble_eq_true rfl) (fun k q hk hq e1 e2 e3 => ?_)
  subst e1; subst e2; subst e3
  exact m_X2_make rs hr hb hrs hk hq M l1 l2 l3 

/-! SettingsInLayers$Outcome.takeSource(ILSettingsInLayers$Outcome;)V -/
noncomputable def f_X1_takeSource (M : Mem) (o : Nat) (l1 : Int32) (l2 : Nat) : Option Mem :=
    Option.bind (wrf M o 11 ((M o 11) ||| (1 <<< (l1 &&& 31)))) fun M1 =>
    Option.bind (wrf M1 o 12 ((M1 o 12) ||| ((1 <<< (l1 &&& 31)) ||| (M1 l2 12)))) fun M2 =>
    some M2
set_option maxRecDepth 20000 in
theorem m_X1_takeSource {k : KT} {q : Mem} (hk : CX k cX1_takeSource RX1 3 none 1) (hq : RV k q) (M : Mem) (o : Nat) (l1 : Int32) (l2 : Nat) (h_o : okO o) (h_l2 : okO l2) : GG k q (wM k M) 0 [(0, .ref (kh k + o)), (1, .int l1), (2, .ref (kh k + l2))] [] (f_X1_takeSource M o l1 l2) := by
  unfold f_X1_takeSource
  refine GG_aload_n hk (pc' := 1) 0 dX1_takeSource_0 rfl rfl rfl ?_
  refine GG_dup hk (pc' := 2) dX1_takeSource_1 rfl rfl ?_
  refine GG_get hk LC1 11 (v := .int (M o 11)) (pc' := 5) tw_136 rfl (kdO h_o) (by decide) rfl dX1_takeSource_2 rfl ?_
  refine GG_iconst hk (pc' := 6) 1 dX1_takeSource_5 rfl rfl ?_
  refine GG_iload_n hk (pc' := 7) 1 dX1_takeSource_6 rfl rfl rfl ?_
  refine GG_ishl hk (pc' := 8) dX1_takeSource_7 rfl ?_
  refine GG_ior hk (pc' := 9) dX1_takeSource_8 rfl ?_
  refine GG_put hk LC1 11 (pc' := 12) tw_136 rfl (kdO h_o) (by decide) rfl rfl (Nat.le_of_ble_eq_true rfl) (pv_1_11 _ _ _ _) dX1_takeSource_9 rfl (fun M1 e_M1 => ?_)
  refine GG_aload_n hk (pc' := 13) 0 dX1_takeSource_12 rfl rfl rfl ?_
  refine GG_dup hk (pc' := 14) dX1_takeSource_13 rfl rfl ?_
  refine GG_get hk LC1 12 (v := .int (M1 o 12)) (pc' := 17) tw_138 rfl (kdO h_o) (by decide) rfl dX1_takeSource_14 rfl ?_
  refine GG_iconst hk (pc' := 18) 1 dX1_takeSource_17 rfl rfl ?_
  refine GG_iload_n hk (pc' := 19) 1 dX1_takeSource_18 rfl rfl rfl ?_
  refine GG_ishl hk (pc' := 20) dX1_takeSource_19 rfl ?_
  refine GG_aload_n hk (pc' := 21) 2 dX1_takeSource_20 rfl rfl rfl ?_
  refine GG_get hk LC1 12 (v := .int (M1 l2 12)) (pc' := 24) tw_138 rfl (kdO h_l2) (by decide) rfl dX1_takeSource_21 rfl ?_
  refine GG_ior hk (pc' := 25) dX1_takeSource_24 rfl ?_
  refine GG_ior hk (pc' := 26) dX1_takeSource_25 rfl ?_
  refine GG_put hk LC1 12 (pc' := 29) tw_138 rfl (kdO h_o) (by decide) rfl rfl (Nat.le_of_ble_eq_true rfl) (pv_1_12 _ _ _ _) dX1_takeSource_26 rfl (fun M2 e_M2 => ?_)
  exact GG_vret hk hq dX1_takeSource_29
theorem c_X1_takeSource (l : Launch) (C : DD) (a : Nat) (M : Mem) (o : Nat) (l1 : Int32) (l2 : Nat) (h_o : okO o) (h_l2 : okO l2) : CV l C (a) yX1_takeSource cX1_takeSource 3 1 [.ref (a + o), .int l1, .ref (a + l2)] M (f_X1_takeSource M o l1 l2) := by
  refine CV_of RX1 (by decide +kernel) rfl (Nat.le_of_ble_eq_true rfl) (fun k q hk hq e1 e2 e3 => ?_)
  subst e1; subst e2; subst e3
  exact m_X1_takeSource hk hq M o l1 l2 h_o h_l2

/-! SettingsInLayers$Outcome.takeToTotal(ILSettingsInLayers$Outcome;)I -/
noncomputable def f_X1_takeToTotal (M : Mem) (o : Nat) (l1 : Int32) (l2 : Nat) : Option (Int32 × Mem) :=
    if (M l2 0) = 0 then
      Option.bind (f_X1_takeSource M o l1 l2) fun z2 =>
      Option.bind (f_X1_increase z2 o (z2 l2 1)) fun z3 =>
      some (z3.1, z3.2)
    else
      some (3, M)
set_option maxRecDepth 20000 in
theorem m_X1_takeToTotal {k : KT} {q : Int32 × Mem} (hk : CX k cX1_takeToTotal RX1 3 (some .int) 2) (hq : RI k q) (M : Mem) (o : Nat) (l1 : Int32) (l2 : Nat) (h_o : okO o) (h_l2 : okO l2) : GG k q (wM k M) 0 [(0, .ref (kh k + o)), (1, .int l1), (2, .ref (kh k + l2))] [] (f_X1_takeToTotal M o l1 l2) := by
  unfold f_X1_takeToTotal
  refine GG_aload_n hk (pc' := 1) 2 dX1_takeToTotal_0 rfl rfl rfl ?_
  refine GG_get hk LC1 0 (v := .int (M l2 0)) (pc' := 4) tw_107 rfl (kdO h_l2) (by decide) rfl dX1_takeToTotal_1 rfl ?_
  refine GG_if_eq hk 9 (pc' := 7) dX1_takeToTotal_4 rfl (by decide) (fun c1 => ?_) (fun c1 => ?_)
  · refine GG_aload_n hk (pc' := 10) 0 dX1_takeToTotal_9 rfl rfl rfl ?_
    refine GG_iload_n hk (pc' := 11) 1 dX1_takeToTotal_10 rfl rfl rfl ?_
    refine GG_aload_n hk (pc' := 12) 2 dX1_takeToTotal_11 rfl rfl rfl ?_
    refine GG_callVv hk (st := []) (pc' := 15) mf_X1_takeSource mv_X1_takeSource LC1 rfl (c_X1_takeSource _ _ _ M o l1 l2 h_o h_l2) (by omega) tw_622 (kdO h_o) rfl rfl (Nat.le_of_ble_eq_true rfl) dX1_takeToTotal_12 rfl (fun z2 e_z2 => ?_)
    refine GG_aload_n hk (pc' := 16) 0 dX1_takeToTotal_15 rfl rfl rfl ?_
    refine GG_aload_n hk (pc' := 17) 2 dX1_takeToTotal_16 rfl rfl rfl ?_
    refine GG_get hk LC1 1 (v := .int (z2 l2 1)) (pc' := 20) tw_110 rfl (kdO h_l2) (by decide) rfl dX1_takeToTotal_17 rfl ?_
    refine GG_callVi hk (st := []) (pc' := 23) mf_X1_increase mv_X1_increase LC1 rfl (c_X1_increase _ _ _ z2 o (z2 l2 1) h_o) (by omega) tw_626 (kdO h_o) rfl rfl (Nat.le_of_ble_eq_true rfl) dX1_takeToTotal_20 rfl (fun z3 e_z3 => ?_)
    exact GG_iret hk hq dX1_takeToTotal_23
  · refine GG_iconst hk (pc' := 8) 3 dX1_takeToTotal_7 rfl rfl ?_
    exact GG_iret hk hq dX1_takeToTotal_8
theorem c_X1_takeToTotal (l : Launch) (C : DD) (a : Nat) (M : Mem) (o : Nat) (l1 : Int32) (l2 : Nat) (h_o : okO o) (h_l2 : okO l2) : CI l C (a) yX1_takeToTotal cX1_takeToTotal 3 .int 2 [.ref (a + o), .int l1, .ref (a + l2)] M (f_X1_takeToTotal M o l1 l2) := by
  refine CI_of RX1 (by decide +kernel) rfl (Nat.le_of_ble_eq_true rfl) (fun k q hk hq e1 e2 e3 => ?_)
  subst e1; subst e2; subst e3
  exact m_X1_takeToTotal hk hq M o l1 l2 h_o h_l2

/-! SettingsInLayers$Outcome.takeAlone(ILSettingsInLayers$Outcome;)I -/
noncomputable def f_X1_takeAlone (M : Mem) (o : Nat) (l1 : Int32) (l2 : Nat) : Option (Int32 × Mem) :=
    Option.bind (wrf M o 0 (M l2 0)) fun M1 =>
    Option.bind (wrf M1 o 1 (M1 l2 1)) fun M2 =>
    Option.bind (wrf M2 o 11 (1 <<< (l1 &&& 31))) fun M3 =>
    Option.bind (wrf M3 o 12 ((1 <<< (l1 &&& 31)) ||| (M3 l2 12))) fun M4 =>
    if ¬ (M4 o 0) = 1 then
      some (0, M4)
    else
      Option.bind (acp 10 10 M4 (l2 + 1) 0 (o + 1) 0 10) fun M6 =>
      Option.bind (acp 10 10 M6 (l2 + 2) 0 (o + 2) 0 10) fun M7 =>
      Option.bind (f_J7_fill_53178 M7 (o + 3) l1) fun z8 =>
      some (0, z8)
set_option maxRecDepth 20000 in
theorem m_X1_takeAlone {k : KT} {q : Int32 × Mem} (hk : CX k cX1_takeAlone RX1 3 (some .int) 2) (hq : RI k q) (M : Mem) (o : Nat) (l1 : Int32) (l2 : Nat) (h_o : okO o) (h_l2 : okO l2) : GG k q (wM k M) 0 [(0, .ref (kh k + o)), (1, .int l1), (2, .ref (kh k + l2))] [] (f_X1_takeAlone M o l1 l2) := by
  unfold f_X1_takeAlone
  refine GG_aload_n hk (pc' := 1) 0 dX1_takeAlone_0 rfl rfl rfl ?_
  refine GG_aload_n hk (pc' := 2) 2 dX1_takeAlone_1 rfl rfl rfl ?_
  refine GG_get hk LC1 0 (v := .int (M l2 0)) (pc' := 5) tw_107 rfl (kdO h_l2) (by decide) rfl dX1_takeAlone_2 rfl ?_
  refine GG_put hk LC1 0 (pc' := 8) tw_107 rfl (kdO h_o) (by decide) rfl rfl (Nat.le_of_ble_eq_true rfl) (pv_1_0 _ _ _ _) dX1_takeAlone_5 rfl (fun M1 e_M1 => ?_)
  refine GG_aload_n hk (pc' := 9) 0 dX1_takeAlone_8 rfl rfl rfl ?_
  refine GG_aload_n hk (pc' := 10) 2 dX1_takeAlone_9 rfl rfl rfl ?_
  refine GG_get hk LC1 1 (v := .int (M1 l2 1)) (pc' := 13) tw_110 rfl (kdO h_l2) (by decide) rfl dX1_takeAlone_10 rfl ?_
  refine GG_put hk LC1 1 (pc' := 16) tw_110 rfl (kdO h_o) (by decide) rfl rfl (Nat.le_of_ble_eq_true rfl) (pv_1_1 _ _ _ _) dX1_takeAlone_13 rfl (fun M2 e_M2 => ?_)
  refine GG_aload_n hk (pc' := 17) 0 dX1_takeAlone_16 rfl rfl rfl ?_
  refine GG_iconst hk (pc' := 18) 1 dX1_takeAlone_17 rfl rfl ?_
  refine GG_iload_n hk (pc' := 19) 1 dX1_takeAlone_18 rfl rfl rfl ?_
  refine GG_ishl hk (pc' := 20) dX1_takeAlone_19 rfl ?_
  refine GG_put hk LC1 11 (pc' := 23) tw_136 rfl (kdO h_o) (by decide) rfl rfl (Nat.le_of_ble_eq_true rfl) (pv_1_11 _ _ _ _) dX1_takeAlone_20 rfl (fun M3 e_M3 => ?_)
  refine GG_aload_n hk (pc' := 24) 0 dX1_takeAlone_23 rfl rfl rfl ?_
  refine GG_iconst hk (pc' := 25) 1 dX1_takeAlone_24 rfl rfl ?_
  refine GG_iload_n hk (pc' := 26) 1 dX1_takeAlone_25 rfl rfl rfl ?_
  refine GG_ishl hk (pc' := 27) dX1_takeAlone_26 rfl ?_
  refine GG_aload_n hk (pc' := 28) 2 dX1_takeAlone_27 rfl rfl rfl ?_
  refine GG_get hk LC1 12 (v := .int (M3 l2 12)) (pc' := 31) tw_138 rfl (kdO h_l2) (by decide) rfl dX1_takeAlone_28 rfl ?_
  refine GG_ior hk (pc' := 32) dX1_takeAlone_31 rfl ?_
  refine GG_put hk LC1 12 (pc' := 35) tw_138 rfl (kdO h_o) (by decide) rfl rfl (Nat.le_of_ble_eq_true rfl) (pv_1_12 _ _ _ _) dX1_takeAlone_32 rfl (fun M4 e_M4 => ?_)
  refine GG_aload_n hk (pc' := 36) 0 dX1_takeAlone_35 rfl rfl rfl ?_
  refine GG_get hk LC1 0 (v := .int (M4 o 0)) (pc' := 39) tw_107 rfl (kdO h_o) (by decide) rfl dX1_takeAlone_36 rfl ?_
  refine GG_iconst hk (pc' := 40) 1 dX1_takeAlone_39 rfl rfl ?_
  refine GG_icmp_ne hk 81 (pc' := 43) dX1_takeAlone_40 rfl (by decide) (fun c5 => ?_) (fun c5 => ?_)
  · refine GG_iconst hk (pc' := 82) 0 dX1_takeAlone_81 rfl rfl ?_
    exact GG_iret hk hq dX1_takeAlone_82
  · refine GG_aload_n hk (pc' := 44) 2 dX1_takeAlone_43 rfl rfl rfl ?_
    refine GG_get hk LC1 2 (v := .ref (kh k + (l2 + 1))) (pc' := 47) tw_113 rfl (kdO h_l2) (by decide) rfl dX1_takeAlone_44 rfl ?_
    refine GG_iconst hk (pc' := 48) 0 dX1_takeAlone_47 rfl rfl ?_
    refine GG_aload_n hk (pc' := 49) 0 dX1_takeAlone_48 rfl rfl rfl ?_
    refine GG_get hk LC1 2 (v := .ref (kh k + (o + 1))) (pc' := 52) tw_113 rfl (kdO h_o) (by decide) rfl dX1_takeAlone_49 rfl ?_
    refine GG_iconst hk (pc' := 53) 0 dX1_takeAlone_52 rfl rfl ?_
    refine GG_bipush hk (pc' := 55) 10 dX1_takeAlone_53 rfl rfl ?_
    refine GG_copy hk (st := []) (pc' := 58) tw_635 tw_430 tw_429 tw_10 (kdOa h_l2 0 (by decide)) (lnOa h_l2 0 (by decide) rfl) (kdOa h_o 0 (by decide)) (lnOa h_o 0 (by decide) rfl) (by omega) (Nat.le_of_ble_eq_true rfl) dX1_takeAlone_55 rfl (fun M6 e_M6 => ?_)
    refine GG_aload_n hk (pc' := 59) 2 dX1_takeAlone_58 rfl rfl rfl ?_
    refine GG_get hk LC1 3 (v := .ref (kh k + (l2 + 2))) (pc' := 62) tw_116 rfl (kdO h_l2) (by decide) rfl dX1_takeAlone_59 rfl ?_
    refine GG_iconst hk (pc' := 63) 0 dX1_takeAlone_62 rfl rfl ?_
    refine GG_aload_n hk (pc' := 64) 0 dX1_takeAlone_63 rfl rfl rfl ?_
    refine GG_get hk LC1 3 (v := .ref (kh k + (o + 2))) (pc' := 67) tw_116 rfl (kdO h_o) (by decide) rfl dX1_takeAlone_64 rfl ?_
    refine GG_iconst hk (pc' := 68) 0 dX1_takeAlone_67 rfl rfl ?_
    refine GG_bipush hk (pc' := 70) 10 dX1_takeAlone_68 rfl rfl ?_
    refine GG_copy hk (st := []) (pc' := 73) tw_635 tw_430 tw_429 tw_10 (kdOa h_l2 1 (by decide)) (lnOa h_l2 1 (by decide) rfl) (kdOa h_o 1 (by decide)) (lnOa h_o 1 (by decide) rfl) (by omega) (Nat.le_of_ble_eq_true rfl) dX1_takeAlone_70 rfl (fun M7 e_M7 => ?_)
    refine GG_aload_n hk (pc' := 74) 0 dX1_takeAlone_73 rfl rfl rfl ?_
    refine GG_get hk LC1 4 (v := .ref (kh k + (o + 3))) (pc' := 77) tw_119 rfl (kdO h_o) (by decide) rfl dX1_takeAlone_74 rfl ?_
    refine GG_iload_n hk (pc' := 78) 1 dX1_takeAlone_77 rfl rfl rfl ?_
    refine GG_callSv hk (st := []) (pc' := 81) mf_J7_fill_53178 tw_637 (c_J7_fill_53178 _ _ _ M7 (o + 3) l1 (kdOa h_o 2 (by decide))) (by omega) tw_636 rfl rfl (Nat.le_of_ble_eq_true rfl) dX1_takeAlone_78 rfl (fun z8 e_z8 => ?_)
    refine GG_iconst hk (pc' := 82) 0 dX1_takeAlone_81 rfl rfl ?_
    exact GG_iret hk hq dX1_takeAlone_82
theorem c_X1_takeAlone (l : Launch) (C : DD) (a : Nat) (M : Mem) (o : Nat) (l1 : Int32) (l2 : Nat) (h_o : okO o) (h_l2 : okO l2) : CI l C (a) yX1_takeAlone cX1_takeAlone 3 .int 2 [.ref (a + o), .int l1, .ref (a + l2)] M (f_X1_takeAlone M o l1 l2) := by
  refine CI_of RX1 (by decide +kernel) rfl (Nat.le_of_ble_eq_true rfl) (fun k q hk hq e1 e2 e3 => ?_)
  subst e1; subst e2; subst e3
  exact m_X1_takeAlone hk hq M o l1 l2 h_o h_l2

/-! SettingsInLayers$Outcome.takeGreater(ILSettingsInLayers$Outcome;)I -/
noncomputable def f_X1_takeGreater_32  (M : Mem) (l0 : Nat) (l1 : Int32) (l2 : Nat) (t0 : Int32) : Option (Int32 × Mem) :=
    if t0 = 0 then
      some (0, M)
    else
      Option.bind (f_X1_takeAlone M l0 l1 l2) fun z2 =>
      some (z2.1, z2.2)
set_option maxRecDepth 20000 in
theorem m_X1_takeGreater_32 {k : KT} {q : Int32 × Mem} (hk : CX k cX1_takeGreater RX1 4 (some .int) 3) (hq : RI k q) (M : Mem) (l0 : Nat) (l1 : Int32) (l2 : Nat) (t0 : Int32) (h_l0 : okO l0) (h_l2 : okO l2) : GG k q (wM k M) 32 [(0, .ref (kh k + l0)), (1, .int l1), (2, .ref (kh k + l2))] [.int t0] (f_X1_takeGreater_32  M l0 l1 l2 t0) := by
  unfold f_X1_takeGreater_32
  refine GG_istore_n hk (pc' := 33) [(3, .int t0), (0, .ref (kh k + l0)), (1, .int l1), (2, .ref (kh k + l2))] dX1_takeGreater_32 rfl rfl (by decide) rfl ?_
  refine GG_iload_n hk (pc' := 34) 0 dX1_takeGreater_33 rfl rfl rfl ?_
  refine GG_if_eq hk 46 (pc' := 37) dX1_takeGreater_34 rfl (by decide) (fun c1 => ?_) (fun c1 => ?_)
  · refine GG_iconst hk (pc' := 47) 0 dX1_takeGreater_46 rfl rfl ?_
    exact GG_iret hk hq dX1_takeGreater_47
  · refine GG_aload_n hk (pc' := 38) 1 dX1_takeGreater_37 rfl rfl rfl ?_
    refine GG_iload_n hk (pc' := 39) 2 dX1_takeGreater_38 rfl rfl rfl ?_
    refine GG_aload_n hk (pc' := 40) 3 dX1_takeGreater_39 rfl rfl rfl ?_
    refine GG_callVi hk (st := []) (pc' := 43) mf_X1_takeAlone mv_X1_takeAlone LC1 rfl (c_X1_takeAlone _ _ _ M l0 l1 l2 h_l0 h_l2) (by omega) tw_631 (kdO h_l0) rfl rfl (Nat.le_of_ble_eq_true rfl) dX1_takeGreater_40 rfl (fun z2 e_z2 => ?_)
    refine GG_goto hk 47 dX1_takeGreater_43 (by decide) ?_
    exact GG_iret hk hq dX1_takeGreater_47
noncomputable def f_X1_takeGreater_27  (M : Mem) (l0 : Nat) (l1 : Int32) (l2 : Nat) : Option (Int32 × Mem) :=
    f_X1_takeGreater_32  M l0 l1 l2 1
set_option maxRecDepth 20000 in
theorem m_X1_takeGreater_27 {k : KT} {q : Int32 × Mem} (hk : CX k cX1_takeGreater RX1 4 (some .int) 3) (hq : RI k q) (M : Mem) (l0 : Nat) (l1 : Int32) (l2 : Nat) (h_l0 : okO l0) (h_l2 : okO l2) : GG k q (wM k M) 27 [(0, .ref (kh k + l0)), (1, .int l1), (2, .ref (kh k + l2))] [] (f_X1_takeGreater_27  M l0 l1 l2) := by
  unfold f_X1_takeGreater_27
  refine GG_iconst hk (pc' := 28) 1 dX1_takeGreater_27 rfl rfl ?_
  refine GG_goto hk 32 dX1_takeGreater_28 (by decide) ?_
  exact m_X1_takeGreater_32 hk hq  M l0 l1 l2 1 h_l0 h_l2
noncomputable def f_X1_takeGreater (M : Mem) (o : Nat) (l1 : Int32) (l2 : Nat) : Option (Int32 × Mem) :=
    if (M l2 0) = 0 then
      if (M o 11) = 0 then
        f_X1_takeGreater_27  M o l1 l2
      else
        if (M l2 1) ≤ (M o 1) then
          f_X1_takeGreater_32  M o l1 l2 0
        else
          f_X1_takeGreater_27  M o l1 l2
    else
      some (3, M)
set_option maxRecDepth 20000 in
theorem m_X1_takeGreater {k : KT} {q : Int32 × Mem} (hk : CX k cX1_takeGreater RX1 4 (some .int) 3) (hq : RI k q) (M : Mem) (o : Nat) (l1 : Int32) (l2 : Nat) (h_o : okO o) (h_l2 : okO l2) : GG k q (wM k M) 0 [(0, .ref (kh k + o)), (1, .int l1), (2, .ref (kh k + l2))] [] (f_X1_takeGreater M o l1 l2) := by
  unfold f_X1_takeGreater
  refine GG_aload_n hk (pc' := 1) 2 dX1_takeGreater_0 rfl rfl rfl ?_
  refine GG_get hk LC1 0 (v := .int (M l2 0)) (pc' := 4) tw_107 rfl (kdO h_l2) (by decide) rfl dX1_takeGreater_1 rfl ?_
  refine GG_if_eq hk 9 (pc' := 7) dX1_takeGreater_4 rfl (by decide) (fun c1 => ?_) (fun c1 => ?_)
  · refine GG_aload_n hk (pc' := 10) 0 dX1_takeGreater_9 rfl rfl rfl ?_
    refine GG_get hk LC1 11 (v := .int (M o 11)) (pc' := 13) tw_136 rfl (kdO h_o) (by decide) rfl dX1_takeGreater_10 rfl ?_
    refine GG_if_eq hk 27 (pc' := 16) dX1_takeGreater_13 rfl (by decide) (fun c2 => ?_) (fun c2 => ?_)
    · exact m_X1_takeGreater_27 hk hq  M o l1 l2 h_o h_l2
    · refine GG_aload_n hk (pc' := 17) 2 dX1_takeGreater_16 rfl rfl rfl ?_
      refine GG_get hk LC1 1 (v := .int (M l2 1)) (pc' := 20) tw_110 rfl (kdO h_l2) (by decide) rfl dX1_takeGreater_17 rfl ?_
      refine GG_aload_n hk (pc' := 21) 0 dX1_takeGreater_20 rfl rfl rfl ?_
      refine GG_get hk LC1 1 (v := .int (M o 1)) (pc' := 24) tw_110 rfl (kdO h_o) (by decide) rfl dX1_takeGreater_21 rfl ?_
      refine GG_icmp_le hk 31 (pc' := 27) dX1_takeGreater_24 rfl (by decide) (fun c3 => ?_) (fun c3 => ?_)
      · refine GG_iconst hk (pc' := 32) 0 dX1_takeGreater_31 rfl rfl ?_
        exact m_X1_takeGreater_32 hk hq  M o l1 l2 0 h_o h_l2
      · exact m_X1_takeGreater_27 hk hq  M o l1 l2 h_o h_l2
  · refine GG_iconst hk (pc' := 8) 3 dX1_takeGreater_7 rfl rfl ?_
    exact GG_iret hk hq dX1_takeGreater_8
theorem c_X1_takeGreater (l : Launch) (C : DD) (a : Nat) (M : Mem) (o : Nat) (l1 : Int32) (l2 : Nat) (h_o : okO o) (h_l2 : okO l2) : CI l C (a) yX1_takeGreater cX1_takeGreater 4 .int 3 [.ref (a + o), .int l1, .ref (a + l2)] M (f_X1_takeGreater M o l1 l2) := by
  refine CI_of RX1 (by decide +kernel) rfl (Nat.le_of_ble_eq_true rfl) (fun k q hk hq e1 e2 e3 => ?_)
  subst e1; subst e2; subst e3
  exact m_X1_takeGreater hk hq M o l1 l2 h_o h_l2

/-! SettingsInLayers$Outcome.takeItem(III)Z -/
noncomputable def f_X1_takeItem_57  (M : Mem) (l0 : Nat) (l1 : Int32) (l2 : Int32) (l3 : Int32) (l4 : Int32) : Option (Int32 × Mem) :=
    Option.bind (wra 10 M (l0 + 1) l4 l1) fun M1 =>
    Option.bind (wra 10 M1 (l0 + 2) l4 l2) fun M2 =>
    Option.bind (wra 10 M2 (l0 + 3) l4 l3) fun M3 =>
    bret 1 M3
set_option maxRecDepth 20000 in
theorem m_X1_takeItem_57 {k : KT} {q : Int32 × Mem} (hk : CX k cX1_takeItem RX1 5 (some .boolean) 1) (hq : RI k q) (M : Mem) (l0 : Nat) (l1 : Int32) (l2 : Int32) (l3 : Int32) (l4 : Int32) (h_l0 : okO l0) : GG k q (wM k M) 57 [(0, .ref (kh k + l0)), (1, .int l1), (2, .int l2), (3, .int l3), (4, .int l4)] [] (f_X1_takeItem_57  M l0 l1 l2 l3 l4) := by
  unfold f_X1_takeItem_57
  refine GG_aload_n hk (pc' := 58) 0 dX1_takeItem_57 rfl rfl rfl ?_
  refine GG_get hk LC1 2 (v := .ref (kh k + (l0 + 1))) (pc' := 61) tw_113 rfl (kdO h_l0) (by decide) rfl dX1_takeItem_58 rfl ?_
  refine GG_iload hk (pc' := 63) 4 dX1_takeItem_61 rfl rfl ?_
  refine GG_iload_n hk (pc' := 64) 1 dX1_takeItem_63 rfl rfl rfl ?_
  refine GG_iast hk (pc' := 65) (kdOa h_l0 0 (by decide)) (lnOa h_l0 0 (by decide) rfl) dX1_takeItem_64 rfl (fun M1 e_M1 => ?_)
  refine GG_aload_n hk (pc' := 66) 0 dX1_takeItem_65 rfl rfl rfl ?_
  refine GG_get hk LC1 3 (v := .ref (kh k + (l0 + 2))) (pc' := 69) tw_116 rfl (kdO h_l0) (by decide) rfl dX1_takeItem_66 rfl ?_
  refine GG_iload hk (pc' := 71) 4 dX1_takeItem_69 rfl rfl ?_
  refine GG_iload_n hk (pc' := 72) 2 dX1_takeItem_71 rfl rfl rfl ?_
  refine GG_iast hk (pc' := 73) (kdOa h_l0 1 (by decide)) (lnOa h_l0 1 (by decide) rfl) dX1_takeItem_72 rfl (fun M2 e_M2 => ?_)
  refine GG_aload_n hk (pc' := 74) 0 dX1_takeItem_73 rfl rfl rfl ?_
  refine GG_get hk LC1 4 (v := .ref (kh k + (l0 + 3))) (pc' := 77) tw_119 rfl (kdO h_l0) (by decide) rfl dX1_takeItem_74 rfl ?_
  refine GG_iload hk (pc' := 79) 4 dX1_takeItem_77 rfl rfl ?_
  refine GG_iload_n hk (pc' := 80) 3 dX1_takeItem_79 rfl rfl rfl ?_
  refine GG_iast hk (pc' := 81) (kdOa h_l0 2 (by decide)) (lnOa h_l0 2 (by decide) rfl) dX1_takeItem_80 rfl (fun M3 e_M3 => ?_)
  refine GG_iconst hk (pc' := 82) 1 dX1_takeItem_81 rfl rfl ?_
  exact GG_zret hk hq dX1_takeItem_82
noncomputable def f_X1_takeItem_29  (M : Mem) (l0 : Nat) (l1 : Int32) (l2 : Int32) (l3 : Int32) (l4 : Int32) : Option (Int32 × Mem) :=
    if l4 < 10 then
      if ¬ l4 = (M l0 1) then
        f_X1_takeItem_57  M l0 l1 l2 l3 l4
      else
        Option.bind (wrf M l0 1 ((M l0 1) + 1)) fun M3 =>
        f_X1_takeItem_57  M3 l0 l1 l2 l3 l4
    else
      bret 0 M
set_option maxRecDepth 20000 in
theorem m_X1_takeItem_29 {k : KT} {q : Int32 × Mem} (hk : CX k cX1_takeItem RX1 5 (some .boolean) 1) (hq : RI k q) (M : Mem) (l0 : Nat) (l1 : Int32) (l2 : Int32) (l3 : Int32) (l4 : Int32) (h_l0 : okO l0) : GG k q (wM k M) 29 [(0, .ref (kh k + l0)), (1, .int l1), (2, .int l2), (3, .int l3), (4, .int l4)] [] (f_X1_takeItem_29  M l0 l1 l2 l3 l4) := by
  unfold f_X1_takeItem_29
  refine GG_iload hk (pc' := 31) 4 dX1_takeItem_29 rfl rfl ?_
  refine GG_bipush hk (pc' := 33) 10 dX1_takeItem_31 rfl rfl ?_
  refine GG_icmp_lt hk 38 (pc' := 36) dX1_takeItem_33 rfl (by decide) (fun c1 => ?_) (fun c1 => ?_)
  · refine GG_iload hk (pc' := 40) 4 dX1_takeItem_38 rfl rfl ?_
    refine GG_aload_n hk (pc' := 41) 0 dX1_takeItem_40 rfl rfl rfl ?_
    refine GG_get hk LC1 1 (v := .int (M l0 1)) (pc' := 44) tw_110 rfl (kdO h_l0) (by decide) rfl dX1_takeItem_41 rfl ?_
    refine GG_icmp_ne hk 57 (pc' := 47) dX1_takeItem_44 rfl (by decide) (fun c2 => ?_) (fun c2 => ?_)
    · exact m_X1_takeItem_57 hk hq  M l0 l1 l2 l3 l4 h_l0
    · refine GG_aload_n hk (pc' := 48) 0 dX1_takeItem_47 rfl rfl rfl ?_
      refine GG_dup hk (pc' := 49) dX1_takeItem_48 rfl rfl ?_
      refine GG_get hk LC1 1 (v := .int (M l0 1)) (pc' := 52) tw_110 rfl (kdO h_l0) (by decide) rfl dX1_takeItem_49 rfl ?_
      refine GG_iconst hk (pc' := 53) 1 dX1_takeItem_52 rfl rfl ?_
      refine GG_iadd hk (pc' := 54) dX1_takeItem_53 rfl ?_
      refine GG_put hk LC1 1 (pc' := 57) tw_110 rfl (kdO h_l0) (by decide) rfl rfl (Nat.le_of_ble_eq_true rfl) (pv_1_1 _ _ _ _) dX1_takeItem_54 rfl (fun M3 e_M3 => ?_)
      exact m_X1_takeItem_57 hk hq  M3 l0 l1 l2 l3 l4 h_l0
  · refine GG_iconst hk (pc' := 37) 0 dX1_takeItem_36 rfl rfl ?_
    exact GG_zret hk hq dX1_takeItem_37
noncomputable def f_X1_takeItem_3  : Nat → Mem → Nat → Int32 → Int32 → Int32 → Int32 → Option (Int32 × Mem)
  | 0, _, _, _, _, _, _ => none
  | n + 1, M, l0, l1, l2, l3, l4 =>
    if (M l0 1) ≤ l4 then
      f_X1_takeItem_29  M l0 l1 l2 l3 l4
    else
      Option.bind (rd 10 (M (l0 + 1)) l4) fun v2 =>
      if v2 = l1 then
        f_X1_takeItem_29  M l0 l1 l2 l3 l4
      else
        f_X1_takeItem_3  n M l0 l1 l2 l3 (l4 + 1)
set_option maxRecDepth 20000 in
theorem m_X1_takeItem_3 {k : KT} {q : Int32 × Mem} (hk : CX k cX1_takeItem RX1 5 (some .boolean) 1) (hq : RI k q) : ∀ (n : Nat) (M : Mem) (l0 : Nat) (l1 : Int32) (l2 : Int32) (l3 : Int32) (l4 : Int32) (h_l0 : okO l0), GG k q (wM k M) 3 [(0, .ref (kh k + l0)), (1, .int l1), (2, .int l2), (3, .int l3), (4, .int l4)] [] (f_X1_takeItem_3  n M l0 l1 l2 l3 l4) := by
  intro n
  induction n with
  | zero => intros; exact GG_none
  | succ n ih =>
    intro M l0 l1 l2 l3 l4 h_l0
    rw [f_X1_takeItem_3]
    refine GG_iload hk (pc' := 5) 4 dX1_takeItem_3 rfl rfl ?_
    refine GG_aload_n hk (pc' := 6) 0 dX1_takeItem_5 rfl rfl rfl ?_
    refine GG_get hk LC1 1 (v := .int (M l0 1)) (pc' := 9) tw_110 rfl (kdO h_l0) (by decide) rfl dX1_takeItem_6 rfl ?_
    refine GG_icmp_ge hk 29 (pc' := 12) dX1_takeItem_9 rfl (by decide) (fun c1 => ?_) (fun c1 => ?_)
    · exact m_X1_takeItem_29 hk hq  M l0 l1 l2 l3 l4 h_l0
    · refine GG_aload_n hk (pc' := 13) 0 dX1_takeItem_12 rfl rfl rfl ?_
      refine GG_get hk LC1 2 (v := .ref (kh k + (l0 + 1))) (pc' := 16) tw_113 rfl (kdO h_l0) (by decide) rfl dX1_takeItem_13 rfl ?_
      refine GG_iload hk (pc' := 18) 4 dX1_takeItem_16 rfl rfl ?_
      refine GG_iald hk (pc' := 19) (kdOa h_l0 0 (by decide)) (lnOa h_l0 0 (by decide) rfl) dX1_takeItem_18 rfl (fun v2 e_v2 => ?_)
      refine GG_iload_n hk (pc' := 20) 1 dX1_takeItem_19 rfl rfl rfl ?_
      refine GG_icmp_eq hk 29 (pc' := 23) dX1_takeItem_20 rfl (by decide) (fun c3 => ?_) (fun c3 => ?_)
      · exact m_X1_takeItem_29 hk hq  M l0 l1 l2 l3 l4 h_l0
      · refine GG_iinc hk (pc' := 26) 4 (l4 + 1) [(4, .int (l4 + 1)), (0, .ref (kh k + l0)), (1, .int l1), (2, .int l2), (3, .int l3)] dX1_takeItem_23 rfl rfl rfl (by decide) rfl ?_
        refine GG_goto hk 3 dX1_takeItem_26 (by decide) ?_
        refine GG_sub (L' := [(0, .ref (kh k + l0)), (1, .int l1), (2, .int l2), (3, .int l3), (4, .int (l4 + 1))]) [1, 2, 3, 4, 0] rfl ?_
        exact ih M l0 l1 l2 l3 (l4 + 1) h_l0
noncomputable def f_X1_takeItem (M : Mem) (o : Nat) (l1 : Int32) (l2 : Int32) (l3 : Int32) : Option (Int32 × Mem) :=
    f_X1_takeItem_3  1000 M o l1 l2 l3 0
set_option maxRecDepth 20000 in
theorem m_X1_takeItem {k : KT} {q : Int32 × Mem} (hk : CX k cX1_takeItem RX1 5 (some .boolean) 1) (hq : RI k q) (M : Mem) (o : Nat) (l1 : Int32) (l2 : Int32) (l3 : Int32) (h_o : okO o) : GG k q (wM k M) 0 [(0, .ref (kh k + o)), (1, .int l1), (2, .int l2), (3, .int l3)] [] (f_X1_takeItem M o l1 l2 l3) := by
  unfold f_X1_takeItem
  refine GG_iconst hk (pc' := 1) 0 dX1_takeItem_0 rfl rfl ?_
  refine GG_istore hk (pc' := 3) [(4, .int 0), (0, .ref (kh k + o)), (1, .int l1), (2, .int l2), (3, .int l3)] dX1_takeItem_1 rfl (by decide) rfl ?_
  refine GG_sub (L' := [(0, .ref (kh k + o)), (1, .int l1), (2, .int l2), (3, .int l3), (4, .int 0)]) [1, 2, 3, 4, 0] rfl ?_
  exact m_X1_takeItem_3 hk hq  1000 M o l1 l2 l3 0 h_o
theorem c_X1_takeItem (l : Launch) (C : DD) (a : Nat) (M : Mem) (o : Nat) (l1 : Int32) (l2 : Int32) (l3 : Int32) (h_o : okO o) : CI l C (a) yX1_takeItem cX1_takeItem 5 .boolean 1 [.ref (a + o), .int l1, .int l2, .int l3] M (f_X1_takeItem M o l1 l2 l3) := by
  refine CI_of RX1 (by decide +kernel) rfl (Nat.le_of_ble_eq_true rfl) (fun k q hk hq e1 e2 e3 => ?_)
  subst e1; subst e2; subst e3
  exact m_X1_takeItem hk hq M o l1 l2 l3 h_o

/-! SettingsInLayers$Outcome.takeItems(ILSettingsInLayers$Outcome;)I -/
noncomputable def f_X1_takeItems_23  : Nat → Mem → Nat → Int32 → Nat → Int32 → Option (Int32 × Mem)
  | 0, _, _, _, _, _ => none
  | n + 1, M, l0, l1, l2, l3 =>
    if (M l2 1) ≤ l3 then
      some (0, M)
    else
      Option.bind (rd 10 (M (l2 + 1)) l3) fun v2 =>
      Option.bind (rd 10 (M (l2 + 2)) l3) fun v3 =>
      Option.bind (f_X1_takeItem M l0 v2 v3 l1) fun z4 =>
      if ¬ z4.1 = 0 then
        f_X1_takeItems_23  n z4.2 l0 l1 l2 (l3 + 1)
      else
        some (4, z4.2)
set_option maxRecDepth 20000 in
theorem m_X1_takeItems_23 {k : KT} {q : Int32 × Mem} (hk : CX k cX1_takeItems RX1 4 (some .int) 2) (hq : RI k q) : ∀ (n : Nat) (M : Mem) (l0 : Nat) (l1 : Int32) (l2 : Nat) (l3 : Int32) (h_l0 : okO l0) (h_l2 : okO l2), GG k q (wM k M) 23 [(0, .ref (kh k + l0)), (1, .int l1), (2, .ref (kh k + l2)), (3, .int l3)] [] (f_X1_takeItems_23  n M l0 l1 l2 l3) := by
  intro n
  induction n with
  | zero => intros; exact GG_none
  | succ n ih =>
    intro M l0 l1 l2 l3 h_l0 h_l2
    rw [f_X1_takeItems_23]
    refine GG_iload_n hk (pc' := 24) 3 dX1_takeItems_23 rfl rfl rfl ?_
    refine GG_aload_n hk (pc' := 25) 2 dX1_takeItems_24 rfl rfl rfl ?_
    refine GG_get hk LC1 1 (v := .int (M l2 1)) (pc' := 28) tw_110 rfl (kdO h_l2) (by decide) rfl dX1_takeItems_25 rfl ?_
    refine GG_icmp_ge hk 59 (pc' := 31) dX1_takeItems_28 rfl (by decide) (fun c1 => ?_) (fun c1 => ?_)
    · refine GG_iconst hk (pc' := 60) 0 dX1_takeItems_59 rfl rfl ?_
      exact GG_iret hk hq dX1_takeItems_60
    · refine GG_aload_n hk (pc' := 32) 0 dX1_takeItems_31 rfl rfl rfl ?_
      refine GG_aload_n hk (pc' := 33) 2 dX1_takeItems_32 rfl rfl rfl ?_
      refine GG_get hk LC1 2 (v := .ref (kh k + (l2 + 1))) (pc' := 36) tw_113 rfl (kdO h_l2) (by decide) rfl dX1_takeItems_33 rfl ?_
      refine GG_iload_n hk (pc' := 37) 3 dX1_takeItems_36 rfl rfl rfl ?_
      refine GG_iald hk (pc' := 38) (kdOa h_l2 0 (by decide)) (lnOa h_l2 0 (by decide) rfl) dX1_takeItems_37 rfl (fun v2 e_v2 => ?_)
      refine GG_aload_n hk (pc' := 39) 2 dX1_takeItems_38 rfl rfl rfl ?_
      refine GG_get hk LC1 3 (v := .ref (kh k + (l2 + 2))) (pc' := 42) tw_116 rfl (kdO h_l2) (by decide) rfl dX1_takeItems_39 rfl ?_
      refine GG_iload_n hk (pc' := 43) 3 dX1_takeItems_42 rfl rfl rfl ?_
      refine GG_iald hk (pc' := 44) (kdOa h_l2 1 (by decide)) (lnOa h_l2 1 (by decide) rfl) dX1_takeItems_43 rfl (fun v3 e_v3 => ?_)
      refine GG_iload_n hk (pc' := 45) 1 dX1_takeItems_44 rfl rfl rfl ?_
      refine GG_callVi hk (st := []) (pc' := 48) mf_X1_takeItem mv_X1_takeItem LC1 rfl (c_X1_takeItem _ _ _ M l0 v2 v3 l1 h_l0) (by omega) tw_643 (kdO h_l0) rfl rfl (Nat.le_of_ble_eq_true rfl) dX1_takeItems_45 rfl (fun z4 e_z4 => ?_)
      refine GG_if_ne hk 53 (pc' := 51) dX1_takeItems_48 rfl (by decide) (fun c5 => ?_) (fun c5 => ?_)
      · refine GG_iinc hk (pc' := 56) 3 (l3 + 1) [(3, .int (l3 + 1)), (0, .ref (kh k + l0)), (1, .int l1), (2, .ref (kh k + l2))] dX1_takeItems_53 rfl rfl rfl (by decide) rfl ?_
        refine GG_goto hk 23 dX1_takeItems_56 (by decide) ?_
        refine GG_sub (L' := [(0, .ref (kh k + l0)), (1, .int l1), (2, .ref (kh k + l2)), (3, .int (l3 + 1))]) [1, 2, 3, 0] rfl ?_
        exact ih z4.2 l0 l1 l2 (l3 + 1) h_l0 h_l2
      · refine GG_iconst hk (pc' := 52) 4 dX1_takeItems_51 rfl rfl ?_
        exact GG_iret hk hq dX1_takeItems_52
noncomputable def f_X1_takeItems (M : Mem) (o : Nat) (l1 : Int32) (l2 : Nat) : Option (Int32 × Mem) :=
    if (M l2 0) = 1 then
      Option.bind (wrf M o 0 1) fun M2 =>
      Option.bind (f_X1_takeSource M2 o l1 l2) fun z3 =>
      f_X1_takeItems_23  1000 z3 o l1 l2 0
    else
      some (3, M)
set_option maxRecDepth 20000 in
theorem m_X1_takeItems {k : KT} {q : Int32 × Mem} (hk : CX k cX1_takeItems RX1 4 (some .int) 2) (hq : RI k q) (M : Mem) (o : Nat) (l1 : Int32) (l2 : Nat) (h_o : okO o) (h_l2 : okO l2) : GG k q (wM k M) 0 [(0, .ref (kh k + o)), (1, .int l1), (2, .ref (kh k + l2))] [] (f_X1_takeItems M o l1 l2) := by
  unfold f_X1_takeItems
  refine GG_aload_n hk (pc' := 1) 2 dX1_takeItems_0 rfl rfl rfl ?_
  refine GG_get hk LC1 0 (v := .int (M l2 0)) (pc' := 4) tw_107 rfl (kdO h_l2) (by decide) rfl dX1_takeItems_1 rfl ?_
  refine GG_iconst hk (pc' := 5) 1 dX1_takeItems_4 rfl rfl ?_
  refine GG_icmp_eq hk 10 (pc' := 8) dX1_takeItems_5 rfl (by decide) (fun c1 => ?_) (fun c1 => ?_)
  · refine GG_aload_n hk (pc' := 11) 0 dX1_takeItems_10 rfl rfl rfl ?_
    refine GG_iconst hk (pc' := 12) 1 dX1_takeItems_11 rfl rfl ?_
    refine GG_put hk LC1 0 (pc' := 15) tw_107 rfl (kdO h_o) (by decide) rfl rfl (Nat.le_of_ble_eq_true rfl) (pv_1_0 _ _ _ _) dX1_takeItems_12 rfl (fun M2 e_M2 => ?_)
    refine GG_aload_n hk (pc' := 16) 0 dX1_takeItems_15 rfl rfl rfl ?_
    refine GG_iload_n hk (pc' := 17) 1 dX1_takeItems_16 rfl rfl rfl ?_
    refine GG_aload_n hk (pc' := 18) 2 dX1_takeItems_17 rfl rfl rfl ?_
    refine GG_callVv hk (st := []) (pc' := 21) mf_X1_takeSource mv_X1_takeSource LC1 rfl (c_X1_takeSource _ _ _ M2 o l1 l2 h_o h_l2) (by omega) tw_622 (kdO h_o) rfl rfl (Nat.le_of_ble_eq_true rfl) dX1_takeItems_18 rfl (fun z3 e_z3 => ?_)
    refine GG_iconst hk (pc' := 22) 0 dX1_takeItems_21 rfl rfl ?_
    refine GG_istore_n hk (pc' := 23) [(3, .int 0), (0, .ref (kh k + o)), (1, .int l1), (2, .ref (kh k + l2))] dX1_takeItems_22 rfl rfl (by decide) rfl ?_
    refine GG_sub (L' := [(0, .ref (kh k + o)), (1, .int l1), (2, .ref (kh k + l2)), (3, .int 0)]) [1, 2, 3, 0] rfl ?_
    exact m_X1_takeItems_23 hk hq  1000 z3 o l1 l2 0 h_o h_l2
  · refine GG_iconst hk (pc' := 9) 3 dX1_takeItems_8 rfl rfl ?_
    exact GG_iret hk hq dX1_takeItems_9
theorem c_X1_takeItems (l : Launch) (C : DD) (a : Nat) (M : Mem) (o : Nat) (l1 : Int32) (l2 : Nat) (h_o : okO o) (h_l2 : okO l2) : CI l C (a) yX1_takeItems cX1_takeItems 4 .int 2 [.ref (a + o), .int l1, .ref (a + l2)] M (f_X1_takeItems M o l1 l2) := by
  refine CI_of RX1 (by decide +kernel) rfl (Nat.le_of_ble_eq_true rfl) (fun k q hk hq e1 e2 e3 => ?_)
  subst e1; subst e2; subst e3
  exact m_X1_takeItems hk hq M o l1 l2 h_o h_l2

/-! SettingsInLayers$Resolver.take(III)I -/
noncomputable def f_X2_take (M : Mem) (l1 : Int32) (l2 : Int32) (l3 : Int32) : Option (Int32 × Mem) :=
    Option.bind (rdO 9 34 l3) fun o1 =>
    Option.bind (rdO 9 34 (l3 + 1)) fun o2 =>
    if l1 = 2 then
      Option.bind (f_X1_takeToTotal M o1 l2 o2) fun z4 =>
      some (z4.1, z4.2)
    else
      if l1 = 3 then
        Option.bind (f_X1_takeGreater M o1 l2 o2) fun z6 =>
        some (z6.1, z6.2)
      else
        if l1 = 4 then
          Option.bind (f_X1_takeItems M o1 l2 o2) fun z8 =>
          some (z8.1, z8.2)
        else
          Option.bind (f_X1_takeAlone M o1 l2 o2) fun z9 =>
          some (z9.1, z9.2)
set_option maxRecDepth 20000 in
theorem m_X2_take {k : KT} {q : Int32 × Mem} (hk : CX k cX2_take RX2 6 (some .int) 4) (hq : RI k q) (M : Mem) (l1 : Int32) (l2 : Int32) (l3 : Int32)  : GG k q (wM k M) 0 [(0, .ref (kh k + 31)), (1, .int l1), (2, .int l2), (3, .int l3)] [] (f_X2_take M l1 l2 l3) := by
  unfold f_X2_take
  refine GG_aload_n hk (pc' := 1) 0 dX2_take_0 rfl rfl rfl ?_
  refine GG_get hk LC2 5 (v := .ref (kh k + 33)) (pc' := 4) tw_177 rfl rfl (by decide) rfl dX2_take_1 rfl ?_
  refine GG_iload_n hk (pc' := 5) 3 dX2_take_4 rfl rfl rfl ?_
  refine GG_aald hk (pc' := 6) rfl rfl (b := 34) rfl okO_33 dX2_take_5 rfl (fun o1 h_o1 e_o1 => ?_)
  refine GG_astore hk (pc' := 8) [(4, .ref (kh k + o1)), (0, .ref (kh k + 31)), (1, .int l1), (2, .int l2), (3, .int l3)] dX2_take_6 rfl (by decide) rfl ?_
  refine GG_aload_n hk (pc' := 9) 1 dX2_take_8 rfl rfl rfl ?_
  refine GG_get hk LC2 5 (v := .ref (kh k + 33)) (pc' := 12) tw_177 rfl rfl (by decide) rfl dX2_take_9 rfl ?_
  refine GG_iload_n hk (pc' := 13) 4 dX2_take_12 rfl rfl rfl ?_
  refine GG_iconst hk (pc' := 14) 1 dX2_take_13 rfl rfl ?_
  refine GG_iadd hk (pc' := 15) dX2_take_14 rfl ?_
  refine GG_aald hk (pc' := 16) rfl rfl (b := 34) rfl okO_33 dX2_take_15 rfl (fun o2 h_o2 e_o2 => ?_)
  refine GG_astore hk (pc' := 18) [(5, .ref (kh k + o2)), (4, .ref (kh k + o1)), (0, .ref (kh k + 31)), (1, .int l1), (2, .int l2), (3, .int l3)] dX2_take_16 rfl (by decide) rfl ?_
  refine GG_iload_n hk (pc' := 19) 3 dX2_take_18 rfl rfl rfl ?_
  refine GG_if (fun c3 => ?_) (fun c3 => ?_)
  · refine GG_tabIn hk 44 2 c3 dX2_take_19 (by decide) (by decide) rfl (by decide) ?_
    refine GG_aload hk (pc' := 46) 1 dX2_take_44 rfl rfl ?_
    refine GG_iload_n hk (pc' := 47) 4 dX2_take_46 rfl rfl rfl ?_
    refine GG_aload hk (pc' := 49) 0 dX2_take_47 rfl rfl ?_
    refine GG_callVi hk (st := []) (pc' := 52) mf_X1_takeToTotal mv_X1_takeToTotal LC1 rfl (c_X1_takeToTotal _ _ _ M o1 l2 o2 h_o1 h_o2) (by omega) tw_618 (kdO h_o1) rfl rfl (Nat.le_of_ble_eq_true rfl) dX2_take_49 rfl (fun z4 e_z4 => ?_)
    exact GG_iret hk hq dX2_take_52
  · refine GG_if (fun c5 => ?_) (fun c5 => ?_)
    · refine GG_tabIn hk 53 3 c5 dX2_take_19 (by decide) (by decide) rfl (by decide) ?_
      refine GG_aload hk (pc' := 55) 1 dX2_take_53 rfl rfl ?_
      refine GG_iload_n hk (pc' := 56) 4 dX2_take_55 rfl rfl rfl ?_
      refine GG_aload hk (pc' := 58) 0 dX2_take_56 rfl rfl ?_
      refine GG_callVi hk (st := []) (pc' := 61) mf_X1_takeGreater mv_X1_takeGreater LC1 rfl (c_X1_takeGreater _ _ _ M o1 l2 o2 h_o1 h_o2) (by omega) tw_627 (kdO h_o1) rfl rfl (Nat.le_of_ble_eq_true rfl) dX2_take_58 rfl (fun z6 e_z6 => ?_)
      exact GG_iret hk hq dX2_take_61
    · refine GG_if (fun c7 => ?_) (fun c7 => ?_)
      · refine GG_tabIn hk 62 4 c7 dX2_take_19 (by decide) (by decide) rfl (by decide) ?_
        refine GG_aload hk (pc' := 64) 1 dX2_take_62 rfl rfl ?_
        refine GG_iload_n hk (pc' := 65) 4 dX2_take_64 rfl rfl rfl ?_
        refine GG_aload hk (pc' := 67) 0 dX2_take_65 rfl rfl ?_
        refine GG_callVi hk (st := []) (pc' := 70) mf_X1_takeItems mv_X1_takeItems LC1 rfl (c_X1_takeItems _ _ _ M o1 l2 o2 h_o1 h_o2) (by omega) tw_639 (kdO h_o1) rfl rfl (Nat.le_of_ble_eq_true rfl) dX2_take_67 rfl (fun z8 e_z8 => ?_)
        exact GG_iret hk hq dX2_take_70
      · refine GG_tabOut hk 71 dX2_take_19 (sw_out_2_4 c3 c5 c7) (by decide) ?_
        refine GG_aload hk (pc' := 73) 1 dX2_take_71 rfl rfl ?_
        refine GG_iload_n hk (pc' := 74) 4 dX2_take_73 rfl rfl rfl ?_
        refine GG_aload hk (pc' := 76) 0 dX2_take_74 rfl rfl ?_
        refine GG_callVi hk (st := []) (pc' := 79) mf_X1_takeAlone mv_X1_takeAlone LC1 rfl (c_X1_takeAlone _ _ _ M o1 l2 o2 h_o1 h_o2) (by omega) tw_647 (kdO h_o1) rfl rfl (Nat.le_of_ble_eq_true rfl) dX2_take_76 rfl (fun z9 e_z9 => ?_)
        exact GG_iret hk hq dX2_take_79
theorem c_X2_take (l : Launch) (C : DD) (a : Nat) (M : Mem) (l1 : Int32) (l2 : Int32) (l3 : Int32)  : CI l C (a) yX2_take cX2_take 6 .int 4 [.ref (a + 31), .int l1, .int l2, .int l3] M (f_X2_take M l1 l2 l3) := by
  refine CI_of RX2 (by decide +kernel) rfl (Nat.le_of_ble_eq_true rfl) (fun k q hk hq e1 e2 e3 => ?_)
  subst e1; subst e2; subst e3
  exact m_X2_take hk hq M l1 l2 l3 

/-! SettingsInLayers$Resolver.merge(II)Z -/
noncomputable def f_X2_merge_55 (rs : Mem → Int32 → Int32 → Option (Int32 × Mem)) : Nat → Mem → Int32 → Int32 → Int32 → Nat → Int32 → Int32 → Option (Int32 × Mem)
  | 0, _, _, _, _, _, _, _ => none
  | n + 1, M, l1, l2, l3, l4, l6, l7 =>
    if l6 ≤ l7 then
      bret 1 M
    else
      Option.bind (f_X1_offerLayer M l4 l7) fun z2 =>
      Option.bind (f_X2_make rs z2.2 z2.1 l1 l2) fun z3 =>
      if ¬ z3.1 = 0 then
        Option.bind (f_X2_take z3.2 l3 z2.1 l2) fun z5 =>
        if z5.1 = 0 then
          f_X2_merge_55 rs  n z5.2 l1 l2 l3 l4 l6 (l7 + 1)
        else
          Option.bind (f_X2_fail z5.2 z5.1 l2) fun z7 =>
          bret z7.1 z7.2
      else
        bret 0 z3.2
set_option maxRecDepth 20000 in
theorem m_X2_merge_55 {k : KT} {q : Int32 × Mem} (rs : Mem → Int32 → Int32 → Option (Int32 × Mem)) (hr : Nat) (hb : 10 ≤ hr) (hrs : ∀ (M : Mem) (x0 : Int32) (x1 : Int32), CI (kl k) (kC k) (kh k) yX2_resolve cX2_resolve 5 .boolean hr [.ref (kh k + 31), .int x0, .int x1] M (rs M x0 x1)) (hk : CX k cX2_merge RX2 10 (some .boolean) (hr + 8)) (hq : RI k q) : ∀ (n : Nat) (M : Mem) (l1 : Int32) (l2 : Int32) (l3 : Int32) (l4 : Nat) (l6 : Int32) (l7 : Int32) (h_l4 : okO l4), GG k q (wM k M) 55 [(0, .ref (kh k + 31)), (1, .int l1), (2, .int l2), (3, .int l3), (4, .ref (kh k + l4)), (6, .int l6), (7, .int l7)] [] (f_X2_merge_55 rs  n M l1 l2 l3 l4 l6 l7) := by
  intro n
  induction n with
  | zero => intros; exact GG_none
  | succ n ih =>
    intro M l1 l2 l3 l4 l6 l7 h_l4
    rw [f_X2_merge_55]
    refine GG_iload hk (pc' := 57) 6 dX2_merge_55 rfl rfl ?_
    refine GG_iload hk (pc' := 59) 5 dX2_merge_57 rfl rfl ?_
    refine GG_icmp_ge hk 113 (pc' := 62) dX2_merge_59 rfl (by decide) (fun c1 => ?_) (fun c1 => ?_)
    · refine GG_iconst hk (pc' := 114) 1 dX2_merge_113 rfl rfl ?_
      exact GG_zret hk hq dX2_merge_114
    · refine GG_aload hk (pc' := 64) 4 dX2_merge_62 rfl rfl ?_
      refine GG_iload hk (pc' := 66) 6 dX2_merge_64 rfl rfl ?_
      refine GG_callVi hk (st := []) (pc' := 69) mf_X1_offerLayer mv_X1_offerLayer LC1 rfl (c_X1_offerLayer _ _ _ M l4 l7 h_l4) (by omega) tw_597 (kdO h_l4) rfl rfl (Nat.le_of_ble_eq_true rfl) dX2_merge_66 rfl (fun z2 e_z2 => ?_)
      refine GG_istore hk (pc' := 71) [(8, .int z2.1), (0, .ref (kh k + 31)), (1, .int l1), (2, .int l2), (3, .int l3), (4, .ref (kh k + l4)), (6, .int l6), (7, .int l7)] dX2_merge_69 rfl (by decide) rfl ?_
      refine GG_aload_n hk (pc' := 72) 1 dX2_merge_71 rfl rfl rfl ?_
      refine GG_iload hk (pc' := 74) 0 dX2_merge_72 rfl rfl ?_
      refine GG_iload_n hk (pc' := 75) 2 dX2_merge_74 rfl rfl rfl ?_
      refine GG_iload_n hk (pc' := 76) 3 dX2_merge_75 rfl rfl rfl ?_
      refine GG_callVi hk (st := []) (pc' := 79) mf_X2_make mv_X2_make LC2 rfl (c_X2_make _ _ _ rs hr hb hrs z2.2 z2.1 l1 l2 ) (by omega) tw_601 rfl rfl rfl (Nat.le_of_ble_eq_true rfl) dX2_merge_76 rfl (fun z3 e_z3 => ?_)
      refine GG_if_ne hk 84 (pc' := 82) dX2_merge_79 rfl (by decide) (fun c4 => ?_) (fun c4 => ?_)
      · refine GG_aload_n hk (pc' := 85) 1 dX2_merge_84 rfl rfl rfl ?_
        refine GG_iload_n hk (pc' := 86) 4 dX2_merge_85 rfl rfl rfl ?_
        refine GG_iload hk (pc' := 88) 0 dX2_merge_86 rfl rfl ?_
        refine GG_iload_n hk (pc' := 89) 3 dX2_merge_88 rfl rfl rfl ?_
        refine GG_callVi hk (st := []) (pc' := 92) mf_X2_take mv_X2_take LC2 rfl (c_X2_take _ _ _ z3.2 l3 z2.1 l2 ) (by omega) tw_614 rfl rfl rfl (Nat.le_of_ble_eq_true rfl) dX2_merge_89 rfl (fun z5 e_z5 => ?_)
        refine GG_istore hk (pc' := 94) [(9, .int z5.1), (8, .int z2.1), (0, .ref (kh k + 31)), (1, .int l1), (2, .int l2), (3, .int l3), (4, .ref (kh k + l4)), (6, .int l6), (7, .int l7)] dX2_merge_92 rfl (by decide) rfl ?_
        refine GG_iload hk (pc' := 96) 0 dX2_merge_94 rfl rfl ?_
        refine GG_if_eq hk 107 (pc' := 99) dX2_merge_96 rfl (by decide) (fun c6 => ?_) (fun c6 => ?_)
        · refine GG_iinc hk (pc' := 110) 8 (l7 + 1) [(7, .int (l7 + 1)), (9, .int z5.1), (8, .int z2.1), (0, .ref (kh k + 31)), (1, .int l1), (2, .int l2), (3, .int l3), (4, .ref (kh k + l4)), (6, .int l6)] dX2_merge_107 rfl rfl rfl (by decide) rfl ?_
          refine GG_goto hk 55 dX2_merge_110 (by decide) ?_
          refine GG_sub (L' := [(0, .ref (kh k + 31)), (1, .int l1), (2, .int l2), (3, .int l3), (4, .ref (kh k + l4)), (6, .int l6), (7, .int (l7 + 1))]) [3, 4, 5, 6, 7, 8, 0] rfl ?_
          exact ih z5.2 l1 l2 l3 l4 l6 (l7 + 1) h_l4
        · refine GG_aload_n hk (pc' := 100) 2 dX2_merge_99 rfl rfl rfl ?_
          refine GG_iload hk (pc' := 102) 0 dX2_merge_100 rfl rfl ?_
          refine GG_iload_n hk (pc' := 103) 4 dX2_merge_102 rfl rfl rfl ?_
          refine GG_callVi hk (st := []) (pc' := 106) mf_X2_fail mv_X2_fail LC2 rfl (c_X2_fail _ _ _ z5.2 z5.1 l2 ) (by omega) tw_575 rfl rfl rfl (Nat.le_of_ble_eq_true rfl) dX2_merge_103 rfl (fun z7 e_z7 => ?_)
          exact GG_zret hk hq dX2_merge_106
      · refine GG_iconst hk (pc' := 83) 0 dX2_merge_82 rfl rfl ?_
        exact GG_zret hk hq dX2_merge_83
noncomputable def f_X2_merge_33 (rs : Mem → Int32 → Int32 → Option (Int32 × Mem)) (M : Mem) (l1 : Int32) (l2 : Int32) (l3 : Int32) (l4 : Nat) (t0 : Int32) : Option (Int32 × Mem) :=
    if ¬ l3 = 1 then
      f_X2_merge_55 rs  1000 M l1 l2 l3 l4 (M l4 8) t0
    else
      f_X2_merge_55 rs  1000 M l1 l2 l3 l4 1 t0
set_option maxRecDepth 20000 in
theorem m_X2_merge_33 {k : KT} {q : Int32 × Mem} (rs : Mem → Int32 → Int32 → Option (Int32 × Mem)) (hr : Nat) (hb : 10 ≤ hr) (hrs : ∀ (M : Mem) (x0 : Int32) (x1 : Int32), CI (kl k) (kC k) (kh k) yX2_resolve cX2_resolve 5 .boolean hr [.ref (kh k + 31), .int x0, .int x1] M (rs M x0 x1)) (hk : CX k cX2_merge RX2 10 (some .boolean) (hr + 8)) (hq : RI k q) (M : Mem) (l1 : Int32) (l2 : Int32) (l3 : Int32) (l4 : Nat) (t0 : Int32) (h_l4 : okO l4) : GG k q (wM k M) 33 [(0, .ref (kh k + 31)), (1, .int l1), (2, .int l2), (3, .int l3), (4, .ref (kh k + l4))] [.int t0] (f_X2_merge_33 rs  M l1 l2 l3 l4 t0) := by
  unfold f_X2_merge_33
  refine GG_istore hk (pc' := 35) [(5, .int t0), (0, .ref (kh k + 31)), (1, .int l1), (2, .int l2), (3, .int l3), (4, .ref (kh k + l4))] dX2_merge_33 rfl (by decide) rfl ?_
  refine GG_iload_n hk (pc' := 36) 4 dX2_merge_35 rfl rfl rfl ?_
  refine GG_iconst hk (pc' := 37) 1 dX2_merge_36 rfl rfl ?_
  refine GG_icmp_ne hk 44 (pc' := 40) dX2_merge_37 rfl (by decide) (fun c1 => ?_) (fun c1 => ?_)
  · refine GG_aload hk (pc' := 46) 5 dX2_merge_44 rfl rfl ?_
    refine GG_get hk LC1 8 (v := .int (M l4 8)) (pc' := 49) tw_131 rfl (kdO h_l4) (by decide) rfl dX2_merge_46 rfl ?_
    refine GG_istore hk (pc' := 51) [(6, .int (M l4 8)), (5, .int t0), (0, .ref (kh k + 31)), (1, .int l1), (2, .int l2), (3, .int l3), (4, .ref (kh k + l4))] dX2_merge_49 rfl (by decide) rfl ?_
    refine GG_iload hk (pc' := 53) 1 dX2_merge_51 rfl rfl ?_
    refine GG_istore hk (pc' := 55) [(7, .int t0), (6, .int (M l4 8)), (5, .int t0), (0, .ref (kh k + 31)), (1, .int l1), (2, .int l2), (3, .int l3), (4, .ref (kh k + l4))] dX2_merge_53 rfl (by decide) rfl ?_
    refine GG_sub (L' := [(0, .ref (kh k + 31)), (1, .int l1), (2, .int l2), (3, .int l3), (4, .ref (kh k + l4)), (6, .int (M l4 8)), (7, .int t0)]) [3, 4, 5, 6, 7, 1, 0] rfl ?_
    exact m_X2_merge_55 rs hr hb hrs hk hq  1000 M l1 l2 l3 l4 (M l4 8) t0 h_l4
  · refine GG_iconst hk (pc' := 41) 1 dX2_merge_40 rfl rfl ?_
    refine GG_goto hk 49 dX2_merge_41 (by decide) ?_
    refine GG_istore hk (pc' := 51) [(6, .int 1), (5, .int t0), (0, .ref (kh k + 31)), (1, .int l1), (2, .int l2), (3, .int l3), (4, .ref (kh k + l4))] dX2_merge_49 rfl (by decide) rfl ?_
    refine GG_iload hk (pc' := 53) 1 dX2_merge_51 rfl rfl ?_
    refine GG_istore hk (pc' := 55) [(7, .int t0), (6, .int 1), (5, .int t0), (0, .ref (kh k + 31)), (1, .int l1), (2, .int l2), (3, .int l3), (4, .ref (kh k + l4))] dX2_merge_53 rfl (by decide) rfl ?_
    refine GG_sub (L' := [(0, .ref (kh k + 31)), (1, .int l1), (2, .int l2), (3, .int l3), (4, .ref (kh k + l4)), (6, .int 1), (7, .int t0)]) [3, 4, 5, 6, 7, 1, 0] rfl ?_
    exact m_X2_merge_55 rs hr hb hrs hk hq  1000 M l1 l2 l3 l4 1 t0 h_l4
noncomputable def f_X2_merge (rs : Mem → Int32 → Int32 → Option (Int32 × Mem)) (M : Mem) (l1 : Int32) (l2 : Int32) : Option (Int32 × Mem) :=
    Option.bind (rsc (M 31 0)) fun s1 =>
    Option.bind (rd 8 (M (s1 + 3)) l1) fun v2 =>
    Option.bind (rdO 9 34 l2) fun o3 =>
    if ¬ v2 = 0 then
      f_X2_merge_33 rs  M l1 l2 v2 o3 0
    else
      f_X2_merge_33 rs  M l1 l2 v2 o3 ((M o3 8) - 1)
set_option maxRecDepth 20000 in
theorem m_X2_merge {k : KT} {q : Int32 × Mem} (rs : Mem → Int32 → Int32 → Option (Int32 × Mem)) (hr : Nat) (hb : 10 ≤ hr) (hrs : ∀ (M : Mem) (x0 : Int32) (x1 : Int32), CI (kl k) (kC k) (kh k) yX2_resolve cX2_resolve 5 .boolean hr [.ref (kh k + 31), .int x0, .int x1] M (rs M x0 x1)) (hk : CX k cX2_merge RX2 10 (some .boolean) (hr + 8)) (hq : RI k q) (M : Mem) (l1 : Int32) (l2 : Int32)  : GG k q (wM k M) 0 [(0, .ref (kh k + 31)), (1, .int l1), (2, .int l2)] [] (f_X2_merge rs M l1 l2) := by
  unfold f_X2_merge
  refine GG_aload_n hk (pc' := 1) 0 dX2_merge_0 rfl rfl rfl ?_
  refine GG_scene hk (pc' := 4) tw_172 dX2_merge_1 rfl (fun s1 h_s1 e_s1 => ?_)
  refine GG_get hk LC4 3 (v := .ref (kh k + (s1 + 3))) (pc' := 7) tw_54 rfl (kdS h_s1) (by decide) rfl dX2_merge_4 rfl ?_
  refine GG_iload_n hk (pc' := 8) 1 dX2_merge_7 rfl rfl rfl ?_
  refine GG_iald hk (pc' := 9) (kdSa h_s1 2 (by decide)) (lnSa h_s1 2 (by decide) rfl) dX2_merge_8 rfl (fun v2 e_v2 => ?_)
  refine GG_istore_n hk (pc' := 10) [(3, .int v2), (0, .ref (kh k + 31)), (1, .int l1), (2, .int l2)] dX2_merge_9 rfl rfl (by decide) rfl ?_
  refine GG_aload_n hk (pc' := 11) 1 dX2_merge_10 rfl rfl rfl ?_
  refine GG_get hk LC2 5 (v := .ref (kh k + 33)) (pc' := 14) tw_177 rfl rfl (by decide) rfl dX2_merge_11 rfl ?_
  refine GG_iload_n hk (pc' := 15) 3 dX2_merge_14 rfl rfl rfl ?_
  refine GG_aald hk (pc' := 16) rfl rfl (b := 34) rfl okO_33 dX2_merge_15 rfl (fun o3 h_o3 e_o3 => ?_)
  refine GG_astore hk (pc' := 18) [(4, .ref (kh k + o3)), (3, .int v2), (0, .ref (kh k + 31)), (1, .int l1), (2, .int l2)] dX2_merge_16 rfl (by decide) rfl ?_
  refine GG_iload_n hk (pc' := 19) 1 dX2_merge_18 rfl rfl rfl ?_
  refine GG_if_ne hk 32 (pc' := 22) dX2_merge_19 rfl (by decide) (fun c4 => ?_) (fun c4 => ?_)
  · refine GG_iconst hk (pc' := 33) 0 dX2_merge_32 rfl rfl ?_
    refine GG_sub (L' := [(0, .ref (kh k + 31)), (1, .int l1), (2, .int l2), (3, .int v2), (4, .ref (kh k + o3))]) [2, 3, 4, 1, 0] rfl ?_
    exact m_X2_merge_33 rs hr hb hrs hk hq  M l1 l2 v2 o3 0 h_o3
  · refine GG_aload hk (pc' := 24) 0 dX2_merge_22 rfl rfl ?_
    refine GG_get hk LC1 8 (v := .int (M o3 8)) (pc' := 27) tw_131 rfl (kdO h_o3) (by decide) rfl dX2_merge_24 rfl ?_
    refine GG_iconst hk (pc' := 28) 1 dX2_merge_27 rfl rfl ?_
    refine GG_isub hk (pc' := 29) dX2_merge_28 rfl ?_
    refine GG_goto hk 33 dX2_merge_29 (by decide) ?_
    refine GG_sub (L' := [(0, .ref (kh k + 31)), (1, .int l1), (2, .int l2), (3, .int v2), (4, .ref (kh k + o3))]) [2, 3, 4, 1, 0] rfl ?_
    exact m_X2_merge_33 rs hr hb hrs hk hq  M l1 l2 v2 o3 ((M o3 8) - 1) h_o3
theorem c_X2_merge (l : Launch) (C : DD) (a : Nat) (rs : Mem → Int32 → Int32 → Option (Int32 × Mem)) (hr : Nat) (hb : 10 ≤ hr) (hrs : ∀ (M : Mem) (x0 : Int32) (x1 : Int32), CI l C (a) yX2_resolve cX2_resolve 5 .boolean hr [.ref (a + 31), .int x0, .int x1] M (rs M x0 x1)) (M : Mem) (l1 : Int32) (l2 : Int32)  : CI l C (a) yX2_merge cX2_merge 10 .boolean (hr + 8) [.ref (a + 31), .int l1, .int l2] M (f_X2_merge rs M l1 l2) := by
  refine CI_of RX2 (by decide +kernel) rfl (Nat.le_of_ble_eq_true rfl) (fun k q hk hq e1 e2 e3 => ?_)
  subst e1; subst e2; subst e3
  exact m_X2_merge rs hr hb hrs hk hq M l1 l2 

/-! SettingsInLayers$Resolver.resolve(II)Z -/
noncomputable def f_X2_resolve_b (rs : Mem → Int32 → Int32 → Option (Int32 × Mem)) (M : Mem) (l1 : Int32) (l2 : Int32) : Option (Int32 × Mem) :=
    if l2 < 9 then
      Option.bind (wra 9 M 32 l2 l1) fun M2 =>
      Option.bind (rdO 9 34 l2) fun o3 =>
      Option.bind (f_X1_reset M2 o3) fun z4 =>
      Option.bind (wrf z4 31 1 ((z4 31 1) + 1)) fun M5 =>
      Option.bind (wrf M5 31 3 ((M5 31 3) ||| (1 <<< (l1 &&& 31)))) fun M6 =>
      if (M6 31 1) ≤ 60 then
        if ((M6 31 2) &&& (1 <<< (l1 &&& 31))) = 0 then
          Option.bind (rdO 9 34 l2) fun o9 =>
          Option.bind (f_X2_gatherOffers M6 l1 o9) fun z10 =>
          Option.bind (rdO 9 34 l2) fun o11 =>
          if ¬ (z10 o11 8) = 0 then
            Option.bind (wrf z10 31 2 ((z10 31 2) ||| (1 <<< (l1 &&& 31)))) fun M13 =>
            Option.bind (f_X2_merge rs M13 l1 l2) fun z14 =>
            Option.bind (wrf z14.2 31 2 ((z14.2 31 2) &&& ((1 <<< (l1 &&& 31)) ^^^ (-1)))) fun M15 =>
            bret z14.1 M15
          else
            Option.bind (f_X2_fail z10 1 l2) fun z16 =>
            bret z16.1 z16.2
        else
          Option.bind (f_X2_fail M6 2 l2) fun z17 =>
          bret z17.1 z17.2
      else
        Option.bind (f_X2_fail M6 6 l2) fun z18 =>
        bret z18.1 z18.2
    else
      bret 0 M
noncomputable def f_X2_resolve : Nat → Mem → Int32 → Int32 → Option (Int32 × Mem)
  | 0 => fun _ _ _ => none
  | n + 1 => fun M l1 l2 => f_X2_resolve_b (f_X2_resolve n) M l1 l2
set_option maxRecDepth 20000 in
theorem m_X2_resolve {k : KT} {q : Int32 × Mem} (rs : Mem → Int32 → Int32 → Option (Int32 × Mem)) (hr : Nat) (hb : 10 ≤ hr) (hrs : ∀ (M : Mem) (x0 : Int32) (x1 : Int32), CI (kl k) (kC k) (kh k) yX2_resolve cX2_resolve 5 .boolean hr [.ref (kh k + 31), .int x0, .int x1] M (rs M x0 x1)) (hk : CX k cX2_resolve RX2 5 (some .boolean) (hr + 10)) (hq : RI k q) (M : Mem) (l1 : Int32) (l2 : Int32)  : GG k q (wM k M) 0 [(0, .ref (kh k + 31)), (1, .int l1), (2, .int l2)] [] (f_X2_resolve_b rs M l1 l2) := by
  unfold f_X2_resolve_b
  refine GG_iload_n hk (pc' := 1) 2 dX2_resolve_0 rfl rfl rfl ?_
  refine GG_bipush hk (pc' := 3) 9 dX2_resolve_1 rfl rfl ?_
  refine GG_icmp_lt hk 8 (pc' := 6) dX2_resolve_3 rfl (by decide) (fun c1 => ?_) (fun c1 => ?_)
  · refine GG_iconst hk (pc' := 9) 1 dX2_resolve_8 rfl rfl ?_
    refine GG_iload_n hk (pc' := 10) 1 dX2_resolve_9 rfl rfl rfl ?_
    refine GG_ishl hk (pc' := 11) dX2_resolve_10 rfl ?_
    refine GG_istore_n hk (pc' := 12) [(3, .int (1 <<< (l1 &&& 31))), (0, .ref (kh k + 31)), (1, .int l1), (2, .int l2)] dX2_resolve_11 rfl rfl (by decide) rfl ?_
    refine GG_aload_n hk (pc' := 13) 1 dX2_resolve_12 rfl rfl rfl ?_
    refine GG_get hk LC2 4 (v := .ref (kh k + 32)) (pc' := 16) tw_176 rfl rfl (by decide) rfl dX2_resolve_13 rfl ?_
    refine GG_iload_n hk (pc' := 17) 3 dX2_resolve_16 rfl rfl rfl ?_
    refine GG_iload_n hk (pc' := 18) 2 dX2_resolve_17 rfl rfl rfl ?_
    refine GG_iast hk (pc' := 19) rfl rfl dX2_resolve_18 rfl (fun M2 e_M2 => ?_)
    refine GG_aload_n hk (pc' := 20) 1 dX2_resolve_19 rfl rfl rfl ?_
    refine GG_get hk LC2 5 (v := .ref (kh k + 33)) (pc' := 23) tw_177 rfl rfl (by decide) rfl dX2_resolve_20 rfl ?_
    refine GG_iload_n hk (pc' := 24) 3 dX2_resolve_23 rfl rfl rfl ?_
    refine GG_aald hk (pc' := 25) rfl rfl (b := 34) rfl okO_33 dX2_resolve_24 rfl (fun o3 h_o3 e_o3 => ?_)
    refine GG_callVv hk (st := []) (pc' := 28) mf_X1_reset mv_X1_reset LC1 rfl (c_X1_reset _ _ _ M2 o3 h_o3) (by omega) tw_571 (kdO h_o3) rfl rfl (Nat.le_of_ble_eq_true rfl) dX2_resolve_25 rfl (fun z4 e_z4 => ?_)
    refine GG_aload_n hk (pc' := 29) 1 dX2_resolve_28 rfl rfl rfl ?_
    refine GG_dup hk (pc' := 30) dX2_resolve_29 rfl rfl ?_
    refine GG_get hk LC2 1 (v := .int (z4 31 1)) (pc' := 33) tw_173 rfl rfl (by decide) rfl dX2_resolve_30 rfl ?_
    refine GG_iconst hk (pc' := 34) 1 dX2_resolve_33 rfl rfl ?_
    refine GG_iadd hk (pc' := 35) dX2_resolve_34 rfl ?_
    refine GG_put hk LC2 1 (pc' := 38) tw_173 rfl rfl (by decide) rfl rfl (Nat.le_of_ble_eq_true rfl) (pv_2_1 _ _ _ _) dX2_resolve_35 rfl (fun M5 e_M5 => ?_)
    refine GG_aload_n hk (pc' := 39) 1 dX2_resolve_38 rfl rfl rfl ?_
    refine GG_dup hk (pc' := 40) dX2_resolve_39 rfl rfl ?_
    refine GG_get hk LC2 3 (v := .int (M5 31 3)) (pc' := 43) tw_175 rfl rfl (by decide) rfl dX2_resolve_40 rfl ?_
    refine GG_iload_n hk (pc' := 44) 0 dX2_resolve_43 rfl rfl rfl ?_
    refine GG_ior hk (pc' := 45) dX2_resolve_44 rfl ?_
    refine GG_put hk LC2 3 (pc' := 48) tw_175 rfl rfl (by decide) rfl rfl (Nat.le_of_ble_eq_true rfl) (pv_2_3 _ _ _ _) dX2_resolve_45 rfl (fun M6 e_M6 => ?_)
    refine GG_aload_n hk (pc' := 49) 1 dX2_resolve_48 rfl rfl rfl ?_
    refine GG_get hk LC2 1 (v := .int (M6 31 1)) (pc' := 52) tw_173 rfl rfl (by decide) rfl dX2_resolve_49 rfl ?_
    refine GG_bipush hk (pc' := 54) 60 dX2_resolve_52 rfl rfl ?_
    refine GG_icmp_le hk 65 (pc' := 57) dX2_resolve_54 rfl (by decide) (fun c7 => ?_) (fun c7 => ?_)
    · refine GG_aload_n hk (pc' := 66) 1 dX2_resolve_65 rfl rfl rfl ?_
      refine GG_get hk LC2 2 (v := .int (M6 31 2)) (pc' := 69) tw_174 rfl rfl (by decide) rfl dX2_resolve_66 rfl ?_
      refine GG_iload_n hk (pc' := 70) 0 dX2_resolve_69 rfl rfl rfl ?_
      refine GG_iand hk (pc' := 71) dX2_resolve_70 rfl ?_
      refine GG_if_eq hk 81 (pc' := 74) dX2_resolve_71 rfl (by decide) (fun c8 => ?_) (fun c8 => ?_)
      · refine GG_aload_n hk (pc' := 82) 1 dX2_resolve_81 rfl rfl rfl ?_
        refine GG_iload_n hk (pc' := 83) 2 dX2_resolve_82 rfl rfl rfl ?_
        refine GG_aload_n hk (pc' := 84) 1 dX2_resolve_83 rfl rfl rfl ?_
        refine GG_get hk LC2 5 (v := .ref (kh k + 33)) (pc' := 87) tw_177 rfl rfl (by decide) rfl dX2_resolve_84 rfl ?_
        refine GG_iload_n hk (pc' := 88) 3 dX2_resolve_87 rfl rfl rfl ?_
        refine GG_aald hk (pc' := 89) rfl rfl (b := 34) rfl okO_33 dX2_resolve_88 rfl (fun o9 h_o9 e_o9 => ?_)
        refine GG_callVv hk (st := []) (pc' := 92) mf_X2_gatherOffers mv_X2_gatherOffers LC2 rfl (c_X2_gatherOffers _ _ _ M6 l1 o9 h_o9) (by omega) tw_579 rfl rfl rfl (Nat.le_of_ble_eq_true rfl) dX2_resolve_89 rfl (fun z10 e_z10 => ?_)
        refine GG_aload_n hk (pc' := 93) 1 dX2_resolve_92 rfl rfl rfl ?_
        refine GG_get hk LC2 5 (v := .ref (kh k + 33)) (pc' := 96) tw_177 rfl rfl (by decide) rfl dX2_resolve_93 rfl ?_
        refine GG_iload_n hk (pc' := 97) 3 dX2_resolve_96 rfl rfl rfl ?_
        refine GG_aald hk (pc' := 98) rfl rfl (b := 34) rfl okO_33 dX2_resolve_97 rfl (fun o11 h_o11 e_o11 => ?_)
        refine GG_get hk LC1 8 (v := .int (z10 o11 8)) (pc' := 101) tw_131 rfl (kdO h_o11) (by decide) rfl dX2_resolve_98 rfl ?_
        refine GG_if_ne hk 111 (pc' := 104) dX2_resolve_101 rfl (by decide) (fun c12 => ?_) (fun c12 => ?_)
        · refine GG_aload_n hk (pc' := 112) 1 dX2_resolve_111 rfl rfl rfl ?_
          refine GG_dup hk (pc' := 113) dX2_resolve_112 rfl rfl ?_
          refine GG_get hk LC2 2 (v := .int (z10 31 2)) (pc' := 116) tw_174 rfl rfl (by decide) rfl dX2_resolve_113 rfl ?_
          refine GG_iload_n hk (pc' := 117) 0 dX2_resolve_116 rfl rfl rfl ?_
          refine GG_ior hk (pc' := 118) dX2_resolve_117 rfl ?_
          refine GG_put hk LC2 2 (pc' := 121) tw_174 rfl rfl (by decide) rfl rfl (Nat.le_of_ble_eq_true rfl) (pv_2_2 _ _ _ _) dX2_resolve_118 rfl (fun M13 e_M13 => ?_)
          refine GG_aload_n hk (pc' := 122) 1 dX2_resolve_121 rfl rfl rfl ?_
          refine GG_iload_n hk (pc' := 123) 2 dX2_resolve_122 rfl rfl rfl ?_
          refine GG_iload_n hk (pc' := 124) 3 dX2_resolve_123 rfl rfl rfl ?_
          refine GG_callVi hk (st := []) (pc' := 127) mf_X2_merge mv_X2_merge LC2 rfl (c_X2_merge _ _ _ rs hr hb hrs M13 l1 l2 ) (by omega) tw_593 rfl rfl rfl (Nat.le_of_ble_eq_true rfl) dX2_resolve_124 rfl (fun z14 e_z14 => ?_)
          refine GG_istore hk (pc' := 129) [(4, .int z14.1), (3, .int (1 <<< (l1 &&& 31))), (0, .ref (kh k + 31)), (1, .int l1), (2, .int l2)] dX2_resolve_127 rfl (by decide) rfl ?_
          refine GG_aload_n hk (pc' := 130) 2 dX2_resolve_129 rfl rfl rfl ?_
          refine GG_dup hk (pc' := 131) dX2_resolve_130 rfl rfl ?_
          refine GG_get hk LC2 2 (v := .int (z14.2 31 2)) (pc' := 134) tw_174 rfl rfl (by decide) rfl dX2_resolve_131 rfl ?_
          refine GG_iload_n hk (pc' := 135) 1 dX2_resolve_134 rfl rfl rfl ?_
          refine GG_iconst hk (pc' := 136) (-1) dX2_resolve_135 rfl rfl ?_
          refine GG_ixor hk (pc' := 137) dX2_resolve_136 rfl ?_
          refine GG_iand hk (pc' := 138) dX2_resolve_137 rfl ?_
          refine GG_put hk LC2 2 (pc' := 141) tw_174 rfl rfl (by decide) rfl rfl (Nat.le_of_ble_eq_true rfl) (pv_2_2 _ _ _ _) dX2_resolve_138 rfl (fun M15 e_M15 => ?_)
          refine GG_iload hk (pc' := 143) 0 dX2_resolve_141 rfl rfl ?_
          exact GG_zret hk hq dX2_resolve_143
        · refine GG_aload_n hk (pc' := 105) 1 dX2_resolve_104 rfl rfl rfl ?_
          refine GG_iconst hk (pc' := 106) 1 dX2_resolve_105 rfl rfl ?_
          refine GG_iload_n hk (pc' := 107) 3 dX2_resolve_106 rfl rfl rfl ?_
          refine GG_callVi hk (st := []) (pc' := 110) mf_X2_fail mv_X2_fail LC2 rfl (c_X2_fail _ _ _ z10 1 l2 ) (by omega) tw_575 rfl rfl rfl (Nat.le_of_ble_eq_true rfl) dX2_resolve_107 rfl (fun z16 e_z16 => ?_)
          exact GG_zret hk hq dX2_resolve_110
      · refine GG_aload_n hk (pc' := 75) 1 dX2_resolve_74 rfl rfl rfl ?_
        refine GG_iconst hk (pc' := 76) 2 dX2_resolve_75 rfl rfl ?_
        refine GG_iload_n hk (pc' := 77) 3 dX2_resolve_76 rfl rfl rfl ?_
        refine GG_callVi hk (st := []) (pc' := 80) mf_X2_fail mv_X2_fail LC2 rfl (c_X2_fail _ _ _ M6 2 l2 ) (by omega) tw_575 rfl rfl rfl (Nat.le_of_ble_eq_true rfl) dX2_resolve_77 rfl (fun z17 e_z17 => ?_)
        exact GG_zret hk hq dX2_resolve_80
    · refine GG_aload_n hk (pc' := 58) 1 dX2_resolve_57 rfl rfl rfl ?_
      refine GG_bipush hk (pc' := 60) 6 dX2_resolve_58 rfl rfl ?_
      refine GG_iload_n hk (pc' := 61) 3 dX2_resolve_60 rfl rfl rfl ?_
      refine GG_callVi hk (st := []) (pc' := 64) mf_X2_fail mv_X2_fail LC2 rfl (c_X2_fail _ _ _ M6 6 l2 ) (by omega) tw_575 rfl rfl rfl (Nat.le_of_ble_eq_true rfl) dX2_resolve_61 rfl (fun z18 e_z18 => ?_)
      exact GG_zret hk hq dX2_resolve_64
  · refine GG_iconst hk (pc' := 7) 0 dX2_resolve_6 rfl rfl ?_
    exact GG_zret hk hq dX2_resolve_7
theorem hx_X2_resolve {k : KT} {n : Nat} (hk : CX k cX2_resolve RX2 5 (some .boolean) (10 * (n + 1) + 10)) : CX k cX2_resolve RX2 5 (some .boolean) (10 * n + 10 + 10) := by
  have e : 10 * (n + 1) + 10 = 10 * n + 10 + 10 := by omega
  rw [e] at hk
  exact hk
theorem c_X2_resolve (l : Launch) (C : DD) (a : Nat) : ∀ (n : Nat) (M : Mem) (l1 : Int32) (l2 : Int32), CI l C (a) yX2_resolve cX2_resolve 5 .boolean (10 * n + 10) [.ref (a + 31), .int l1, .int l2] M (f_X2_resolve n M l1 l2) := by
  intro n
  induction n with
  | zero => intro M l1 l2 q e; exact absurd e (fun e => nomatch e)
  | succ n ih =>
    intro M l1 l2
    refine CI_of RX2 (by decide +kernel) rfl (Nat.le_of_ble_eq_true rfl) (fun k q hk hq e1 e2 e3 => ?_)
    subst e1; subst e2; subst e3
    exact m_X2_resolve (f_X2_resolve n) (10 * n + 10) (by omega) ih (hx_X2_resolve hk) hq M l1 l2

/-! SettingsInLayers$Resolver.ask(LSettingsInLayers$Scene;I)LSettingsInLayers$Outcome; -/
noncomputable def f_X2_ask (M : Mem) (l1 : Nat) (l2 : Int32) : Option Mem :=
    Option.bind (wrf M 31 0 (Int32.ofNat l1)) fun M1 =>
    Option.bind (wrf M1 31 1 0) fun M2 =>
    Option.bind (wrf M2 31 2 0) fun M3 =>
    Option.bind (wrf M3 31 3 0) fun M4 =>
    Option.bind (f_X2_resolve 12 M4 l2 0) fun z5 =>
    Option.bind (rdO 9 34 0) fun o6 =>
    Option.bind (wrf z5.2 o6 13 ((z5.2 31 3) &&& ((1 <<< (l2 &&& 31)) ^^^ (-1)))) fun M7 =>
    Option.bind (rdO 9 34 0) fun o8 =>
    some M7
set_option maxRecDepth 20000 in
theorem m_X2_ask {k : KT} {q : Mem} (hk : CX k cX2_ask RX2 3 (some (.object RX1)) 131) (hq : RR k q) (M : Mem) (l1 : Nat) (l2 : Int32) (h_l1 : okS l1) : GG k q (wM k M) 0 [(0, .ref (kh k + 31)), (1, .ref (kh k + l1)), (2, .int l2)] [] (f_X2_ask M l1 l2) := by
  unfold f_X2_ask
  refine GG_aload_n hk (pc' := 1) 0 dX2_ask_0 rfl rfl rfl ?_
  refine GG_aload_n hk (pc' := 2) 1 dX2_ask_1 rfl rfl rfl ?_
  refine GG_putscene hk (pc' := 5) h_l1 tw_172 dX2_ask_2 rfl (fun M1 e_M1 => ?_)
  refine GG_aload_n hk (pc' := 6) 0 dX2_ask_5 rfl rfl rfl ?_
  refine GG_iconst hk (pc' := 7) 0 dX2_ask_6 rfl rfl ?_
  refine GG_put hk LC2 1 (pc' := 10) tw_173 rfl rfl (by decide) rfl rfl (Nat.le_of_ble_eq_true rfl) (pv_2_1 _ _ _ _) dX2_ask_7 rfl (fun M2 e_M2 => ?_)
  refine GG_aload_n hk (pc' := 11) 0 dX2_ask_10 rfl rfl rfl ?_
  refine GG_iconst hk (pc' := 12) 0 dX2_ask_11 rfl rfl ?_
  refine GG_put hk LC2 2 (pc' := 15) tw_174 rfl rfl (by decide) rfl rfl (Nat.le_of_ble_eq_true rfl) (pv_2_2 _ _ _ _) dX2_ask_12 rfl (fun M3 e_M3 => ?_)
  refine GG_aload_n hk (pc' := 16) 0 dX2_ask_15 rfl rfl rfl ?_
  refine GG_iconst hk (pc' := 17) 0 dX2_ask_16 rfl rfl ?_
  refine GG_put hk LC2 3 (pc' := 20) tw_175 rfl rfl (by decide) rfl rfl (Nat.le_of_ble_eq_true rfl) (pv_2_3 _ _ _ _) dX2_ask_17 rfl (fun M4 e_M4 => ?_)
  refine GG_aload_n hk (pc' := 21) 0 dX2_ask_20 rfl rfl rfl ?_
  refine GG_iload_n hk (pc' := 22) 2 dX2_ask_21 rfl rfl rfl ?_
  refine GG_iconst hk (pc' := 23) 0 dX2_ask_22 rfl rfl ?_
  refine GG_callVi hk (st := []) (pc' := 26) mf_X2_resolve mv_X2_resolve LC2 rfl (c_X2_resolve _ _ _ 12 M4 l2 0) (by omega) tw_567 rfl rfl rfl (Nat.le_of_ble_eq_true rfl) dX2_ask_23 rfl (fun z5 e_z5 => ?_)
  refine GG_pop hk (pc' := 27) dX2_ask_26 rfl rfl ?_
  refine GG_aload_n hk (pc' := 28) 0 dX2_ask_27 rfl rfl rfl ?_
  refine GG_get hk LC2 5 (v := .ref (kh k + 33)) (pc' := 31) tw_177 rfl rfl (by decide) rfl dX2_ask_28 rfl ?_
  refine GG_iconst hk (pc' := 32) 0 dX2_ask_31 rfl rfl ?_
  refine GG_aald hk (pc' := 33) rfl rfl (b := 34) rfl okO_33 dX2_ask_32 rfl (fun o6 h_o6 e_o6 => ?_)
  refine GG_aload_n hk (pc' := 34) 0 dX2_ask_33 rfl rfl rfl ?_
  refine GG_get hk LC2 3 (v := .int (z5.2 31 3)) (pc' := 37) tw_175 rfl rfl (by decide) rfl dX2_ask_34 rfl ?_
  refine GG_iconst hk (pc' := 38) 1 dX2_ask_37 rfl rfl ?_
  refine GG_iload_n hk (pc' := 39) 2 dX2_ask_38 rfl rfl rfl ?_
  refine GG_ishl hk (pc' := 40) dX2_ask_39 rfl ?_
  refine GG_iconst hk (pc' := 41) (-1) dX2_ask_40 rfl rfl ?_
  refine GG_ixor hk (pc' := 42) dX2_ask_41 rfl ?_
  refine GG_iand hk (pc' := 43) dX2_ask_42 rfl ?_
  refine GG_put hk LC1 13 (pc' := 46) tw_141 rfl (kdO h_o6) (by decide) rfl rfl (Nat.le_of_ble_eq_true rfl) (pv_1_13 _ _ _ _) dX2_ask_43 rfl (fun M7 e_M7 => ?_)
  refine GG_aload_n hk (pc' := 47) 0 dX2_ask_46 rfl rfl rfl ?_
  refine GG_get hk LC2 5 (v := .ref (kh k + 33)) (pc' := 50) tw_177 rfl rfl (by decide) rfl dX2_ask_47 rfl ?_
  refine GG_iconst hk (pc' := 51) 0 dX2_ask_50 rfl rfl ?_
  refine GG_aald hk (pc' := 52) rfl rfl (b := 34) rfl okO_33 dX2_ask_51 rfl (fun o8 h_o8 e_o8 => ?_)
  cases e_o8
  exact GG_aret hk hq dX2_ask_52
theorem c_X2_ask (l : Launch) (C : DD) (a : Nat) (M : Mem) (l1 : Nat) (l2 : Int32) (h_l1 : okS l1) : CR l C (a) yX2_ask cX2_ask 3 (.object RX1) 131 [.ref (a + 31), .ref (a + l1), .int l2] M (f_X2_ask M l1 l2) := by
  refine CR_of RX2 (by decide +kernel) rfl (Nat.le_of_ble_eq_true rfl) (fun k q hk hq e1 e2 e3 => ?_)
  subst e1; subst e2; subst e3
  exact m_X2_ask hk hq M l1 l2 h_l1

/-! SettingsInLayers$Outcome.isInCycle(I)Z -/
noncomputable def f_X1_isInCycle (M : Mem) (o : Nat) (l1 : Int32) : Option (Int32 × Mem) :=
    if ¬ (M o 0) = 2 then
      bret 0 M
    else
      if ((M o 5) - 1) < 0 then
        bret 0 M
      else
        Option.bind (rd 9 (M (o + 4)) ((M o 5) - 1)) fun v3 =>
        if ¬ v3 = 2 then
          bret 0 M
        else
          Option.bind (rd 9 (M (o + 5)) ((M o 5) - 1)) fun v5 =>
          if ¬ v5 = l1 then
            bret 0 M
          else
            bret 1 M
set_option maxRecDepth 20000 in
theorem m_X1_isInCycle {k : KT} {q : Int32 × Mem} (hk : CX k cX1_isInCycle RX1 3 (some .boolean) 1) (hq : RI k q) (M : Mem) (o : Nat) (l1 : Int32) (h_o : okO o) : GG k q (wM k M) 0 [(0, .ref (kh k + o)), (1, .int l1)] [] (f_X1_isInCycle M o l1) := by
  unfold f_X1_isInCycle
  refine GG_aload_n hk (pc' := 1) 0 dX1_isInCycle_0 rfl rfl rfl ?_
  refine GG_get hk LC1 5 (v := .int (M o 5)) (pc' := 4) tw_121 rfl (kdO h_o) (by decide) rfl dX1_isInCycle_1 rfl ?_
  refine GG_iconst hk (pc' := 5) 1 dX1_isInCycle_4 rfl rfl ?_
  refine GG_isub hk (pc' := 6) dX1_isInCycle_5 rfl ?_
  refine GG_istore_n hk (pc' := 7) [(2, .int ((M o 5) - 1)), (0, .ref (kh k + o)), (1, .int l1)] dX1_isInCycle_6 rfl rfl (by decide) rfl ?_
  refine GG_aload_n hk (pc' := 8) 1 dX1_isInCycle_7 rfl rfl rfl ?_
  refine GG_get hk LC1 0 (v := .int (M o 0)) (pc' := 11) tw_107 rfl (kdO h_o) (by decide) rfl dX1_isInCycle_8 rfl ?_
  refine GG_iconst hk (pc' := 12) 2 dX1_isInCycle_11 rfl rfl ?_
  refine GG_icmp_ne hk 43 (pc' := 15) dX1_isInCycle_12 rfl (by decide) (fun c1 => ?_) (fun c1 => ?_)
  · refine GG_iconst hk (pc' := 44) 0 dX1_isInCycle_43 rfl rfl ?_
    exact GG_zret hk hq dX1_isInCycle_44
  · refine GG_iload_n hk (pc' := 16) 0 dX1_isInCycle_15 rfl rfl rfl ?_
    refine GG_if_lt hk 43 (pc' := 19) dX1_isInCycle_16 rfl (by decide) (fun c2 => ?_) (fun c2 => ?_)
    · refine GG_iconst hk (pc' := 44) 0 dX1_isInCycle_43 rfl rfl ?_
      exact GG_zret hk hq dX1_isInCycle_44
    · refine GG_aload_n hk (pc' := 20) 1 dX1_isInCycle_19 rfl rfl rfl ?_
      refine GG_get hk LC1 6 (v := .ref (kh k + (o + 4))) (pc' := 23) tw_124 rfl (kdO h_o) (by decide) rfl dX1_isInCycle_20 rfl ?_
      refine GG_iload_n hk (pc' := 24) 0 dX1_isInCycle_23 rfl rfl rfl ?_
      refine GG_iald hk (pc' := 25) (kdOa h_o 3 (by decide)) (lnOa h_o 3 (by decide) rfl) dX1_isInCycle_24 rfl (fun v3 e_v3 => ?_)
      refine GG_iconst hk (pc' := 26) 2 dX1_isInCycle_25 rfl rfl ?_
      refine GG_icmp_ne hk 43 (pc' := 29) dX1_isInCycle_26 rfl (by decide) (fun c4 => ?_) (fun c4 => ?_)
      · refine GG_iconst hk (pc' := 44) 0 dX1_isInCycle_43 rfl rfl ?_
        exact GG_zret hk hq dX1_isInCycle_44
      · refine GG_aload_n hk (pc' := 30) 1 dX1_isInCycle_29 rfl rfl rfl ?_
        refine GG_get hk LC1 7 (v := .ref (kh k + (o + 5))) (pc' := 33) tw_127 rfl (kdO h_o) (by decide) rfl dX1_isInCycle_30 rfl ?_
        refine GG_iload_n hk (pc' := 34) 0 dX1_isInCycle_33 rfl rfl rfl ?_
        refine GG_iald hk (pc' := 35) (kdOa h_o 4 (by decide)) (lnOa h_o 4 (by decide) rfl) dX1_isInCycle_34 rfl (fun v5 e_v5 => ?_)
        refine GG_iload_n hk (pc' := 36) 2 dX1_isInCycle_35 rfl rfl rfl ?_
        refine GG_icmp_ne hk 43 (pc' := 39) dX1_isInCycle_36 rfl (by decide) (fun c6 => ?_) (fun c6 => ?_)
        · refine GG_iconst hk (pc' := 44) 0 dX1_isInCycle_43 rfl rfl ?_
          exact GG_zret hk hq dX1_isInCycle_44
        · refine GG_iconst hk (pc' := 40) 1 dX1_isInCycle_39 rfl rfl ?_
          refine GG_goto hk 44 dX1_isInCycle_40 (by decide) ?_
          exact GG_zret hk hq dX1_isInCycle_44
theorem c_X1_isInCycle (l : Launch) (C : DD) (a : Nat) (M : Mem) (o : Nat) (l1 : Int32) (h_o : okO o) : CI l C (a) yX1_isInCycle cX1_isInCycle 3 .boolean 1 [.ref (a + o), .int l1] M (f_X1_isInCycle M o l1) := by
  refine CI_of RX1 (by decide +kernel) rfl (Nat.le_of_ble_eq_true rfl) (fun k q hk hq e1 e2 e3 => ?_)
  subst e1; subst e2; subst e3
  exact m_X1_isInCycle hk hq M o l1 h_o

/-! SettingsInLayers$Outcome.keep(LSettingsInLayers$Outcome;)V -/
noncomputable def f_X1_keep (M : Mem) (o : Nat) (l1 : Nat) : Option Mem :=
    Option.bind (wrf M o 0 (M l1 0)) fun M1 =>
    Option.bind (wrf M1 o 1 (M1 l1 1)) fun M2 =>
    Option.bind (wrf M2 o 5 (M2 l1 5)) fun M3 =>
    Option.bind (acp 10 10 M3 (l1 + 1) 0 (o + 1) 0 10) fun M4 =>
    Option.bind (acp 10 10 M4 (l1 + 2) 0 (o + 2) 0 10) fun M5 =>
    Option.bind (acp 9 9 M5 (l1 + 4) 0 (o + 4) 0 9) fun M6 =>
    some M6
set_option maxRecDepth 20000 in
theorem m_X1_keep {k : KT} {q : Mem} (hk : CX k cX1_keep RX1 2 none 1) (hq : RV k q) (M : Mem) (o : Nat) (l1 : Nat) (h_o : okO o) (h_l1 : okO l1) : GG k q (wM k M) 0 [(0, .ref (kh k + o)), (1, .ref (kh k + l1))] [] (f_X1_keep M o l1) := by
  unfold f_X1_keep
  refine GG_aload_n hk (pc' := 1) 0 dX1_keep_0 rfl rfl rfl ?_
  refine GG_aload_n hk (pc' := 2) 1 dX1_keep_1 rfl rfl rfl ?_
  refine GG_get hk LC1 0 (v := .int (M l1 0)) (pc' := 5) tw_107 rfl (kdO h_l1) (by decide) rfl dX1_keep_2 rfl ?_
  refine GG_put hk LC1 0 (pc' := 8) tw_107 rfl (kdO h_o) (by decide) rfl rfl (Nat.le_of_ble_eq_true rfl) (pv_1_0 _ _ _ _) dX1_keep_5 rfl (fun M1 e_M1 => ?_)
  refine GG_aload_n hk (pc' := 9) 0 dX1_keep_8 rfl rfl rfl ?_
  refine GG_aload_n hk (pc' := 10) 1 dX1_keep_9 rfl rfl rfl ?_
  refine GG_get hk LC1 1 (v := .int (M1 l1 1)) (pc' := 13) tw_110 rfl (kdO h_l1) (by decide) rfl dX1_keep_10 rfl ?_
  refine GG_put hk LC1 1 (pc' := 16) tw_110 rfl (kdO h_o) (by decide) rfl rfl (Nat.le_of_ble_eq_true rfl) (pv_1_1 _ _ _ _) dX1_keep_13 rfl (fun M2 e_M2 => ?_)
  refine GG_aload_n hk (pc' := 17) 0 dX1_keep_16 rfl rfl rfl ?_
  refine GG_aload_n hk (pc' := 18) 1 dX1_keep_17 rfl rfl rfl ?_
  refine GG_get hk LC1 5 (v := .int (M2 l1 5)) (pc' := 21) tw_121 rfl (kdO h_l1) (by decide) rfl dX1_keep_18 rfl ?_
  refine GG_put hk LC1 5 (pc' := 24) tw_121 rfl (kdO h_o) (by decide) rfl rfl (Nat.le_of_ble_eq_true rfl) (pv_1_5 _ _ _ _) dX1_keep_21 rfl (fun M3 e_M3 => ?_)
  refine GG_aload_n hk (pc' := 25) 1 dX1_keep_24 rfl rfl rfl ?_
  refine GG_get hk LC1 2 (v := .ref (kh k + (l1 + 1))) (pc' := 28) tw_113 rfl (kdO h_l1) (by decide) rfl dX1_keep_25 rfl ?_
  refine GG_iconst hk (pc' := 29) 0 dX1_keep_28 rfl rfl ?_
  refine GG_aload_n hk (pc' := 30) 0 dX1_keep_29 rfl rfl rfl ?_
  refine GG_get hk LC1 2 (v := .ref (kh k + (o + 1))) (pc' := 33) tw_113 rfl (kdO h_o) (by decide) rfl dX1_keep_30 rfl ?_
  refine GG_iconst hk (pc' := 34) 0 dX1_keep_33 rfl rfl ?_
  refine GG_bipush hk (pc' := 36) 10 dX1_keep_34 rfl rfl ?_
  refine GG_copy hk (st := []) (pc' := 39) tw_635 tw_430 tw_429 tw_10 (kdOa h_l1 0 (by decide)) (lnOa h_l1 0 (by decide) rfl) (kdOa h_o 0 (by decide)) (lnOa h_o 0 (by decide) rfl) (by omega) (Nat.le_of_ble_eq_true rfl) dX1_keep_36 rfl (fun M4 e_M4 => ?_)
  refine GG_aload_n hk (pc' := 40) 1 dX1_keep_39 rfl rfl rfl ?_
  refine GG_get hk LC1 3 (v := .ref (kh k + (l1 + 2))) (pc' := 43) tw_116 rfl (kdO h_l1) (by decide) rfl dX1_keep_40 rfl ?_
  refine GG_iconst hk (pc' := 44) 0 dX1_keep_43 rfl rfl ?_
  refine GG_aload_n hk (pc' := 45) 0 dX1_keep_44 rfl rfl rfl ?_
  refine GG_get hk LC1 3 (v := .ref (kh k + (o + 2))) (pc' := 48) tw_116 rfl (kdO h_o) (by decide) rfl dX1_keep_45 rfl ?_
  refine GG_iconst hk (pc' := 49) 0 dX1_keep_48 rfl rfl ?_
  refine GG_bipush hk (pc' := 51) 10 dX1_keep_49 rfl rfl ?_
  refine GG_copy hk (st := []) (pc' := 54) tw_635 tw_430 tw_429 tw_10 (kdOa h_l1 1 (by decide)) (lnOa h_l1 1 (by decide) rfl) (kdOa h_o 1 (by decide)) (lnOa h_o 1 (by decide) rfl) (by omega) (Nat.le_of_ble_eq_true rfl) dX1_keep_51 rfl (fun M5 e_M5 => ?_)
  refine GG_aload_n hk (pc' := 55) 1 dX1_keep_54 rfl rfl rfl ?_
  refine GG_get hk LC1 6 (v := .ref (kh k + (l1 + 4))) (pc' := 58) tw_124 rfl (kdO h_l1) (by decide) rfl dX1_keep_55 rfl ?_
  refine GG_iconst hk (pc' := 59) 0 dX1_keep_58 rfl rfl ?_
  refine GG_aload_n hk (pc' := 60) 0 dX1_keep_59 rfl rfl rfl ?_
  refine GG_get hk LC1 6 (v := .ref (kh k + (o + 4))) (pc' := 63) tw_124 rfl (kdO h_o) (by decide) rfl dX1_keep_60 rfl ?_
  refine GG_iconst hk (pc' := 64) 0 dX1_keep_63 rfl rfl ?_
  refine GG_bipush hk (pc' := 66) 9 dX1_keep_64 rfl rfl ?_
  refine GG_copy hk (st := []) (pc' := 69) tw_635 tw_430 tw_429 tw_10 (kdOa h_l1 3 (by decide)) (lnOa h_l1 3 (by decide) rfl) (kdOa h_o 3 (by decide)) (lnOa h_o 3 (by decide) rfl) (by omega) (Nat.le_of_ble_eq_true rfl) dX1_keep_66 rfl (fun M6 e_M6 => ?_)
  exact GG_vret hk hq dX1_keep_69
theorem c_X1_keep (l : Launch) (C : DD) (a : Nat) (M : Mem) (o : Nat) (l1 : Nat) (h_o : okO o) (h_l1 : okO l1) : CV l C (a) yX1_keep cX1_keep 2 1 [.ref (a + o), .ref (a + l1)] M (f_X1_keep M o l1) := by
  refine CV_of RX1 (by decide +kernel) rfl (Nat.le_of_ble_eq_true rfl) (fun k q hk hq e1 e2 e3 => ?_)
  subst e1; subst e2; subst e3
  exact m_X1_keep hk hq M o l1 h_o h_l1

/-! SettingsInLayers$Outcome.isAlike([I[II)Z -/
noncomputable def f_X1_isAlike_2  : Nat → Mem → Nat → Nat → Int32 → Int32 → Option (Int32 × Mem)
  | 0, _, _, _, _, _ => none
  | n + 1, M, l0, l1, l2, l3 =>
    if l2 ≤ l3 then
      bret 1 M
    else
      Option.bind (rd (ln l0) (M l0) l3) fun v2 =>
      Option.bind (rd (ln l1) (M l1) l3) fun v3 =>
      if v2 = v3 then
        f_X1_isAlike_2  n M l0 l1 l2 (l3 + 1)
      else
        bret 0 M
set_option maxRecDepth 20000 in
theorem m_X1_isAlike_2 {k : KT} {q : Int32 × Mem} (hk : CX k cX1_isAlike RX1 4 (some .boolean) 1) (hq : RI k q) : ∀ (n : Nat) (M : Mem) (l0 : Nat) (l1 : Nat) (l2 : Int32) (l3 : Int32) (h_l0 : kd l0 = 11) (h_l1 : kd l1 = 11), GG k q (wM k M) 2 [(0, .ref (kh k + l0)), (1, .ref (kh k + l1)), (2, .int l2), (3, .int l3)] [] (f_X1_isAlike_2  n M l0 l1 l2 l3) := by
  intro n
  induction n with
  | zero => intros; exact GG_none
  | succ n ih =>
    intro M l0 l1 l2 l3 h_l0 h_l1
    rw [f_X1_isAlike_2]
    refine GG_iload_n hk (pc' := 3) 3 dX1_isAlike_2 rfl rfl rfl ?_
    refine GG_iload_n hk (pc' := 4) 2 dX1_isAlike_3 rfl rfl rfl ?_
    refine GG_icmp_ge hk 24 (pc' := 7) dX1_isAlike_4 rfl (by decide) (fun c1 => ?_) (fun c1 => ?_)
    · refine GG_iconst hk (pc' := 25) 1 dX1_isAlike_24 rfl rfl ?_
      exact GG_zret hk hq dX1_isAlike_25
    · refine GG_aload_n hk (pc' := 8) 0 dX1_isAlike_7 rfl rfl rfl ?_
      refine GG_iload_n hk (pc' := 9) 3 dX1_isAlike_8 rfl rfl rfl ?_
      refine GG_iald hk (pc' := 10) h_l0 rfl dX1_isAlike_9 rfl (fun v2 e_v2 => ?_)
      refine GG_aload_n hk (pc' := 11) 1 dX1_isAlike_10 rfl rfl rfl ?_
      refine GG_iload_n hk (pc' := 12) 3 dX1_isAlike_11 rfl rfl rfl ?_
      refine GG_iald hk (pc' := 13) h_l1 rfl dX1_isAlike_12 rfl (fun v3 e_v3 => ?_)
      refine GG_icmp_eq hk 18 (pc' := 16) dX1_isAlike_13 rfl (by decide) (fun c4 => ?_) (fun c4 => ?_)
      · refine GG_iinc hk (pc' := 21) 3 (l3 + 1) [(3, .int (l3 + 1)), (0, .ref (kh k + l0)), (1, .ref (kh k + l1)), (2, .int l2)] dX1_isAlike_18 rfl rfl rfl (by decide) rfl ?_
        refine GG_goto hk 2 dX1_isAlike_21 (by decide) ?_
        refine GG_sub (L' := [(0, .ref (kh k + l0)), (1, .ref (kh k + l1)), (2, .int l2), (3, .int (l3 + 1))]) [1, 2, 3, 0] rfl ?_
        exact ih M l0 l1 l2 (l3 + 1) h_l0 h_l1
      · refine GG_iconst hk (pc' := 17) 0 dX1_isAlike_16 rfl rfl ?_
        exact GG_zret hk hq dX1_isAlike_17
noncomputable def f_X1_isAlike (M : Mem) (l0 : Nat) (l1 : Nat) (l2 : Int32) : Option (Int32 × Mem) :=
    f_X1_isAlike_2  1000 M l0 l1 l2 0
set_option maxRecDepth 20000 in
theorem m_X1_isAlike {k : KT} {q : Int32 × Mem} (hk : CX k cX1_isAlike RX1 4 (some .boolean) 1) (hq : RI k q) (M : Mem) (l0 : Nat) (l1 : Nat) (l2 : Int32) (h_l0 : kd l0 = 11) (h_l1 : kd l1 = 11) : GG k q (wM k M) 0 [(0, .ref (kh k + l0)), (1, .ref (kh k + l1)), (2, .int l2)] [] (f_X1_isAlike M l0 l1 l2) := by
  unfold f_X1_isAlike
  refine GG_iconst hk (pc' := 1) 0 dX1_isAlike_0 rfl rfl ?_
  refine GG_istore_n hk (pc' := 2) [(3, .int 0), (0, .ref (kh k + l0)), (1, .ref (kh k + l1)), (2, .int l2)] dX1_isAlike_1 rfl rfl (by decide) rfl ?_
  refine GG_sub (L' := [(0, .ref (kh k + l0)), (1, .ref (kh k + l1)), (2, .int l2), (3, .int 0)]) [1, 2, 3, 0] rfl ?_
  exact m_X1_isAlike_2 hk hq  1000 M l0 l1 l2 0 h_l0 h_l1
theorem c_X1_isAlike (l : Launch) (C : DD) (a : Nat) (M : Mem) (l0 : Nat) (l1 : Nat) (l2 : Int32) (h_l0 : kd l0 = 11) (h_l1 : kd l1 = 11) : CI l C (a) yX1_isAlike cX1_isAlike 4 .boolean 1 [.ref (a + l0), .ref (a + l1), .int l2] M (f_X1_isAlike M l0 l1 l2) := by
  refine CI_of RX1 (by decide +kernel) rfl (Nat.le_of_ble_eq_true rfl) (fun k q hk hq e1 e2 e3 => ?_)
  subst e1; subst e2; subst e3
  exact m_X1_isAlike hk hq M l0 l1 l2 h_l0 h_l1

/-! SettingsInLayers$Outcome.isLike(LSettingsInLayers$Outcome;)Z -/
noncomputable def f_X1_isLike (M : Mem) (o : Nat) (l1 : Nat) : Option (Int32 × Mem) :=
    if (M o 0) = (M l1 0) then
      if (M o 0) = 0 then
        if ¬ (M o 1) = (M l1 1) then
          bret 0 M
        else
          bret 1 M
      else
        if (M o 0) = 1 then
          if ¬ (M o 1) = (M l1 1) then
            bret 0 M
          else
            Option.bind (f_X1_isAlike M (o + 1) (l1 + 1) (M o 1)) fun z6 =>
            if z6.1 = 0 then
              bret 0 z6.2
            else
              Option.bind (f_X1_isAlike z6.2 (o + 2) (l1 + 2) (z6.2 o 1)) fun z8 =>
              if z8.1 = 0 then
                bret 0 z8.2
              else
                bret 1 z8.2
        else
          if ¬ (M o 5) = (M l1 5) then
            bret 0 M
          else
            Option.bind (f_X1_isAlike M (o + 4) (l1 + 4) (M o 5)) fun z11 =>
            if z11.1 = 0 then
              bret 0 z11.2
            else
              bret 1 z11.2
    else
      bret 0 M
set_option maxRecDepth 20000 in
theorem m_X1_isLike {k : KT} {q : Int32 × Mem} (hk : CX k cX1_isLike RX1 2 (some .boolean) 2) (hq : RI k q) (M : Mem) (o : Nat) (l1 : Nat) (h_o : okO o) (h_l1 : okO l1) : GG k q (wM k M) 0 [(0, .ref (kh k + o)), (1, .ref (kh k + l1))] [] (f_X1_isLike M o l1) := by
  unfold f_X1_isLike
  refine GG_aload_n hk (pc' := 1) 0 dX1_isLike_0 rfl rfl rfl ?_
  refine GG_get hk LC1 0 (v := .int (M o 0)) (pc' := 4) tw_107 rfl (kdO h_o) (by decide) rfl dX1_isLike_1 rfl ?_
  refine GG_aload_n hk (pc' := 5) 1 dX1_isLike_4 rfl rfl rfl ?_
  refine GG_get hk LC1 0 (v := .int (M l1 0)) (pc' := 8) tw_107 rfl (kdO h_l1) (by decide) rfl dX1_isLike_5 rfl ?_
  refine GG_icmp_eq hk 13 (pc' := 11) dX1_isLike_8 rfl (by decide) (fun c1 => ?_) (fun c1 => ?_)
  · refine GG_aload_n hk (pc' := 14) 0 dX1_isLike_13 rfl rfl rfl ?_
    refine GG_get hk LC1 0 (v := .int (M o 0)) (pc' := 17) tw_107 rfl (kdO h_o) (by decide) rfl dX1_isLike_14 rfl ?_
    refine GG_if (fun c2 => ?_) (fun c2 => ?_)
    · refine GG_look hk 44 dX1_isLike_17 (by decide) (off := 27) (by rw [c2]; rfl) (by decide) ?_
      refine GG_aload_n hk (pc' := 45) 0 dX1_isLike_44 rfl rfl rfl ?_
      refine GG_get hk LC1 1 (v := .int (M o 1)) (pc' := 48) tw_110 rfl (kdO h_o) (by decide) rfl dX1_isLike_45 rfl ?_
      refine GG_aload_n hk (pc' := 49) 1 dX1_isLike_48 rfl rfl rfl ?_
      refine GG_get hk LC1 1 (v := .int (M l1 1)) (pc' := 52) tw_110 rfl (kdO h_l1) (by decide) rfl dX1_isLike_49 rfl ?_
      refine GG_icmp_ne hk 59 (pc' := 55) dX1_isLike_52 rfl (by decide) (fun c3 => ?_) (fun c3 => ?_)
      · refine GG_iconst hk (pc' := 60) 0 dX1_isLike_59 rfl rfl ?_
        exact GG_zret hk hq dX1_isLike_60
      · refine GG_iconst hk (pc' := 56) 1 dX1_isLike_55 rfl rfl ?_
        refine GG_goto hk 60 dX1_isLike_56 (by decide) ?_
        exact GG_zret hk hq dX1_isLike_60
    · refine GG_if (fun c4 => ?_) (fun c4 => ?_)
      · refine GG_look hk 61 dX1_isLike_17 (by decide) (off := 44) (by rw [c4]; rfl) (by decide) ?_
        refine GG_aload_n hk (pc' := 62) 0 dX1_isLike_61 rfl rfl rfl ?_
        refine GG_get hk LC1 1 (v := .int (M o 1)) (pc' := 65) tw_110 rfl (kdO h_o) (by decide) rfl dX1_isLike_62 rfl ?_
        refine GG_aload_n hk (pc' := 66) 1 dX1_isLike_65 rfl rfl rfl ?_
        refine GG_get hk LC1 1 (v := .int (M l1 1)) (pc' := 69) tw_110 rfl (kdO h_l1) (by decide) rfl dX1_isLike_66 rfl ?_
        refine GG_icmp_ne hk 112 (pc' := 72) dX1_isLike_69 rfl (by decide) (fun c5 => ?_) (fun c5 => ?_)
        · refine GG_iconst hk (pc' := 113) 0 dX1_isLike_112 rfl rfl ?_
          exact GG_zret hk hq dX1_isLike_113
        · refine GG_aload_n hk (pc' := 73) 0 dX1_isLike_72 rfl rfl rfl ?_
          refine GG_get hk LC1 2 (v := .ref (kh k + (o + 1))) (pc' := 76) tw_113 rfl (kdO h_o) (by decide) rfl dX1_isLike_73 rfl ?_
          refine GG_aload_n hk (pc' := 77) 1 dX1_isLike_76 rfl rfl rfl ?_
          refine GG_get hk LC1 2 (v := .ref (kh k + (l1 + 1))) (pc' := 80) tw_113 rfl (kdO h_l1) (by decide) rfl dX1_isLike_77 rfl ?_
          refine GG_aload_n hk (pc' := 81) 0 dX1_isLike_80 rfl rfl rfl ?_
          refine GG_get hk LC1 1 (v := .int (M o 1)) (pc' := 84) tw_110 rfl (kdO h_o) (by decide) rfl dX1_isLike_81 rfl ?_
          refine GG_callSi hk (st := []) (pc' := 87) mf_X1_isAlike tw_692 (c_X1_isAlike _ _ _ M (o + 1) (l1 + 1) (M o 1) (kdOa h_o 0 (by decide)) (kdOa h_l1 0 (by decide))) (by omega) tw_691 rfl rfl (Nat.le_of_ble_eq_true rfl) dX1_isLike_84 rfl (fun z6 e_z6 => ?_)
          refine GG_if_eq hk 112 (pc' := 90) dX1_isLike_87 rfl (by decide) (fun c7 => ?_) (fun c7 => ?_)
          · refine GG_iconst hk (pc' := 113) 0 dX1_isLike_112 rfl rfl ?_
            exact GG_zret hk hq dX1_isLike_113
          · refine GG_aload_n hk (pc' := 91) 0 dX1_isLike_90 rfl rfl rfl ?_
            refine GG_get hk LC1 3 (v := .ref (kh k + (o + 2))) (pc' := 94) tw_116 rfl (kdO h_o) (by decide) rfl dX1_isLike_91 rfl ?_
            refine GG_aload_n hk (pc' := 95) 1 dX1_isLike_94 rfl rfl rfl ?_
            refine GG_get hk LC1 3 (v := .ref (kh k + (l1 + 2))) (pc' := 98) tw_116 rfl (kdO h_l1) (by decide) rfl dX1_isLike_95 rfl ?_
            refine GG_aload_n hk (pc' := 99) 0 dX1_isLike_98 rfl rfl rfl ?_
            refine GG_get hk LC1 1 (v := .int (z6.2 o 1)) (pc' := 102) tw_110 rfl (kdO h_o) (by decide) rfl dX1_isLike_99 rfl ?_
            refine GG_callSi hk (st := []) (pc' := 105) mf_X1_isAlike tw_692 (c_X1_isAlike _ _ _ z6.2 (o + 2) (l1 + 2) (z6.2 o 1) (kdOa h_o 1 (by decide)) (kdOa h_l1 1 (by decide))) (by omega) tw_691 rfl rfl (Nat.le_of_ble_eq_true rfl) dX1_isLike_102 rfl (fun z8 e_z8 => ?_)
            refine GG_if_eq hk 112 (pc' := 108) dX1_isLike_105 rfl (by decide) (fun c9 => ?_) (fun c9 => ?_)
            · refine GG_iconst hk (pc' := 113) 0 dX1_isLike_112 rfl rfl ?_
              exact GG_zret hk hq dX1_isLike_113
            · refine GG_iconst hk (pc' := 109) 1 dX1_isLike_108 rfl rfl ?_
              refine GG_goto hk 113 dX1_isLike_109 (by decide) ?_
              exact GG_zret hk hq dX1_isLike_113
      · refine GG_look hk 114 dX1_isLike_17 (by decide) (off := 97) ((lv_osw c2 rfl).trans ((lv_osw c4 rfl).trans rfl)) (by decide) ?_
        refine GG_aload_n hk (pc' := 115) 0 dX1_isLike_114 rfl rfl rfl ?_
        refine GG_get hk LC1 5 (v := .int (M o 5)) (pc' := 118) tw_121 rfl (kdO h_o) (by decide) rfl dX1_isLike_115 rfl ?_
        refine GG_aload_n hk (pc' := 119) 1 dX1_isLike_118 rfl rfl rfl ?_
        refine GG_get hk LC1 5 (v := .int (M l1 5)) (pc' := 122) tw_121 rfl (kdO h_l1) (by decide) rfl dX1_isLike_119 rfl ?_
        refine GG_icmp_ne hk 147 (pc' := 125) dX1_isLike_122 rfl (by decide) (fun c10 => ?_) (fun c10 => ?_)
        · refine GG_iconst hk (pc' := 148) 0 dX1_isLike_147 rfl rfl ?_
          exact GG_zret hk hq dX1_isLike_148
        · refine GG_aload_n hk (pc' := 126) 0 dX1_isLike_125 rfl rfl rfl ?_
          refine GG_get hk LC1 6 (v := .ref (kh k + (o + 4))) (pc' := 129) tw_124 rfl (kdO h_o) (by decide) rfl dX1_isLike_126 rfl ?_
          refine GG_aload_n hk (pc' := 130) 1 dX1_isLike_129 rfl rfl rfl ?_
          refine GG_get hk LC1 6 (v := .ref (kh k + (l1 + 4))) (pc' := 133) tw_124 rfl (kdO h_l1) (by decide) rfl dX1_isLike_130 rfl ?_
          refine GG_aload_n hk (pc' := 134) 0 dX1_isLike_133 rfl rfl rfl ?_
          refine GG_get hk LC1 5 (v := .int (M o 5)) (pc' := 137) tw_121 rfl (kdO h_o) (by decide) rfl dX1_isLike_134 rfl ?_
          refine GG_callSi hk (st := []) (pc' := 140) mf_X1_isAlike tw_692 (c_X1_isAlike _ _ _ M (o + 4) (l1 + 4) (M o 5) (kdOa h_o 3 (by decide)) (kdOa h_l1 3 (by decide))) (by omega) tw_691 rfl rfl (Nat.le_of_ble_eq_true rfl) dX1_isLike_137 rfl (fun z11 e_z11 => ?_)
          refine GG_if_eq hk 147 (pc' := 143) dX1_isLike_140 rfl (by decide) (fun c12 => ?_) (fun c12 => ?_)
          · refine GG_iconst hk (pc' := 148) 0 dX1_isLike_147 rfl rfl ?_
            exact GG_zret hk hq dX1_isLike_148
          · refine GG_iconst hk (pc' := 144) 1 dX1_isLike_143 rfl rfl ?_
            refine GG_goto hk 148 dX1_isLike_144 (by decide) ?_
            exact GG_zret hk hq dX1_isLike_148
  · refine GG_iconst hk (pc' := 12) 0 dX1_isLike_11 rfl rfl ?_
    exact GG_zret hk hq dX1_isLike_12
theorem c_X1_isLike (l : Launch) (C : DD) (a : Nat) (M : Mem) (o : Nat) (l1 : Nat) (h_o : okO o) (h_l1 : okO l1) : CI l C (a) yX1_isLike cX1_isLike 2 .boolean 2 [.ref (a + o), .ref (a + l1)] M (f_X1_isLike M o l1) := by
  refine CI_of RX1 (by decide +kernel) rfl (Nat.le_of_ble_eq_true rfl) (fun k q hk hq e1 e2 e3 => ?_)
  subst e1; subst e2; subst e3
  exact m_X1_isLike hk hq M o l1 h_o h_l1

/-! SettingsInLayers$Outcome.numberOrNothing()I -/
noncomputable def f_X1_numberOrNothing (M : Mem) (o : Nat) : Option (Int32 × Mem) :=
    if ¬ (M o 0) = 0 then
      some ((-9), M)
    else
      some ((M o 1), M)
set_option maxRecDepth 20000 in
theorem m_X1_numberOrNothing {k : KT} {q : Int32 × Mem} (hk : CX k cX1_numberOrNothing RX1 1 (some .int) 1) (hq : RI k q) (M : Mem) (o : Nat) (h_o : okO o) : GG k q (wM k M) 0 [(0, .ref (kh k + o))] [] (f_X1_numberOrNothing M o) := by
  unfold f_X1_numberOrNothing
  refine GG_aload_n hk (pc' := 1) 0 dX1_numberOrNothing_0 rfl rfl rfl ?_
  refine GG_get hk LC1 0 (v := .int (M o 0)) (pc' := 4) tw_107 rfl (kdO h_o) (by decide) rfl dX1_numberOrNothing_1 rfl ?_
  refine GG_if_ne hk 14 (pc' := 7) dX1_numberOrNothing_4 rfl (by decide) (fun c1 => ?_) (fun c1 => ?_)
  · refine GG_bipush hk (pc' := 16) (-9) dX1_numberOrNothing_14 rfl rfl ?_
    exact GG_iret hk hq dX1_numberOrNothing_16
  · refine GG_aload_n hk (pc' := 8) 0 dX1_numberOrNothing_7 rfl rfl rfl ?_
    refine GG_get hk LC1 1 (v := .int (M o 1)) (pc' := 11) tw_110 rfl (kdO h_o) (by decide) rfl dX1_numberOrNothing_8 rfl ?_
    refine GG_goto hk 16 dX1_numberOrNothing_11 (by decide) ?_
    exact GG_iret hk hq dX1_numberOrNothing_16
theorem c_X1_numberOrNothing (l : Launch) (C : DD) (a : Nat) (M : Mem) (o : Nat) (h_o : okO o) : CI l C (a) yX1_numberOrNothing cX1_numberOrNothing 1 .int 1 [.ref (a + o)] M (f_X1_numberOrNothing M o) := by
  refine CI_of RX1 (by decide +kernel) rfl (Nat.le_of_ble_eq_true rfl) (fun k q hk hq e1 e2 e3 => ?_)
  subst e1; subst e2; subst e3
  exact m_X1_numberOrNothing hk hq M o h_o

/-! SettingsInLayers$Scene.putOn(III)V -/
noncomputable def f_X4_putOn (M : Mem) (s : Nat) (l1 : Int32) (l2 : Int32) (l3 : Int32) : Option Mem :=
    Option.bind (wrf M s 0 ((M s 0) ||| (1 <<< (l1 &&& 31)))) fun M1 =>
    Option.bind (f_X7_slotOf M1 l1 l2) fun z2 =>
    Option.bind (f_X4_put z2.2 s z2.1 0 l3 (-9)) fun z3 =>
    some z3
set_option maxRecDepth 20000 in
theorem m_X4_putOn {k : KT} {q : Mem} (hk : CX k cX4_putOn RX4 4 none 2) (hq : RV k q) (M : Mem) (s : Nat) (l1 : Int32) (l2 : Int32) (l3 : Int32) (h_s : okS s) : GG k q (wM k M) 0 [(0, .ref (kh k + s)), (1, .int l1), (2, .int l2), (3, .int l3)] [] (f_X4_putOn M s l1 l2 l3) := by
  unfold f_X4_putOn
  refine GG_aload_n hk (pc' := 1) 0 dX4_putOn_0 rfl rfl rfl ?_
  refine GG_dup hk (pc' := 2) dX4_putOn_1 rfl rfl ?_
  refine GG_get hk LC4 0 (v := .int (M s 0)) (pc' := 5) tw_44 rfl (kdS h_s) (by decide) rfl dX4_putOn_2 rfl ?_
  refine GG_iconst hk (pc' := 6) 1 dX4_putOn_5 rfl rfl ?_
  refine GG_iload_n hk (pc' := 7) 1 dX4_putOn_6 rfl rfl rfl ?_
  refine GG_ishl hk (pc' := 8) dX4_putOn_7 rfl ?_
  refine GG_ior hk (pc' := 9) dX4_putOn_8 rfl ?_
  refine GG_put hk LC4 0 (pc' := 12) tw_44 rfl (kdS h_s) (by decide) rfl rfl (Nat.le_of_ble_eq_true rfl) (pv_4_0 _ _ _ _) dX4_putOn_9 rfl (fun M1 e_M1 => ?_)
  refine GG_aload_n hk (pc' := 13) 0 dX4_putOn_12 rfl rfl rfl ?_
  refine GG_iload_n hk (pc' := 14) 1 dX4_putOn_13 rfl rfl rfl ?_
  refine GG_iload_n hk (pc' := 15) 2 dX4_putOn_14 rfl rfl rfl ?_
  refine GG_callNi hk (st := [.ref (kh k + s)]) (pc' := 18) mf_X7_slotOf tw_460 (c_X7_slotOf _ _ _ M1 l1 l2 ) (by omega) (by decide) rfl rfl (Nat.le_of_ble_eq_true rfl) dX4_putOn_15 rfl (fun z2 e_z2 => ?_)
  refine GG_iconst hk (pc' := 19) 0 dX4_putOn_18 rfl rfl ?_
  refine GG_iload_n hk (pc' := 20) 3 dX4_putOn_19 rfl rfl rfl ?_
  refine GG_bipush hk (pc' := 22) (-9) dX4_putOn_20 rfl rfl ?_
  refine GG_callVv hk (st := []) (pc' := 25) mf_X4_put mv_X4_put LC4 rfl (c_X4_put _ _ _ z2.2 s z2.1 0 l3 (-9) h_s) (by omega) tw_32 (kdS h_s) rfl rfl (Nat.le_of_ble_eq_true rfl) dX4_putOn_22 rfl (fun z3 e_z3 => ?_)
  exact GG_vret hk hq dX4_putOn_25
theorem c_X4_putOn (l : Launch) (C : DD) (a : Nat) (M : Mem) (s : Nat) (l1 : Int32) (l2 : Int32) (l3 : Int32) (h_s : okS s) : CV l C (a) yX4_putOn cX4_putOn 4 2 [.ref (a + s), .int l1, .int l2, .int l3] M (f_X4_putOn M s l1 l2 l3) := by
  refine CV_of RX4 (by decide +kernel) rfl (Nat.le_of_ble_eq_true rfl) (fun k q hk hq e1 e2 e3 => ?_)
  subst e1; subst e2; subst e3
  exact m_X4_putOn hk hq M s l1 l2 l3 h_s

/-! SettingsInLayers$Row.isOtherThan(II)Z -/
noncomputable def f_X3_isOtherThan (M : Mem) (l1 : Int32) (l2 : Int32) : Option (Int32 × Mem) :=
    Option.bind (rd 8 (M 103) l1) fun v1 =>
    if ¬ v1 = 100 then
      Option.bind (rd 8 (M 103) l1) fun v3 =>
      if v3 = l2 then
        bret 0 M
      else
        bret 1 M
    else
      if l2 = (-9) then
        bret 0 M
      else
        bret 1 M
set_option maxRecDepth 20000 in
theorem m_X3_isOtherThan {k : KT} {q : Int32 × Mem} (hk : CX k cX3_isOtherThan RX3 3 (some .boolean) 1) (hq : RI k q) (M : Mem) (l1 : Int32) (l2 : Int32)  : GG k q (wM k M) 0 [(0, .ref (kh k + 102)), (1, .int l1), (2, .int l2)] [] (f_X3_isOtherThan M l1 l2) := by
  unfold f_X3_isOtherThan
  refine GG_aload_n hk (pc' := 1) 0 dX3_isOtherThan_0 rfl rfl rfl ?_
  refine GG_get hk LC3 0 (v := .ref (kh k + 103)) (pc' := 4) tw_277 rfl rfl (by decide) rfl dX3_isOtherThan_1 rfl ?_
  refine GG_iload_n hk (pc' := 5) 1 dX3_isOtherThan_4 rfl rfl rfl ?_
  refine GG_iald hk (pc' := 6) rfl rfl dX3_isOtherThan_5 rfl (fun v1 e_v1 => ?_)
  refine GG_bipush hk (pc' := 8) 100 dX3_isOtherThan_6 rfl rfl ?_
  refine GG_icmp_ne hk 23 (pc' := 11) dX3_isOtherThan_8 rfl (by decide) (fun c2 => ?_) (fun c2 => ?_)
  · refine GG_aload_n hk (pc' := 24) 0 dX3_isOtherThan_23 rfl rfl rfl ?_
    refine GG_get hk LC3 0 (v := .ref (kh k + 103)) (pc' := 27) tw_277 rfl rfl (by decide) rfl dX3_isOtherThan_24 rfl ?_
    refine GG_iload_n hk (pc' := 28) 1 dX3_isOtherThan_27 rfl rfl rfl ?_
    refine GG_iald hk (pc' := 29) rfl rfl dX3_isOtherThan_28 rfl (fun v3 e_v3 => ?_)
    refine GG_iload_n hk (pc' := 30) 2 dX3_isOtherThan_29 rfl rfl rfl ?_
    refine GG_icmp_eq hk 37 (pc' := 33) dX3_isOtherThan_30 rfl (by decide) (fun c4 => ?_) (fun c4 => ?_)
    · refine GG_iconst hk (pc' := 38) 0 dX3_isOtherThan_37 rfl rfl ?_
      exact GG_zret hk hq dX3_isOtherThan_38
    · refine GG_iconst hk (pc' := 34) 1 dX3_isOtherThan_33 rfl rfl ?_
      refine GG_goto hk 38 dX3_isOtherThan_34 (by decide) ?_
      exact GG_zret hk hq dX3_isOtherThan_38
  · refine GG_iload_n hk (pc' := 12) 2 dX3_isOtherThan_11 rfl rfl rfl ?_
    refine GG_bipush hk (pc' := 14) (-9) dX3_isOtherThan_12 rfl rfl ?_
    refine GG_icmp_eq hk 21 (pc' := 17) dX3_isOtherThan_14 rfl (by decide) (fun c5 => ?_) (fun c5 => ?_)
    · refine GG_iconst hk (pc' := 22) 0 dX3_isOtherThan_21 rfl rfl ?_
      exact GG_zret hk hq dX3_isOtherThan_22
    · refine GG_iconst hk (pc' := 18) 1 dX3_isOtherThan_17 rfl rfl ?_
      refine GG_goto hk 22 dX3_isOtherThan_18 (by decide) ?_
      exact GG_zret hk hq dX3_isOtherThan_22
theorem c_X3_isOtherThan (l : Launch) (C : DD) (a : Nat) (M : Mem) (l1 : Int32) (l2 : Int32)  : CI l C (a) yX3_isOtherThan cX3_isOtherThan 3 .boolean 1 [.ref (a + 102), .int l1, .int l2] M (f_X3_isOtherThan M l1 l2) := by
  refine CI_of RX3 (by decide +kernel) rfl (Nat.le_of_ble_eq_true rfl) (fun k q hk hq e1 e2 e3 => ?_)
  subst e1; subst e2; subst e3
  exact m_X3_isOtherThan hk hq M l1 l2 

/-! SettingsInLayers$Row.append(I)I -/
noncomputable def f_X3_append (M : Mem) (l1 : Int32) : Option (Int32 × Mem) :=
    Option.bind (wra 8 M 103 (M 102 1) l1) fun M1 =>
    Option.bind (wrf M1 102 1 ((M1 102 1) + 1)) fun M2 =>
    some ((M2 102 1), M2)
set_option maxRecDepth 20000 in
theorem m_X3_append {k : KT} {q : Int32 × Mem} (hk : CX k cX3_append RX3 2 (some .int) 1) (hq : RI k q) (M : Mem) (l1 : Int32)  : GG k q (wM k M) 0 [(0, .ref (kh k + 102)), (1, .int l1)] [] (f_X3_append M l1) := by
  unfold f_X3_append
  refine GG_aload_n hk (pc' := 1) 0 dX3_append_0 rfl rfl rfl ?_
  refine GG_get hk LC3 0 (v := .ref (kh k + 103)) (pc' := 4) tw_277 rfl rfl (by decide) rfl dX3_append_1 rfl ?_
  refine GG_aload_n hk (pc' := 5) 0 dX3_append_4 rfl rfl rfl ?_
  refine GG_get hk LC3 1 (v := .int (M 102 1)) (pc' := 8) tw_278 rfl rfl (by decide) rfl dX3_append_5 rfl ?_
  refine GG_iload_n hk (pc' := 9) 1 dX3_append_8 rfl rfl rfl ?_
  refine GG_iast hk (pc' := 10) rfl rfl dX3_append_9 rfl (fun M1 e_M1 => ?_)
  refine GG_aload_n hk (pc' := 11) 0 dX3_append_10 rfl rfl rfl ?_
  refine GG_dup hk (pc' := 12) dX3_append_11 rfl rfl ?_
  refine GG_get hk LC3 1 (v := .int (M1 102 1)) (pc' := 15) tw_278 rfl rfl (by decide) rfl dX3_append_12 rfl ?_
  refine GG_iconst hk (pc' := 16) 1 dX3_append_15 rfl rfl ?_
  refine GG_iadd hk (pc' := 17) dX3_append_16 rfl ?_
  refine GG_put hk LC3 1 (pc' := 20) tw_278 rfl rfl (by decide) rfl rfl (Nat.le_of_ble_eq_true rfl) (pv_3_1 _ _ _ _) dX3_append_17 rfl (fun M2 e_M2 => ?_)
  refine GG_aload_n hk (pc' := 21) 0 dX3_append_20 rfl rfl rfl ?_
  refine GG_get hk LC3 1 (v := .int (M2 102 1)) (pc' := 24) tw_278 rfl rfl (by decide) rfl dX3_append_21 rfl ?_
  exact GG_iret hk hq dX3_append_24
theorem c_X3_append (l : Launch) (C : DD) (a : Nat) (M : Mem) (l1 : Int32)  : CI l C (a) yX3_append cX3_append 2 .int 1 [.ref (a + 102), .int l1] M (f_X3_append M l1) := by
  refine CI_of RX3 (by decide +kernel) rfl (Nat.le_of_ble_eq_true rfl) (fun k q hk hq e1 e2 e3 => ?_)
  subst e1; subst e2; subst e3
  exact m_X3_append hk hq M l1 

/-! SettingsInLayers$Draws.below(I)I -/
noncomputable def f_X0_below (M : Mem) (l1 : Int32) : Option (Int32 × Mem) :=
    Option.bind (wrf M 104 0 (((M 104 0) * 1664525) + 1013904223)) fun M1 =>
    if 0 < l1 then
      Option.bind (dvI ((M1 104 0) &&& 2147483647) 256) fun v3 =>
      Option.bind (rmI v3 l1) fun v4 =>
      some (v4, M1)
    else
      some (0, M1)
set_option maxRecDepth 20000 in
theorem m_X0_below {k : KT} {q : Int32 × Mem} (hk : CX k cX0_below RX0 2 (some .int) 1) (hq : RI k q) (M : Mem) (l1 : Int32)  : GG k q (wM k M) 0 [(0, .ref (kh k + 104)), (1, .int l1)] [] (f_X0_below M l1) := by
  unfold f_X0_below
  refine GG_aload_n hk (pc' := 1) 0 dX0_below_0 rfl rfl rfl ?_
  refine GG_aload_n hk (pc' := 2) 0 dX0_below_1 rfl rfl rfl ?_
  refine GG_get hk LC0 0 (v := .int (M 104 0)) (pc' := 5) tw_291 rfl rfl (by decide) rfl dX0_below_2 rfl ?_
  refine GG_ldc hk (pc' := 7) (v := 1664525) tw_796 dX0_below_5 rfl ?_
  refine GG_imul hk (pc' := 8) dX0_below_7 rfl ?_
  refine GG_ldc hk (pc' := 10) (v := 1013904223) tw_797 dX0_below_8 rfl ?_
  refine GG_iadd hk (pc' := 11) dX0_below_10 rfl ?_
  refine GG_put hk LC0 0 (pc' := 14) tw_291 rfl rfl (by decide) rfl rfl (Nat.le_of_ble_eq_true rfl) (pv_0_0 _ _ _ _) dX0_below_11 rfl (fun M1 e_M1 => ?_)
  refine GG_iload_n hk (pc' := 15) 1 dX0_below_14 rfl rfl rfl ?_
  refine GG_if_gt hk 22 (pc' := 18) dX0_below_15 rfl (by decide) (fun c2 => ?_) (fun c2 => ?_)
  · refine GG_aload_n hk (pc' := 23) 0 dX0_below_22 rfl rfl rfl ?_
    refine GG_get hk LC0 0 (v := .int (M1 104 0)) (pc' := 26) tw_291 rfl rfl (by decide) rfl dX0_below_23 rfl ?_
    refine GG_ldc hk (pc' := 28) (v := 2147483647) tw_798 dX0_below_26 rfl ?_
    refine GG_iand hk (pc' := 29) dX0_below_28 rfl ?_
    refine GG_sipush hk (pc' := 32) 256 dX0_below_29 rfl rfl ?_
    refine GG_idiv hk (pc' := 33) dX0_below_32 rfl (fun v3 e_v3 => ?_)
    refine GG_iload_n hk (pc' := 34) 1 dX0_below_33 rfl rfl rfl ?_
    refine GG_irem hk (pc' := 35) dX0_below_34 rfl (fun v4 e_v4 => ?_)
    exact GG_iret hk hq dX0_below_35
  · refine GG_iconst hk (pc' := 19) 0 dX0_below_18 rfl rfl ?_
    refine GG_goto hk 35 dX0_below_19 (by decide) ?_
    exact GG_iret hk hq dX0_below_35
theorem c_X0_below (l : Launch) (C : DD) (a : Nat) (M : Mem) (l1 : Int32)  : CI l C (a) yX0_below cX0_below 2 .int 1 [.ref (a + 104), .int l1] M (f_X0_below M l1) := by
  refine CI_of RX0 (by decide +kernel) rfl (Nat.le_of_ble_eq_true rfl) (fun k q hk hq e1 e2 e3 => ?_)
  subst e1; subst e2; subst e3
  exact m_X0_below hk hq M l1 

/-! SettingsInLayers$Scene.entries()I -/
noncomputable def f_X4_entries_4  : Nat → Mem → Nat → Int32 → Int32 → Option (Int32 × Mem)
  | 0, _, _, _, _ => none
  | n + 1, M, l0, l1, l2 =>
    if 6 ≤ l2 then
      some (l1, M)
    else
      Option.bind (f_X4_keyBits M l0 l2) fun z2 =>
      Option.bind (f_J6_bitCount_0f7a4 z2.2 z2.1) fun z3 =>
      f_X4_entries_4  n z3.2 l0 (l1 + z3.1) (l2 + 1)
set_option maxRecDepth 20000 in
theorem m_X4_entries_4 {k : KT} {q : Int32 × Mem} (hk : CX k cX4_entries RX4 3 (some .int) 3) (hq : RI k q) : ∀ (n : Nat) (M : Mem) (l0 : Nat) (l1 : Int32) (l2 : Int32) (h_l0 : okS l0), GG k q (wM k M) 4 [(0, .ref (kh k + l0)), (1, .int l1), (2, .int l2)] [] (f_X4_entries_4  n M l0 l1 l2) := by
  intro n
  induction n with
  | zero => intros; exact GG_none
  | succ n ih =>
    intro M l0 l1 l2 h_l0
    rw [f_X4_entries_4]
    refine GG_iload_n hk (pc' := 5) 2 dX4_entries_4 rfl rfl rfl ?_
    refine GG_bipush hk (pc' := 7) 6 dX4_entries_5 rfl rfl ?_
    refine GG_icmp_ge hk 27 (pc' := 10) dX4_entries_7 rfl (by decide) (fun c1 => ?_) (fun c1 => ?_)
    · refine GG_iload_n hk (pc' := 28) 1 dX4_entries_27 rfl rfl rfl ?_
      exact GG_iret hk hq dX4_entries_28
    · refine GG_iload_n hk (pc' := 11) 1 dX4_entries_10 rfl rfl rfl ?_
      refine GG_aload_n hk (pc' := 12) 0 dX4_entries_11 rfl rfl rfl ?_
      refine GG_iload_n hk (pc' := 13) 2 dX4_entries_12 rfl rfl rfl ?_
      refine GG_callVi hk (st := [.int l1]) (pc' := 16) mf_X4_keyBits mv_X4_keyBits LC4 rfl (c_X4_keyBits _ _ _ M l0 l2 h_l0) (by omega) tw_818 (kdS h_l0) rfl rfl (Nat.le_of_ble_eq_true rfl) dX4_entries_13 rfl (fun z2 e_z2 => ?_)
      refine GG_callSi hk (st := [.int l1]) (pc' := 19) mf_J6_bitCount_0f7a4 tw_541 (c_J6_bitCount_0f7a4 _ _ _ z2.2 z2.1 ) (by omega) tw_819 rfl rfl (Nat.le_of_ble_eq_true rfl) dX4_entries_16 rfl (fun z3 e_z3 => ?_)
      refine GG_iadd hk (pc' := 20) dX4_entries_19 rfl ?_
      refine GG_istore_n hk (pc' := 21) [(1, .int (l1 + z3.1)), (0, .ref (kh k + l0)), (2, .int l2)] dX4_entries_20 rfl rfl (by decide) rfl ?_
      refine GG_iinc hk (pc' := 24) 2 (l2 + 1) [(2, .int (l2 + 1)), (1, .int (l1 + z3.1)), (0, .ref (kh k + l0))] dX4_entries_21 rfl rfl rfl (by decide) rfl ?_
      refine GG_goto hk 4 dX4_entries_24 (by decide) ?_
      refine GG_sub (L' := [(0, .ref (kh k + l0)), (1, .int (l1 + z3.1)), (2, .int (l2 + 1))]) [2, 1, 0] rfl ?_
      exact ih z3.2 l0 (l1 + z3.1) (l2 + 1) h_l0
noncomputable def f_X4_entries (M : Mem) (s : Nat) : Option (Int32 × Mem) :=
    f_X4_entries_4  1000 M s 0 0
set_option maxRecDepth 20000 in
theorem m_X4_entries {k : KT} {q : Int32 × Mem} (hk : CX k cX4_entries RX4 3 (some .int) 3) (hq : RI k q) (M : Mem) (s : Nat) (h_s : okS s) : GG k q (wM k M) 0 [(0, .ref (kh k + s))] [] (f_X4_entries M s) := by
  unfold f_X4_entries
  refine GG_iconst hk (pc' := 1) 0 dX4_entries_0 rfl rfl ?_
  refine GG_istore_n hk (pc' := 2) [(1, .int 0), (0, .ref (kh k + s))] dX4_entries_1 rfl rfl (by decide) rfl ?_
  refine GG_iconst hk (pc' := 3) 0 dX4_entries_2 rfl rfl ?_
  refine GG_istore_n hk (pc' := 4) [(2, .int 0), (1, .int 0), (0, .ref (kh k + s))] dX4_entries_3 rfl rfl (by decide) rfl ?_
  refine GG_sub (L' := [(0, .ref (kh k + s)), (1, .int 0), (2, .int 0)]) [2, 1, 0] rfl ?_
  exact m_X4_entries_4 hk hq  1000 M s 0 0 h_s
theorem c_X4_entries (l : Launch) (C : DD) (a : Nat) (M : Mem) (s : Nat) (h_s : okS s) : CI l C (a) yX4_entries cX4_entries 3 .int 3 [.ref (a + s)] M (f_X4_entries M s) := by
  refine CI_of RX4 (by decide +kernel) rfl (Nat.le_of_ble_eq_true rfl) (fun k q hk hq e1 e2 e3 => ?_)
  subst e1; subst e2; subst e3
  exact m_X4_entries hk hq M s h_s

/-! SettingsInLayers$Scene.keyBitsOfAll()I -/
noncomputable def f_X4_keyBitsOfAll_4  : Nat → Mem → Nat → Int32 → Int32 → Option (Int32 × Mem)
  | 0, _, _, _, _ => none
  | n + 1, M, l0, l1, l2 =>
    if 6 ≤ l2 then
      some (l1, M)
    else
      Option.bind (f_X4_keyBits M l0 l2) fun z2 =>
      f_X4_keyBitsOfAll_4  n z2.2 l0 (l1 ||| z2.1) (l2 + 1)
set_option maxRecDepth 20000 in
theorem m_X4_keyBitsOfAll_4 {k : KT} {q : Int32 × Mem} (hk : CX k cX4_keyBitsOfAll RX4 3 (some .int) 3) (hq : RI k q) : ∀ (n : Nat) (M : Mem) (l0 : Nat) (l1 : Int32) (l2 : Int32) (h_l0 : okS l0), GG k q (wM k M) 4 [(0, .ref (kh k + l0)), (1, .int l1), (2, .int l2)] [] (f_X4_keyBitsOfAll_4  n M l0 l1 l2) := by
  intro n
  induction n with
  | zero => intros; exact GG_none
  | succ n ih =>
    intro M l0 l1 l2 h_l0
    rw [f_X4_keyBitsOfAll_4]
    refine GG_iload_n hk (pc' := 5) 2 dX4_keyBitsOfAll_4 rfl rfl rfl ?_
    refine GG_bipush hk (pc' := 7) 6 dX4_keyBitsOfAll_5 rfl rfl ?_
    refine GG_icmp_ge hk 24 (pc' := 10) dX4_keyBitsOfAll_7 rfl (by decide) (fun c1 => ?_) (fun c1 => ?_)
    · refine GG_iload_n hk (pc' := 25) 1 dX4_keyBitsOfAll_24 rfl rfl rfl ?_
      exact GG_iret hk hq dX4_keyBitsOfAll_25
    · refine GG_iload_n hk (pc' := 11) 1 dX4_keyBitsOfAll_10 rfl rfl rfl ?_
      refine GG_aload_n hk (pc' := 12) 0 dX4_keyBitsOfAll_11 rfl rfl rfl ?_
      refine GG_iload_n hk (pc' := 13) 2 dX4_keyBitsOfAll_12 rfl rfl rfl ?_
      refine GG_callVi hk (st := [.int l1]) (pc' := 16) mf_X4_keyBits mv_X4_keyBits LC4 rfl (c_X4_keyBits _ _ _ M l0 l2 h_l0) (by omega) tw_818 (kdS h_l0) rfl rfl (Nat.le_of_ble_eq_true rfl) dX4_keyBitsOfAll_13 rfl (fun z2 e_z2 => ?_)
      refine GG_ior hk (pc' := 17) dX4_keyBitsOfAll_16 rfl ?_
      refine GG_istore_n hk (pc' := 18) [(1, .int (l1 ||| z2.1)), (0, .ref (kh k + l0)), (2, .int l2)] dX4_keyBitsOfAll_17 rfl rfl (by decide) rfl ?_
      refine GG_iinc hk (pc' := 21) 2 (l2 + 1) [(2, .int (l2 + 1)), (1, .int (l1 ||| z2.1)), (0, .ref (kh k + l0))] dX4_keyBitsOfAll_18 rfl rfl rfl (by decide) rfl ?_
      refine GG_goto hk 4 dX4_keyBitsOfAll_21 (by decide) ?_
      refine GG_sub (L' := [(0, .ref (kh k + l0)), (1, .int (l1 ||| z2.1)), (2, .int (l2 + 1))]) [2, 1, 0] rfl ?_
      exact ih z2.2 l0 (l1 ||| z2.1) (l2 + 1) h_l0
noncomputable def f_X4_keyBitsOfAll (M : Mem) (s : Nat) : Option (Int32 × Mem) :=
    f_X4_keyBitsOfAll_4  1000 M s 0 0
set_option maxRecDepth 20000 in
theorem m_X4_keyBitsOfAll {k : KT} {q : Int32 × Mem} (hk : CX k cX4_keyBitsOfAll RX4 3 (some .int) 3) (hq : RI k q) (M : Mem) (s : Nat) (h_s : okS s) : GG k q (wM k M) 0 [(0, .ref (kh k + s))] [] (f_X4_keyBitsOfAll M s) := by
  unfold f_X4_keyBitsOfAll
  refine GG_iconst hk (pc' := 1) 0 dX4_keyBitsOfAll_0 rfl rfl ?_
  refine GG_istore_n hk (pc' := 2) [(1, .int 0), (0, .ref (kh k + s))] dX4_keyBitsOfAll_1 rfl rfl (by decide) rfl ?_
  refine GG_iconst hk (pc' := 3) 0 dX4_keyBitsOfAll_2 rfl rfl ?_
  refine GG_istore_n hk (pc' := 4) [(2, .int 0), (1, .int 0), (0, .ref (kh k + s))] dX4_keyBitsOfAll_3 rfl rfl (by decide) rfl ?_
  refine GG_sub (L' := [(0, .ref (kh k + s)), (1, .int 0), (2, .int 0)]) [2, 1, 0] rfl ?_
  exact m_X4_keyBitsOfAll_4 hk hq  1000 M s 0 0 h_s
theorem c_X4_keyBitsOfAll (l : Launch) (C : DD) (a : Nat) (M : Mem) (s : Nat) (h_s : okS s) : CI l C (a) yX4_keyBitsOfAll cX4_keyBitsOfAll 3 .int 3 [.ref (a + s)] M (f_X4_keyBitsOfAll M s) := by
  refine CI_of RX4 (by decide +kernel) rfl (Nat.le_of_ble_eq_true rfl) (fun k q hk hq e1 e2 e3 => ?_)
  subst e1; subst e2; subst e3
  exact m_X4_keyBitsOfAll hk hq M s h_s

/-! SettingsInLayers$Scene.items()I -/
noncomputable def f_X4_items_4  : Nat → Mem → Nat → Int32 → Int32 → Option (Int32 × Mem)
  | 0, _, _, _, _ => none
  | n + 1, M, l0, l1, l2 =>
    if 48 ≤ l2 then
      some (l1, M)
    else
      Option.bind (rd 48 (M (l0 + 5)) l2) fun v2 =>
      if ¬ v2 = 1 then
        f_X4_items_4  n M l0 l1 (l2 + 1)
      else
        Option.bind (rd 48 (M (l0 + 6)) l2) fun v4 =>
        f_X4_items_4  n M l0 (l1 + v4) (l2 + 1)
set_option maxRecDepth 20000 in
theorem m_X4_items_4 {k : KT} {q : Int32 × Mem} (hk : CX k cX4_items RX4 3 (some .int) 1) (hq : RI k q) : ∀ (n : Nat) (M : Mem) (l0 : Nat) (l1 : Int32) (l2 : Int32) (h_l0 : okS l0), GG k q (wM k M) 4 [(0, .ref (kh k + l0)), (1, .int l1), (2, .int l2)] [] (f_X4_items_4  n M l0 l1 l2) := by
  intro n
  induction n with
  | zero => intros; exact GG_none
  | succ n ih =>
    intro M l0 l1 l2 h_l0
    rw [f_X4_items_4]
    refine GG_iload_n hk (pc' := 5) 2 dX4_items_4 rfl rfl rfl ?_
    refine GG_bipush hk (pc' := 7) 48 dX4_items_5 rfl rfl ?_
    refine GG_icmp_ge hk 35 (pc' := 10) dX4_items_7 rfl (by decide) (fun c1 => ?_) (fun c1 => ?_)
    · refine GG_iload_n hk (pc' := 36) 1 dX4_items_35 rfl rfl rfl ?_
      exact GG_iret hk hq dX4_items_36
    · refine GG_aload_n hk (pc' := 11) 0 dX4_items_10 rfl rfl rfl ?_
      refine GG_get hk LC4 5 (v := .ref (kh k + (l0 + 5))) (pc' := 14) tw_58 rfl (kdS h_l0) (by decide) rfl dX4_items_11 rfl ?_
      refine GG_iload_n hk (pc' := 15) 2 dX4_items_14 rfl rfl rfl ?_
      refine GG_iald hk (pc' := 16) (kdSa h_l0 4 (by decide)) (lnSa h_l0 4 (by decide) rfl) dX4_items_15 rfl (fun v2 e_v2 => ?_)
      refine GG_iconst hk (pc' := 17) 1 dX4_items_16 rfl rfl ?_
      refine GG_icmp_ne hk 29 (pc' := 20) dX4_items_17 rfl (by decide) (fun c3 => ?_) (fun c3 => ?_)
      · refine GG_iinc hk (pc' := 32) 2 (l2 + 1) [(2, .int (l2 + 1)), (0, .ref (kh k + l0)), (1, .int l1)] dX4_items_29 rfl rfl rfl (by decide) rfl ?_
        refine GG_goto hk 4 dX4_items_32 (by decide) ?_
        refine GG_sub (L' := [(0, .ref (kh k + l0)), (1, .int l1), (2, .int (l2 + 1))]) [1, 2, 0] rfl ?_
        exact ih M l0 l1 (l2 + 1) h_l0
      · refine GG_iload_n hk (pc' := 21) 1 dX4_items_20 rfl rfl rfl ?_
        refine GG_aload_n hk (pc' := 22) 0 dX4_items_21 rfl rfl rfl ?_
        refine GG_get hk LC4 6 (v := .ref (kh k + (l0 + 6))) (pc' := 25) tw_62 rfl (kdS h_l0) (by decide) rfl dX4_items_22 rfl ?_
        refine GG_iload_n hk (pc' := 26) 2 dX4_items_25 rfl rfl rfl ?_
        refine GG_iald hk (pc' := 27) (kdSa h_l0 5 (by decide)) (lnSa h_l0 5 (by decide) rfl) dX4_items_26 rfl (fun v4 e_v4 => ?_)
        refine GG_iadd hk (pc' := 28) dX4_items_27 rfl ?_
        refine GG_istore_n hk (pc' := 29) [(1, .int (l1 + v4)), (0, .ref (kh k + l0)), (2, .int l2)] dX4_items_28 rfl rfl (by decide) rfl ?_
        refine GG_iinc hk (pc' := 32) 2 (l2 + 1) [(2, .int (l2 + 1)), (1, .int (l1 + v4)), (0, .ref (kh k + l0))] dX4_items_29 rfl rfl rfl (by decide) rfl ?_
        refine GG_goto hk 4 dX4_items_32 (by decide) ?_
        refine GG_sub (L' := [(0, .ref (kh k + l0)), (1, .int (l1 + v4)), (2, .int (l2 + 1))]) [2, 1, 0] rfl ?_
        exact ih M l0 (l1 + v4) (l2 + 1) h_l0
noncomputable def f_X4_items (M : Mem) (s : Nat) : Option (Int32 × Mem) :=
    f_X4_items_4  1000 M s 0 0
set_option maxRecDepth 20000 in
theorem m_X4_items {k : KT} {q : Int32 × Mem} (hk : CX k cX4_items RX4 3 (some .int) 1) (hq : RI k q) (M : Mem) (s : Nat) (h_s : okS s) : GG k q (wM k M) 0 [(0, .ref (kh k + s))] [] (f_X4_items M s) := by
  unfold f_X4_items
  refine GG_iconst hk (pc' := 1) 0 dX4_items_0 rfl rfl ?_
  refine GG_istore_n hk (pc' := 2) [(1, .int 0), (0, .ref (kh k + s))] dX4_items_1 rfl rfl (by decide) rfl ?_
  refine GG_iconst hk (pc' := 3) 0 dX4_items_2 rfl rfl ?_
  refine GG_istore_n hk (pc' := 4) [(2, .int 0), (1, .int 0), (0, .ref (kh k + s))] dX4_items_3 rfl rfl (by decide) rfl ?_
  refine GG_sub (L' := [(0, .ref (kh k + s)), (1, .int 0), (2, .int 0)]) [2, 1, 0] rfl ?_
  exact m_X4_items_4 hk hq  1000 M s 0 0 h_s
theorem c_X4_items (l : Launch) (C : DD) (a : Nat) (M : Mem) (s : Nat) (h_s : okS s) : CI l C (a) yX4_items cX4_items 3 .int 1 [.ref (a + s)] M (f_X4_items M s) := by
  refine CI_of RX4 (by decide +kernel) rfl (Nat.le_of_ble_eq_true rfl) (fun k q hk hq e1 e2 e3 => ?_)
  subst e1; subst e2; subst e3
  exact m_X4_items hk hq M s h_s
