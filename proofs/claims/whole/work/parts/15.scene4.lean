/-! SettingsInLayers$Scene.rank(I)I -/
set_option maxRecDepth 20000 in
theorem ms_X4_rank_45 {k : KT} {q : Int32 × Mem} {s : Nat} {E0 : Nat → va_E} (h_s : okS s) (hk : CX k cX4_rank RX4 2 (some .int) 1) (hq : RIS k s E0 q) (M : Mem) (l1 : Int32) : GG k q (wS k s E0 M) 45 [(0, .ref (kh k + s)), (1, .int l1)] [] (f_X4_rank_45  M s l1) := by
  unfold f_X4_rank_45
  refine GG_iload_n hk (pc' := 46) 1 dX4_rank_45 rfl rfl rfl ?_
  refine GG_bipush hk (pc' := 48) 10 dX4_rank_46 rfl rfl ?_
  refine GG_iadd hk (pc' := 49) dX4_rank_48 rfl ?_
  refine GG_aload_n hk (pc' := 50) 0 dX4_rank_49 rfl rfl rfl ?_
  refine HG_get hk h_s 2 (v := .ref (kh k + (s + 2))) (pc' := 53) tw_49 rfl (by decide) rfl dX4_rank_50 rfl ?_
  refine GG_iload_n hk (pc' := 54) 1 dX4_rank_53 rfl rfl rfl ?_
  refine HG_iald hk h_s (j := 1) (pc' := 55) (by decide) rfl dX4_rank_54 rfl (fun v1 e_v1 => ?_)
  refine GG_iadd hk (pc' := 56) dX4_rank_55 rfl ?_
  exact HG_iret hk hq dX4_rank_56
set_option maxRecDepth 20000 in
theorem ms_X4_rank {k : KT} {q : Int32 × Mem} {s : Nat} {E0 : Nat → va_E} (h_s : okS s) (hk : CX k cX4_rank RX4 2 (some .int) 1) (hq : RIS k s E0 q) (M : Mem) (l1 : Int32) : GG k q (wS k s E0 M) 0 [(0, .ref (kh k + s)), (1, .int l1)] [] (f_X4_rank M s l1) := by
  unfold f_X4_rank
  refine GG_aload_n hk (pc' := 1) 0 dX4_rank_0 rfl rfl rfl ?_
  refine HG_get hk h_s 1 (v := .ref (kh k + (s + 1))) (pc' := 4) tw_46 rfl (by decide) rfl dX4_rank_1 rfl ?_
  refine GG_iload_n hk (pc' := 5) 1 dX4_rank_4 rfl rfl rfl ?_
  refine HG_iald hk h_s (j := 0) (pc' := 6) (by decide) rfl dX4_rank_5 rfl (fun v1 e_v1 => ?_)
  
  refine GG_if (fun c2 => ?_) (fun c2 => ?_)
  · refine GG_tabIn hk 40 1 c2 dX4_rank_6 (by decide) (by decide) rfl (by decide) ?_
    refine GG_iload_n hk (pc' := 41) 1 dX4_rank_40 rfl rfl rfl ?_
    refine GG_bipush hk (pc' := 43) 10 dX4_rank_41 rfl rfl ?_
    refine GG_iadd hk (pc' := 44) dX4_rank_43 rfl ?_
    exact HG_iret hk hq dX4_rank_44
  · refine GG_if (fun c3 => ?_) (fun c3 => ?_)
    · refine GG_tabIn hk 45 2 c3 dX4_rank_6 (by decide) (by decide) rfl (by decide) ?_
      exact ms_X4_rank_45 h_s hk hq  M l1
    · refine GG_if (fun c4 => ?_) (fun c4 => ?_)
      · refine GG_tabIn hk 57 3 c4 dX4_rank_6 (by decide) (by decide) rfl (by decide) ?_
        refine GG_iload_n hk (pc' := 58) 1 dX4_rank_57 rfl rfl rfl ?_
        refine GG_bipush hk (pc' := 60) 110 dX4_rank_58 rfl rfl ?_
        refine GG_iadd hk (pc' := 61) dX4_rank_60 rfl ?_
        exact HG_iret hk hq dX4_rank_61
      · refine GG_if (fun c5 => ?_) (fun c5 => ?_)
        · refine GG_tabIn hk 62 4 c5 dX4_rank_6 (by decide) (by decide) rfl (by decide) ?_
          refine GG_iload_n hk (pc' := 63) 1 dX4_rank_62 rfl rfl rfl ?_
          refine GG_bipush hk (pc' := 65) 20 dX4_rank_63 rfl rfl ?_
          refine GG_isub hk (pc' := 66) dX4_rank_65 rfl ?_
          exact HG_iret hk hq dX4_rank_66
        · refine GG_if (fun c6 => ?_) (fun c6 => ?_)
          · refine GG_tabIn hk 45 5 c6 dX4_rank_6 (by decide) (by decide) rfl (by decide) ?_
            exact ms_X4_rank_45 h_s hk hq  M l1
          · refine GG_tabOut hk 67 dX4_rank_6 (sw_out_1_5 c2 c3 c4 c5 c6) (by decide) ?_
            refine GG_iload_n hk (pc' := 68) 1 dX4_rank_67 rfl rfl rfl ?_
            exact HG_iret hk hq dX4_rank_68
theorem cs_X4_rank (l : Launch) (C : DD) (a : Nat) (E0 : Nat → va_E) (M : Mem) (s : Nat) (l1 : Int32) (h_s : okS s) : CIS l C a s E0 yX4_rank cX4_rank 2 .int 1 [.ref (a + s), .int l1] M (f_X4_rank M s l1) := by
  refine CIS_of RX4 (by decide +kernel) rfl (Nat.le_of_ble_eq_true rfl) (fun k q hk hq e1 e2 e3 => ?_)
  subst e1; subst e2; subst e3
  exact ms_X4_rank h_s hk hq M l1

/-! SettingsInLayers$Scene.arrange()V -/
set_option maxRecDepth 20000 in
theorem ms_X4_arrange_54 {k : KT} {q : Mem} {s : Nat} {E0 : Nat → va_E} (h_s : okS s) (hk : CX k cX4_arrange RX4 3 none 2) (hq : RVS k s E0 q) (k2 : Mem → Nat → Int32 → Option Mem) (hk2 : ∀ (M : Mem) (l1 : Int32), GG k q (wS k s E0 M) 2 [(0, .ref (kh k + s)), (1, .int l1)] [] (k2 M s l1)) (M : Mem) (l1 : Int32) (l2 : Int32) : GG k q (wS k s E0 M) 54 [(0, .ref (kh k + s)), (1, .int l1), (2, .int l2)] [] (f_X4_arrange_54 k2 M s l1 l2) := by
  unfold f_X4_arrange_54
  refine GG_aload_n hk (pc' := 55) 0 dX4_arrange_54 rfl rfl rfl ?_
  refine HG_get hk h_s 4 (v := .ref (kh k + (s + 4))) (pc' := 58) tw_56 rfl (by decide) rfl dX4_arrange_55 rfl ?_
  refine GG_iload_n hk (pc' := 59) 2 dX4_arrange_58 rfl rfl rfl ?_
  refine GG_iload_n hk (pc' := 60) 1 dX4_arrange_59 rfl rfl rfl ?_
  refine HG_iast hk h_s (j := 3) (pc' := 61) (by decide) rfl dX4_arrange_60 rfl (fun M1 e_M1 => ?_)
  refine GG_iinc hk (pc' := 64) 1 (l1 + 1) [(1, .int (l1 + 1)), (0, .ref (kh k + s)), (2, .int l2)] dX4_arrange_61 rfl rfl rfl (by decide) rfl ?_
  refine GG_goto hk 2 dX4_arrange_64 (by decide) ?_
  refine GG_sub (L' := [(0, .ref (kh k + s)), (1, .int (l1 + 1))]) [1, 0] rfl ?_
  exact hk2 M1 (l1 + 1)
set_option maxRecDepth 20000 in
theorem ms_X4_arrange_10 {k : KT} {q : Mem} {s : Nat} {E0 : Nat → va_E} (h_s : okS s) (hk : CX k cX4_arrange RX4 3 none 2) (hq : RVS k s E0 q) (k2 : Mem → Nat → Int32 → Option Mem) (hk2 : ∀ (M : Mem) (l1 : Int32), GG k q (wS k s E0 M) 2 [(0, .ref (kh k + s)), (1, .int l1)] [] (k2 M s l1)) : ∀ (n : Nat) (M : Mem) (l1 : Int32) (l2 : Int32), GG k q (wS k s E0 M) 10 [(0, .ref (kh k + s)), (1, .int l1), (2, .int l2)] [] (f_X4_arrange_10 k2 n M s l1 l2) := by
  intro n
  induction n with
  | zero => intros; exact GG_none
  | succ n ih =>
    intro M l1 l2
    rw [f_X4_arrange_10]
    refine GG_iload_n hk (pc' := 11) 2 dX4_arrange_10 rfl rfl rfl ?_
    refine GG_if_le hk 54 (pc' := 14) dX4_arrange_11 rfl (by decide) (fun c1 => ?_) (fun c1 => ?_)
    · exact ms_X4_arrange_54 h_s hk hq k2 hk2 M l1 l2
    · refine GG_aload_n hk (pc' := 15) 0 dX4_arrange_14 rfl rfl rfl ?_
      refine GG_aload_n hk (pc' := 16) 0 dX4_arrange_15 rfl rfl rfl ?_
      refine HG_get hk h_s 4 (v := .ref (kh k + (s + 4))) (pc' := 19) tw_56 rfl (by decide) rfl dX4_arrange_16 rfl ?_
      refine GG_iload_n hk (pc' := 20) 2 dX4_arrange_19 rfl rfl rfl ?_
      refine GG_iconst hk (pc' := 21) 1 dX4_arrange_20 rfl rfl ?_
      refine GG_isub hk (pc' := 22) dX4_arrange_21 rfl ?_
      refine HG_iald hk h_s (j := 3) (pc' := 23) (by decide) rfl dX4_arrange_22 rfl (fun v2 e_v2 => ?_)
      refine HG_callVi hk h_s (st := []) (pc' := 26) mf_X4_rank mv_X4_rank rfl (cs_X4_rank _ _ _ E0 M s v2 h_s) (by omega) tw_40 rfl rfl (Nat.le_of_ble_eq_true rfl) dX4_arrange_23 rfl (fun z3 e_z3 => ?_)
      refine GG_aload_n hk (pc' := 27) 0 dX4_arrange_26 rfl rfl rfl ?_
      refine GG_iload_n hk (pc' := 28) 1 dX4_arrange_27 rfl rfl rfl ?_
      refine HG_callVi hk h_s (st := [.int z3.1]) (pc' := 31) mf_X4_rank mv_X4_rank rfl (cs_X4_rank _ _ _ E0 z3.2 s l1 h_s) (by omega) tw_40 rfl rfl (Nat.le_of_ble_eq_true rfl) dX4_arrange_28 rfl (fun z4 e_z4 => ?_)
      refine GG_icmp_le hk 54 (pc' := 34) dX4_arrange_31 rfl (by decide) (fun c5 => ?_) (fun c5 => ?_)
      · exact ms_X4_arrange_54 h_s hk hq k2 hk2 z4.2 l1 l2
      · refine GG_aload_n hk (pc' := 35) 0 dX4_arrange_34 rfl rfl rfl ?_
        refine HG_get hk h_s 4 (v := .ref (kh k + (s + 4))) (pc' := 38) tw_56 rfl (by decide) rfl dX4_arrange_35 rfl ?_
        refine GG_iload_n hk (pc' := 39) 2 dX4_arrange_38 rfl rfl rfl ?_
        refine GG_aload_n hk (pc' := 40) 0 dX4_arrange_39 rfl rfl rfl ?_
        refine HG_get hk h_s 4 (v := .ref (kh k + (s + 4))) (pc' := 43) tw_56 rfl (by decide) rfl dX4_arrange_40 rfl ?_
        refine GG_iload_n hk (pc' := 44) 2 dX4_arrange_43 rfl rfl rfl ?_
        refine GG_iconst hk (pc' := 45) 1 dX4_arrange_44 rfl rfl ?_
        refine GG_isub hk (pc' := 46) dX4_arrange_45 rfl ?_
        refine HG_iald hk h_s (j := 3) (pc' := 47) (by decide) rfl dX4_arrange_46 rfl (fun v6 e_v6 => ?_)
        refine HG_iast hk h_s (j := 3) (pc' := 48) (by decide) rfl dX4_arrange_47 rfl (fun M7 e_M7 => ?_)
        refine GG_iinc hk (pc' := 51) 2 (l2 + (-1)) [(2, .int (l2 + (-1))), (0, .ref (kh k + s)), (1, .int l1)] dX4_arrange_48 rfl rfl rfl (by decide) rfl ?_
        refine GG_goto hk 10 dX4_arrange_51 (by decide) ?_
        refine GG_sub (L' := [(0, .ref (kh k + s)), (1, .int l1), (2, .int (l2 + (-1)))]) [1, 2, 0] rfl ?_
        exact ih M7 l1 (l2 + (-1))
set_option maxRecDepth 20000 in
theorem ms_X4_arrange_2 {k : KT} {q : Mem} {s : Nat} {E0 : Nat → va_E} (h_s : okS s) (hk : CX k cX4_arrange RX4 3 none 2) (hq : RVS k s E0 q) : ∀ (n : Nat) (M : Mem) (l1 : Int32), GG k q (wS k s E0 M) 2 [(0, .ref (kh k + s)), (1, .int l1)] [] (f_X4_arrange_2  n M s l1) := by
  intro n
  induction n with
  | zero => intros; exact GG_none
  | succ n ih =>
    intro M l1
    rw [f_X4_arrange_2]
    refine GG_iload_n hk (pc' := 3) 1 dX4_arrange_2 rfl rfl rfl ?_
    refine GG_bipush hk (pc' := 5) 6 dX4_arrange_3 rfl rfl ?_
    refine GG_icmp_ge hk 67 (pc' := 8) dX4_arrange_5 rfl (by decide) (fun c1 => ?_) (fun c1 => ?_)
    · exact HG_vret hk hq dX4_arrange_67
    · refine GG_iload_n hk (pc' := 9) 1 dX4_arrange_8 rfl rfl rfl ?_
      refine GG_istore_n hk (pc' := 10) [(2, .int l1), (0, .ref (kh k + s)), (1, .int l1)] dX4_arrange_9 rfl rfl (by decide) rfl ?_
      refine GG_sub (L' := [(0, .ref (kh k + s)), (1, .int l1), (2, .int l1)]) [1, 2, 0] rfl ?_
      exact ms_X4_arrange_10 h_s hk hq (f_X4_arrange_2  n) ih 1000 M l1 l1
set_option maxRecDepth 20000 in
theorem ms_X4_arrange {k : KT} {q : Mem} {s : Nat} {E0 : Nat → va_E} (h_s : okS s) (hk : CX k cX4_arrange RX4 3 none 2) (hq : RVS k s E0 q) (M : Mem) : GG k q (wS k s E0 M) 0 [(0, .ref (kh k + s))] [] (f_X4_arrange M s) := by
  unfold f_X4_arrange
  refine GG_iconst hk (pc' := 1) 0 dX4_arrange_0 rfl rfl ?_
  refine GG_istore_n hk (pc' := 2) [(1, .int 0), (0, .ref (kh k + s))] dX4_arrange_1 rfl rfl (by decide) rfl ?_
  refine GG_sub (L' := [(0, .ref (kh k + s)), (1, .int 0)]) [1, 0] rfl ?_
  exact ms_X4_arrange_2 h_s hk hq  1000 M 0
theorem cs_X4_arrange (l : Launch) (C : DD) (a : Nat) (E0 : Nat → va_E) (M : Mem) (s : Nat) (h_s : okS s) : CVS l C a s E0 yX4_arrange cX4_arrange 3 2 [.ref (a + s)] M (f_X4_arrange M s) := by
  refine CVS_of RX4 (by decide +kernel) rfl (Nat.le_of_ble_eq_true rfl) (fun k q hk hq e1 e2 e3 => ?_)
  subst e1; subst e2; subst e3
  exact ms_X4_arrange h_s hk hq M

/-! SettingsInLayers$Scene.put(IIII)V -/
set_option maxRecDepth 20000 in
theorem ms_X4_put {k : KT} {q : Mem} {s : Nat} {E0 : Nat → va_E} (h_s : okS s) (hk : CX k cX4_put RX4 5 none 1) (hq : RVS k s E0 q) (M : Mem) (l1 : Int32) (l2 : Int32) (l3 : Int32) (l4 : Int32) : GG k q (wS k s E0 M) 0 [(0, .ref (kh k + s)), (1, .int l1), (2, .int l2), (3, .int l3), (4, .int l4)] [] (f_X4_put M s l1 l2 l3 l4) := by
  unfold f_X4_put
  refine GG_aload_n hk (pc' := 1) 0 dX4_put_0 rfl rfl rfl ?_
  refine HG_get hk h_s 5 (v := .ref (kh k + (s + 5))) (pc' := 4) tw_58 rfl (by decide) rfl dX4_put_1 rfl ?_
  refine GG_iload_n hk (pc' := 5) 1 dX4_put_4 rfl rfl rfl ?_
  refine GG_iload_n hk (pc' := 6) 2 dX4_put_5 rfl rfl rfl ?_
  refine HG_iast hk h_s (j := 4) (pc' := 7) (by decide) rfl dX4_put_6 rfl (fun M1 e_M1 => ?_)
  refine GG_aload_n hk (pc' := 8) 0 dX4_put_7 rfl rfl rfl ?_
  refine HG_get hk h_s 6 (v := .ref (kh k + (s + 6))) (pc' := 11) tw_62 rfl (by decide) rfl dX4_put_8 rfl ?_
  refine GG_iload_n hk (pc' := 12) 1 dX4_put_11 rfl rfl rfl ?_
  refine GG_iload_n hk (pc' := 13) 3 dX4_put_12 rfl rfl rfl ?_
  refine HG_iast hk h_s (j := 5) (pc' := 14) (by decide) rfl dX4_put_13 rfl (fun M2 e_M2 => ?_)
  refine GG_aload_n hk (pc' := 15) 0 dX4_put_14 rfl rfl rfl ?_
  refine HG_get hk h_s 7 (v := .ref (kh k + (s + 7))) (pc' := 18) tw_65 rfl (by decide) rfl dX4_put_15 rfl ?_
  refine GG_iload_n hk (pc' := 19) 1 dX4_put_18 rfl rfl rfl ?_
  refine GG_iload hk (pc' := 21) 4 dX4_put_19 rfl rfl ?_
  refine HG_iast hk h_s (j := 6) (pc' := 22) (by decide) rfl dX4_put_21 rfl (fun M3 e_M3 => ?_)
  exact HG_vret hk hq dX4_put_22
theorem cs_X4_put (l : Launch) (C : DD) (a : Nat) (E0 : Nat → va_E) (M : Mem) (s : Nat) (l1 : Int32) (l2 : Int32) (l3 : Int32) (l4 : Int32) (h_s : okS s) : CVS l C a s E0 yX4_put cX4_put 5 1 [.ref (a + s), .int l1, .int l2, .int l3, .int l4] M (f_X4_put M s l1 l2 l3 l4) := by
  refine CVS_of RX4 (by decide +kernel) rfl (Nat.le_of_ble_eq_true rfl) (fun k q hk hq e1 e2 e3 => ?_)
  subst e1; subst e2; subst e3
  exact ms_X4_put h_s hk hq M l1 l2 l3 l4

/-! SettingsInLayers$Scene.erase(I)V -/
set_option maxRecDepth 20000 in
theorem ms_X4_erase {k : KT} {q : Mem} {s : Nat} {E0 : Nat → va_E} (h_s : okS s) (hk : CX k cX4_erase RX4 2 none 2) (hq : RVS k s E0 q) (M : Mem) (l1 : Int32) : GG k q (wS k s E0 M) 0 [(0, .ref (kh k + s)), (1, .int l1)] [] (f_X4_erase M s l1) := by
  unfold f_X4_erase
  refine GG_aload_n hk (pc' := 1) 0 dX4_erase_0 rfl rfl rfl ?_
  refine GG_iload_n hk (pc' := 2) 1 dX4_erase_1 rfl rfl rfl ?_
  refine GG_iconst hk (pc' := 3) (-1) dX4_erase_2 rfl rfl ?_
  refine GG_iconst hk (pc' := 4) 0 dX4_erase_3 rfl rfl ?_
  refine GG_bipush hk (pc' := 6) (-9) dX4_erase_4 rfl rfl ?_
  refine HG_callVv hk h_s (st := []) (pc' := 9) mf_X4_put mv_X4_put rfl (cs_X4_put _ _ _ E0 M s l1 (-1) 0 (-9) h_s) (by omega) tw_32 rfl rfl (Nat.le_of_ble_eq_true rfl) dX4_erase_6 rfl (fun z1 e_z1 => ?_)
  exact HG_vret hk hq dX4_erase_9
theorem cs_X4_erase (l : Launch) (C : DD) (a : Nat) (E0 : Nat → va_E) (M : Mem) (s : Nat) (l1 : Int32) (h_s : okS s) : CVS l C a s E0 yX4_erase cX4_erase 2 2 [.ref (a + s), .int l1] M (f_X4_erase M s l1) := by
  refine CVS_of RX4 (by decide +kernel) rfl (Nat.le_of_ble_eq_true rfl) (fun k q hk hq e1 e2 e3 => ?_)
  subst e1; subst e2; subst e3
  exact ms_X4_erase h_s hk hq M l1
