/-! X9_luck -/
set_option maxRecDepth 100000 in
set_option maxHeartbeats 4000000 in
theorem sX9_luck_38 {G : Gx} {a : Int32 × HW} (C : Cx G cX9_luck RX9 6 6 136) (E : Rx G ρIW a (some .int)) {x1 : Int32} {x2 : Int32} {x3 : Int32} : ∀ (n : Nat) (w : HW) (x4 : Int32) (x5 : Int32), Sm G a 38 [(0, .ref (hB G + 0)), (1, .int x1), (2, .int x2), (3, .int x3), (4, .int x4), (5, .int x5)] [] w (fX9_luck_38 x1 x2 x3 n w x4 x5) := by
  intro n
  induction n with
  | zero => intro _ _ _; exact sm_none
  | succ n ih =>
    intro w x4 x5
    rw [fX9_luck_38]
    refine sm_iload C 5 rfl dX9_luck_38 ?_
    refine sm_iload_n C 2 rfl dX9_luck_40 rfl ?_
    refine sm_icmp_ge C dX9_luck_41 (tgt := 81) rfl (fun h_10 => ?_) (fun h_10 => ?_)
    · refine sm_aload_n C 0 rfl dX9_luck_44 rfl ?_
      refine sm_getR C fo_9_2 rfl wd115 kd_0 dX9_luck_45 (rv_0_2 w) (by decide) ?_
      refine sm_aload_n C 0 rfl dX9_luck_48 rfl ?_
      refine sm_getC C fo_9_10 rfl wd58 kd_0 dX9_luck_49 rfl (fun j_11 hj_11 => ?_)
      refine sm_iload_n C 1 rfl dX9_luck_52 rfl ?_
      refine sm_iload C 5 rfl dX9_luck_53 ?_
      refine sm_iadd C dX9_luck_55 ?_
      refine sm_cVW (As := [.ref (hB G + j_11), .int (x1 + x5)]) C cfX6_draw wd276 kd_4 rfl rfl rfl rfl rfl dX9_luck_56 (fun r h => mX6_draw hj_11 h) (fun w_13 => ?_)
      refine sm_aload_n C 0 rfl dX9_luck_59 rfl ?_
      refine sm_getR C fo_9_2 rfl wd115 kd_0 dX9_luck_60 (rv_0_2 w_13) (by decide) ?_
      refine sm_getR C fo_6_2 rfl wd133 kd_4 dX9_luck_63 (rv_4_2 w_13) (by decide) ?_
      refine sm_iload_n C 3 rfl dX9_luck_66 rfl ?_
      refine sm_iald C kd_7 dX9_luck_67 (fun h_14 => ?_)
      refine sm_iconst C ic_m1 dX9_luck_68 ?_
      refine sm_icmp_eq C dX9_luck_69 (tgt := 75) rfl (fun h_15 => ?_) (fun h_15 => ?_)
      · refine sm_iinc (lv1 := [(4, .int (x4 + 1)), (0, .ref (hB G + 0)), (1, .int x1), (2, .int x2), (3, .int x3), (5, .int x5)]) C 4 rfl (iv_1 _) dX9_luck_72 rfl rfl ?_
        refine sm_iinc (lv1 := [(5, .int (x5 + 1)), (4, .int (x4 + 1)), (0, .ref (hB G + 0)), (1, .int x1), (2, .int x2), (3, .int x3)]) C 5 rfl (iv_1 _) dX9_luck_75 rfl rfl ?_
        refine sm_goto C dX9_luck_78 (tgt := 38) rfl ?_
        refine sm_sub [2, 3, 4, 5, 1, 0] rfl ?_
        exact ih w_13 (x4 + 1) (x5 + 1)
      · refine sm_iinc (lv1 := [(5, .int (x5 + 1)), (0, .ref (hB G + 0)), (1, .int x1), (2, .int x2), (3, .int x3), (4, .int x4)]) C 5 rfl (iv_1 _) dX9_luck_75 rfl rfl ?_
        refine sm_goto C dX9_luck_78 (tgt := 38) rfl ?_
        refine sm_sub [1, 2, 3, 4, 5, 0] rfl ?_
        exact ih w_13 x4 (x5 + 1)
    · refine sm_iload C 4 rfl dX9_luck_81 ?_
      exact sm_iret C E rfl dX9_luck_83
set_option maxRecDepth 100000 in
set_option maxHeartbeats 4000000 in
theorem mX9_luck {b : Bx} {w : HW} {x1 : Int32} {x2 : Int32} {x3 : Int32} {a : Int32 × HW} (h : fX9_luck w x1 x2 x3 = some a) : Mt b yX9_luck cX9_luck 6 (some .int) 6 136 [.ref (bB b + 0), .int x1, .int x2, .int x3] w (some (.int a.1)) a.2 := by
  refine Mt.of ρIW h (by decide) (Nat.le_of_ble_eq_true rfl) (fun G hG C E => ?_)
  subst hG
  have C : Cx G cX9_luck RX9 6 6 136 := C
  change Sm G a 0 [(0, .ref (hB G + 0)), (1, .int x1), (2, .int x2), (3, .int x3)] [] w _
  unfold fX9_luck
  refine sm_iload_n C 1 rfl dX9_luck_0 rfl ?_
  refine sm_cSI (As := [.int x1]) C cfX9_isSeed wd275 rfl rfl rfl rfl dX9_luck_1 (fun r h => mX9_isSeed  h) (fun r_1 => ?_)
  refine sm_if_eq C dX9_luck_4 (tgt := 29) rfl (fun h_3 => ?_) (fun h_3 => ?_)
  · refine sm_iload_n C 2 rfl dX9_luck_7 rfl ?_
    refine sm_iconst C ic_1 dX9_luck_8 ?_
    refine sm_icmp_lt C dX9_luck_9 (tgt := 29) rfl (fun h_4 => ?_) (fun h_4 => ?_)
    · refine sm_iload_n C 2 rfl dX9_luck_12 rfl ?_
      refine sm_bipush C bp_20 dX9_luck_13 ?_
      refine sm_icmp_gt C dX9_luck_15 (tgt := 29) rfl (fun h_5 => ?_) (fun h_5 => ?_)
      · refine sm_aload_n C 0 rfl dX9_luck_18 rfl ?_
        refine sm_getC C fo_9_10 rfl wd58 kd_0 dX9_luck_19 rfl (fun j_6 hj_6 => ?_)
        refine sm_iload_n C 3 rfl dX9_luck_22 rfl ?_
        refine sm_cVI (As := [.int x3]) C cfX0_hasBill wd66 (kdC hj_6) rfl rfl rfl rfl rfl dX9_luck_23 (fun r h => mX0_hasBill hj_6 h) (fun r_7 => ?_)
        refine sm_if_ne C dX9_luck_26 (tgt := 32) rfl (fun h_9 => ?_) (fun h_9 => ?_)
        · refine sm_bipush C bp_m2 dX9_luck_29 ?_
          exact sm_iret C E rfl dX9_luck_31
        · refine sm_iconst C ic_0 dX9_luck_32 ?_
          refine sm_istore (lv1 := [(4, .int 0), (0, .ref (hB G + 0)), (1, .int x1), (2, .int x2), (3, .int x3)]) C dX9_luck_33 rfl rfl ?_
          refine sm_iconst C ic_0 dX9_luck_35 ?_
          refine sm_istore (lv1 := [(5, .int 0), (4, .int 0), (0, .ref (hB G + 0)), (1, .int x1), (2, .int x2), (3, .int x3)]) C dX9_luck_36 rfl rfl ?_
          refine sm_sub [2, 3, 4, 5, 1, 0] rfl ?_
          exact sX9_luck_38 C E FU w 0 0
      · refine sm_bipush C bp_m2 dX9_luck_29 ?_
        exact sm_iret C E rfl dX9_luck_31
    · refine sm_bipush C bp_m2 dX9_luck_29 ?_
      exact sm_iret C E rfl dX9_luck_31
  · refine sm_bipush C bp_m2 dX9_luck_29 ?_
    exact sm_iret C E rfl dX9_luck_31
/-! X9_rate -/
set_option maxRecDepth 100000 in
set_option maxHeartbeats 4000000 in
theorem mX9_rate {b : Bx} {w : HW} {x1 : Int32} {x2 : Int32} {a : Int32 × HW} (h : fX9_rate w x1 x2 = some a) : Mt b yX9_rate cX9_rate 4 (some .int) 1 21 [.ref (bB b + 0), .int x1, .int x2] w (some (.int a.1)) a.2 := by
  refine Mt.of ρIW h (by decide) (Nat.le_of_ble_eq_true rfl) (fun G hG C E => ?_)
  subst hG
  have C : Cx G cX9_rate RX9 4 1 21 := C
  change Sm G a 0 [(0, .ref (hB G + 0)), (1, .int x1), (2, .int x2)] [] w _
  unfold fX9_rate
  refine sm_aload_n C 0 rfl dX9_rate_0 rfl ?_
  refine sm_getC C fo_9_10 rfl wd58 kd_0 dX9_rate_1 rfl (fun j_1 hj_1 => ?_)
  refine sm_iload_n C 1 rfl dX9_rate_4 rfl ?_
  refine sm_cVI (As := [.int x1]) C cfX0_hasBill wd66 (kdC hj_1) rfl rfl rfl rfl rfl dX9_rate_5 (fun r h => mX0_hasBill hj_1 h) (fun r_2 => ?_)
  refine sm_if_eq C dX9_rate_8 (tgt := 18) rfl (fun h_4 => ?_) (fun h_4 => ?_)
  · refine sm_iload_n C 2 rfl dX9_rate_11 rfl ?_
    refine sm_cSI (As := [.int x2]) C cfX9_isWorth wd264 rfl rfl rfl rfl dX9_rate_12 (fun r h => mX9_isWorth  h) (fun r_5 => ?_)
    refine sm_if_ne C dX9_rate_15 (tgt := 21) rfl (fun h_7 => ?_) (fun h_7 => ?_)
    · refine sm_bipush C bp_m2 dX9_rate_18 ?_
      exact sm_iret C E rfl dX9_rate_20
    · refine sm_aload_n C 0 rfl dX9_rate_21 rfl ?_
      refine sm_getC C fo_9_10 rfl wd58 kd_0 dX9_rate_22 rfl (fun j_8 hj_8 => ?_)
      refine sm_getI C fo_0_14 rfl wd272 (kdC hj_8) dX9_rate_25 ?_
      refine sm_if_le C dX9_rate_28 (tgt := 34) rfl (fun h_9 => ?_) (fun h_9 => ?_)
      · refine sm_bipush C bp_m5 dX9_rate_31 ?_
        exact sm_iret C E rfl dX9_rate_33
      · refine sm_aload_n C 0 rfl dX9_rate_34 rfl ?_
        refine sm_getC C fo_9_10 rfl wd58 kd_0 dX9_rate_35 rfl (fun j_10 hj_10 => ?_)
        refine sm_getR C fo_0_12 rfl wd68 (kdC hj_10) dX9_rate_38 (rvC_12 hj_10 w) (nzC_5 hj_10) ?_
        refine sm_iload_n C 1 rfl dX9_rate_41 rfl ?_
        refine sm_iald C (kdC_5 hj_10) dX9_rate_42 (fun h_11 => ?_)
        refine sm_let (fun x3_12 => ?_)
        refine sm_istore_n (lv1 := [(3, .int x3_12), (0, .ref (hB G + 0)), (1, .int x1), (2, .int x2)]) C dX9_rate_43 rfl rfl rfl ?_
        refine sm_aload_n C 1 rfl dX9_rate_44 rfl ?_
        refine sm_getC C fo_9_10 rfl wd58 kd_0 dX9_rate_45 rfl (fun j_13 hj_13 => ?_)
        refine sm_getR C fo_0_12 rfl wd68 (kdC hj_13) dX9_rate_48 (rvC_12 hj_13 w) (nzC_5 hj_13) ?_
        refine sm_iload_n C 2 rfl dX9_rate_51 rfl ?_
        refine sm_iload_n C 3 rfl dX9_rate_52 rfl ?_
        refine sm_iast C (kdC_5 hj_13) dX9_rate_53 (fun h_14 w_15 => ?_)
        refine sm_iload_n C 0 rfl dX9_rate_54 rfl ?_
        exact sm_iret C E rfl dX9_rate_55
  · refine sm_bipush C bp_m2 dX9_rate_18 ?_
    exact sm_iret C E rfl dX9_rate_20
/-! X9_slotsInUse -/
set_option maxRecDepth 100000 in
set_option maxHeartbeats 4000000 in
theorem sX9_slotsInUse_4 {G : Gx} {a : Int32} {w : HW} (C : Cx G cX9_slotsInUse RX9 3 1 20) (E : Rx G (ρI w) a (some .int)) : ∀ (n : Nat) (x1 : Int32) (x2 : Int32), Sm G a 4 [(0, .ref (hB G + 0)), (1, .int x1), (2, .int x2)] [] w (fX9_slotsInUse_4 w n x1 x2) := by
  intro n
  induction n with
  | zero => intro _ _; exact sm_none
  | succ n ih =>
    intro x1 x2
    rw [fX9_slotsInUse_4]
    refine sm_iload_n C 2 rfl dX9_slotsInUse_4 rfl ?_
    refine sm_iconst C ic_4 dX9_slotsInUse_5 ?_
    refine sm_icmp_ge C dX9_slotsInUse_6 (tgt := 30) rfl (fun h_1 => ?_) (fun h_1 => ?_)
    · refine sm_aload_n C 0 rfl dX9_slotsInUse_9 rfl ?_
      refine sm_getR C fo_9_5 rfl wd230 kd_0 dX9_slotsInUse_10 (rv_0_5 w) (by decide) ?_
      refine sm_iload_n C 2 rfl dX9_slotsInUse_13 rfl ?_
      refine sm_aald C 5 (by decide) kd_19 dX9_slotsInUse_14 (fun h_2 => rvS w h_2) (fun h_2 => nzS h_2) (fun h_2 => ?_)
      refine sm_cVI (As := []) C cfX5_isThere wd231 (kdR (isS h_2)) rfl rfl rfl rfl rfl dX9_slotsInUse_15 (fun r h => mX5_isThere (isS h_2) h) (fun r_3 => ?_)
      refine sm_if_eq C dX9_slotsInUse_18 (tgt := 24) rfl (fun h_5 => ?_) (fun h_5 => ?_)
      · refine sm_iinc (lv1 := [(1, .int (x1 + 1)), (0, .ref (hB G + 0)), (2, .int x2)]) C 1 rfl (iv_1 _) dX9_slotsInUse_21 rfl rfl ?_
        refine sm_iinc (lv1 := [(2, .int (x2 + 1)), (1, .int (x1 + 1)), (0, .ref (hB G + 0))]) C 2 rfl (iv_1 _) dX9_slotsInUse_24 rfl rfl ?_
        refine sm_goto C dX9_slotsInUse_27 (tgt := 4) rfl ?_
        refine sm_sub [2, 1, 0] rfl ?_
        exact ih (x1 + 1) (x2 + 1)
      · refine sm_iinc (lv1 := [(2, .int (x2 + 1)), (0, .ref (hB G + 0)), (1, .int x1)]) C 2 rfl (iv_1 _) dX9_slotsInUse_24 rfl rfl ?_
        refine sm_goto C dX9_slotsInUse_27 (tgt := 4) rfl ?_
        refine sm_sub [1, 2, 0] rfl ?_
        exact ih x1 (x2 + 1)
    · refine sm_iload_n C 1 rfl dX9_slotsInUse_30 rfl ?_
      exact sm_iret C E rfl dX9_slotsInUse_31
set_option maxRecDepth 100000 in
set_option maxHeartbeats 4000000 in
theorem mX9_slotsInUse {b : Bx} {w : HW} {a : Int32} (h : fX9_slotsInUse w = some a) : Mt b yX9_slotsInUse cX9_slotsInUse 3 (some .int) 1 20 [.ref (bB b + 0)] w (some (.int a)) w := by
  refine Mt.of (ρI w) h (by decide) (Nat.le_of_ble_eq_true rfl) (fun G hG C E => ?_)
  subst hG
  have C : Cx G cX9_slotsInUse RX9 3 1 20 := C
  change Sm G a 0 [(0, .ref (hB G + 0))] [] w _
  unfold fX9_slotsInUse
  refine sm_iconst C ic_0 dX9_slotsInUse_0 ?_
  refine sm_istore_n (lv1 := [(1, .int 0), (0, .ref (hB G + 0))]) C dX9_slotsInUse_1 rfl rfl rfl ?_
  refine sm_iconst C ic_0 dX9_slotsInUse_2 ?_
  refine sm_istore_n (lv1 := [(2, .int 0), (1, .int 0), (0, .ref (hB G + 0))]) C dX9_slotsInUse_3 rfl rfl rfl ?_
  refine sm_sub [2, 1, 0] rfl ?_
  exact sX9_slotsInUse_4 C E FU 0 0
/-! X9_count -/
set_option maxRecDepth 100000 in
set_option maxHeartbeats 4000000 in
theorem mX9_count {b : Bx} {w : HW} {x1 : Int32} {a : Int32} (h : fX9_count w x1 = some a) : Mt b yX9_count cX9_count 2 (some .int) 2 42 [.ref (bB b + 0), .int x1] w (some (.int a)) w := by
  refine Mt.of (ρI w) h (by decide) (Nat.le_of_ble_eq_true rfl) (fun G hG C E => ?_)
  subst hG
  have C : Cx G cX9_count RX9 2 2 42 := C
  change Sm G a 0 [(0, .ref (hB G + 0)), (1, .int x1)] [] w _
  unfold fX9_count
  refine sm_iload_n C 1 rfl dX9_count_0 rfl ?_
  refine sm_spl (P := x1 = 0) (fun h_1 => ?_) (fun h_1 => ?_)
  · refine sm_tabIn C dX9_count_1 (by rw [h_1]; decide) (by rw [h_1]; decide) (off := 55) (by rw [h_1]; decide +kernel) (tgt := 56) rfl ?_
    refine sm_aload_n C 0 rfl dX9_count_56 rfl ?_
    refine sm_getC C fo_9_10 rfl wd58 kd_0 dX9_count_57 rfl (fun j_2 hj_2 => ?_)
    refine sm_getI C fo_0_1 rfl wd118 (kdC hj_2) dX9_count_60 ?_
    exact sm_iret C E rfl dX9_count_63
  refine sm_spl (P := x1 = 1) (fun h_3 => ?_) (fun h_3 => ?_)
  · refine sm_tabIn C dX9_count_1 (by rw [h_3]; decide) (by rw [h_3]; decide) (off := 63) (by rw [h_3]; decide +kernel) (tgt := 64) rfl ?_
    refine sm_aload_n C 0 rfl dX9_count_64 rfl ?_
    refine sm_getC C fo_9_10 rfl wd58 kd_0 dX9_count_65 rfl (fun j_4 hj_4 => ?_)
    refine sm_getI C fo_0_2 rfl wd278 (kdC hj_4) dX9_count_68 ?_
    exact sm_iret C E rfl dX9_count_71
  refine sm_spl (P := x1 = 2) (fun h_5 => ?_) (fun h_5 => ?_)
  · refine sm_tabIn C dX9_count_1 (by rw [h_5]; decide) (by rw [h_5]; decide) (off := 71) (by rw [h_5]; decide +kernel) (tgt := 72) rfl ?_
    refine sm_aload_n C 0 rfl dX9_count_72 rfl ?_
    refine sm_getC C fo_9_10 rfl wd58 kd_0 dX9_count_73 rfl (fun j_6 hj_6 => ?_)
    refine sm_getI C fo_0_3 rfl wd119 (kdC hj_6) dX9_count_76 ?_
    exact sm_iret C E rfl dX9_count_79
  refine sm_spl (P := x1 = 3) (fun h_7 => ?_) (fun h_7 => ?_)
  · refine sm_tabIn C dX9_count_1 (by rw [h_7]; decide) (by rw [h_7]; decide) (off := 79) (by rw [h_7]; decide +kernel) (tgt := 80) rfl ?_
    refine sm_aload_n C 0 rfl dX9_count_80 rfl ?_
    refine sm_getC C fo_9_10 rfl wd58 kd_0 dX9_count_81 rfl (fun j_8 hj_8 => ?_)
    refine sm_getI C fo_0_4 rfl wd266 (kdC hj_8) dX9_count_84 ?_
    exact sm_iret C E rfl dX9_count_87
  refine sm_spl (P := x1 = 4) (fun h_9 => ?_) (fun h_9 => ?_)
  · refine sm_tabIn C dX9_count_1 (by rw [h_9]; decide) (by rw [h_9]; decide) (off := 87) (by rw [h_9]; decide +kernel) (tgt := 88) rfl ?_
    refine sm_aload_n C 0 rfl dX9_count_88 rfl ?_
    refine sm_getC C fo_9_10 rfl wd58 kd_0 dX9_count_89 rfl (fun j_10 hj_10 => ?_)
    refine sm_getI C fo_0_6 rfl wd206 (kdC hj_10) dX9_count_92 ?_
    exact sm_iret C E rfl dX9_count_95
  refine sm_spl (P := x1 = 5) (fun h_11 => ?_) (fun h_11 => ?_)
  · refine sm_tabIn C dX9_count_1 (by rw [h_11]; decide) (by rw [h_11]; decide) (off := 95) (by rw [h_11]; decide +kernel) (tgt := 96) rfl ?_
    refine sm_aload_n C 0 rfl dX9_count_96 rfl ?_
    refine sm_getC C fo_9_10 rfl wd58 kd_0 dX9_count_97 rfl (fun j_12 hj_12 => ?_)
    refine sm_getI C fo_0_10 rfl wd120 (kdC hj_12) dX9_count_100 ?_
    exact sm_iret C E rfl dX9_count_103
  refine sm_spl (P := x1 = 6) (fun h_13 => ?_) (fun h_13 => ?_)
  · refine sm_tabIn C dX9_count_1 (by rw [h_13]; decide) (by rw [h_13]; decide) (off := 103) (by rw [h_13]; decide +kernel) (tgt := 104) rfl ?_
    refine sm_aload_n C 0 rfl dX9_count_104 rfl ?_
    refine sm_getC C fo_9_10 rfl wd58 kd_0 dX9_count_105 rfl (fun j_14 hj_14 => ?_)
    refine sm_getI C fo_0_14 rfl wd272 (kdC hj_14) dX9_count_108 ?_
    exact sm_iret C E rfl dX9_count_111
  refine sm_spl (P := x1 = 7) (fun h_15 => ?_) (fun h_15 => ?_)
  · refine sm_tabIn C dX9_count_1 (by rw [h_15]; decide) (by rw [h_15]; decide) (off := 111) (by rw [h_15]; decide +kernel) (tgt := 112) rfl ?_
    refine sm_aload_n C 0 rfl dX9_count_112 rfl ?_
    refine sm_getC C fo_9_10 rfl wd58 kd_0 dX9_count_113 rfl (fun j_16 hj_16 => ?_)
    refine sm_getI C fo_0_0 rfl wd59 (kdC hj_16) dX9_count_116 ?_
    exact sm_iret C E rfl dX9_count_119
  refine sm_spl (P := x1 = 8) (fun h_17 => ?_) (fun h_17 => ?_)
  · refine sm_tabIn C dX9_count_1 (by rw [h_17]; decide) (by rw [h_17]; decide) (off := 119) (by rw [h_17]; decide +kernel) (tgt := 120) rfl ?_
    refine sm_aload_n C 0 rfl dX9_count_120 rfl ?_
    refine sm_getR C fo_9_0 rfl wd2 kd_0 dX9_count_121 (rv_0_0 w) (by decide) ?_
    refine sm_getI C fo_8_1 rfl wd3 kd_1 dX9_count_124 ?_
    exact sm_iret C E rfl dX9_count_127
  refine sm_spl (P := x1 = 9) (fun h_18 => ?_) (fun h_18 => ?_)
  · refine sm_tabIn C dX9_count_1 (by rw [h_18]; decide) (by rw [h_18]; decide) (off := 127) (by rw [h_18]; decide +kernel) (tgt := 128) rfl ?_
    refine sm_aload_n C 0 rfl dX9_count_128 rfl ?_
    refine sm_cVI (As := []) C cfX9_slotsInUse wd279 kd_0 rfl rfl rfl rfl rfl dX9_count_129 (fun r h => mX9_slotsInUse  h) (fun r_19 => ?_)
    exact sm_iret C E rfl dX9_count_132
  refine sm_tabOut C dX9_count_1 (tab_out10 h_1 h_3 h_5 h_7 h_9 h_11 h_13 h_15 h_17 h_18) (tgt := 133) rfl ?_
  refine sm_iconst C ic_m1 dX9_count_133 ?_
  exact sm_iret C E rfl dX9_count_134
/-! X9_hasImage -/
set_option maxRecDepth 100000 in
set_option maxHeartbeats 4000000 in
theorem mX9_hasImage {b : Bx} {w : HW} {x0 : Int32} {a : Int32} (h : fX9_hasImage w x0 = some a) : Mt b yX9_hasImage cX9_hasImage 1 (some .boolean) 0 0 [.int x0] w (some (.int a)) w := by
  refine Mt.of (ρI w) h (by decide) (Nat.le_of_ble_eq_true rfl) (fun G hG C E => ?_)
  subst hG
  have C : Cx G cX9_hasImage RX9 1 0 0 := C
  change Sm G a 0 [(0, .int x0)] [] w _
  unfold fX9_hasImage
  refine sm_iload_n C 0 rfl dX9_hasImage_0 rfl ?_
  refine sm_if_lt C dX9_hasImage_1 (tgt := 13) rfl (fun h_1 => ?_) (fun h_1 => ?_)
  · refine sm_iload_n C 0 rfl dX9_hasImage_4 rfl ?_
    refine sm_iconst C ic_3 dX9_hasImage_5 ?_
    refine sm_icmp_ge C dX9_hasImage_6 (tgt := 13) rfl (fun h_2 => ?_) (fun h_2 => ?_)
    · refine sm_iconst C ic_1 dX9_hasImage_9 ?_
      refine sm_goto C dX9_hasImage_10 (tgt := 14) rfl ?_
      exact sm_zret C E rfl rfl dX9_hasImage_14
    · refine sm_iconst C ic_0 dX9_hasImage_13 ?_
      exact sm_zret C E rfl rfl dX9_hasImage_14
  · refine sm_iconst C ic_0 dX9_hasImage_13 ?_
    exact sm_zret C E rfl rfl dX9_hasImage_14
/-! X0_becomeLike -/
set_option maxRecDepth 100000 in
set_option maxHeartbeats 4000000 in
theorem mX0_becomeLike {b : Bx} {w : HW} {k0 : Nat} {k1 : Nat} (hk0 : isC k0 = true) (hk1 : isC k1 = true) {a : HW} (h : fX0_becomeLike w k0 k1 = some a) : Mt b yX0_becomeLike cX0_becomeLike 2 (none) 1 68 [.ref (bB b + k0), .ref (bB b + k1)] w none a := by
  refine Mt.of ρW h (by decide) (Nat.le_of_ble_eq_true rfl) (fun G hG C E => ?_)
  subst hG
  have C : Cx G cX0_becomeLike RX0 2 1 68 := C
  change Sm G a 0 [(0, .ref (hB G + k0)), (1, .ref (hB G + k1))] [] w _
  unfold fX0_becomeLike
  refine sm_aload_n C 0 rfl dX0_becomeLike_0 rfl ?_
  refine sm_aload_n C 1 rfl dX0_becomeLike_1 rfl ?_
  refine sm_getI C fo_0_0 rfl wd5 (kdC hk1) dX0_becomeLike_2 ?_
  refine sm_putI C fo_0_0 rfl wd5 (kdC hk0) rfl dX0_becomeLike_5 (fun w_1 => ?_)
  refine sm_aload_n C 0 rfl dX0_becomeLike_8 rfl ?_
  refine sm_aload_n C 1 rfl dX0_becomeLike_9 rfl ?_
  refine sm_getI C fo_0_1 rfl wd6 (kdC hk1) dX0_becomeLike_10 ?_
  refine sm_putI C fo_0_1 rfl wd6 (kdC hk0) rfl dX0_becomeLike_13 (fun w_2 => ?_)
  refine sm_aload_n C 0 rfl dX0_becomeLike_16 rfl ?_
  refine sm_aload_n C 1 rfl dX0_becomeLike_17 rfl ?_
  refine sm_getI C fo_0_2 rfl wd7 (kdC hk1) dX0_becomeLike_18 ?_
  refine sm_putI C fo_0_2 rfl wd7 (kdC hk0) rfl dX0_becomeLike_21 (fun w_3 => ?_)
  refine sm_aload_n C 0 rfl dX0_becomeLike_24 rfl ?_
  refine sm_aload_n C 1 rfl dX0_becomeLike_25 rfl ?_
  refine sm_getI C fo_0_3 rfl wd8 (kdC hk1) dX0_becomeLike_26 ?_
  refine sm_putI C fo_0_3 rfl wd8 (kdC hk0) rfl dX0_becomeLike_29 (fun w_4 => ?_)
  refine sm_aload_n C 0 rfl dX0_becomeLike_32 rfl ?_
  refine sm_aload_n C 1 rfl dX0_becomeLike_33 rfl ?_
  refine sm_getI C fo_0_4 rfl wd9 (kdC hk1) dX0_becomeLike_34 ?_
  refine sm_putI C fo_0_4 rfl wd9 (kdC hk0) rfl dX0_becomeLike_37 (fun w_5 => ?_)
  refine sm_aload_n C 0 rfl dX0_becomeLike_40 rfl ?_
  refine sm_aload_n C 1 rfl dX0_becomeLike_41 rfl ?_
  refine sm_getI C fo_0_5 rfl wd10 (kdC hk1) dX0_becomeLike_42 ?_
  refine sm_putI C fo_0_5 rfl wd10 (kdC hk0) rfl dX0_becomeLike_45 (fun w_6 => ?_)
  refine sm_aload_n C 0 rfl dX0_becomeLike_48 rfl ?_
  refine sm_aload_n C 1 rfl dX0_becomeLike_49 rfl ?_
  refine sm_getI C fo_0_6 rfl wd11 (kdC hk1) dX0_becomeLike_50 ?_
  refine sm_putI C fo_0_6 rfl wd11 (kdC hk0) rfl dX0_becomeLike_53 (fun w_7 => ?_)
  refine sm_aload_n C 0 rfl dX0_becomeLike_56 rfl ?_
  refine sm_aload_n C 1 rfl dX0_becomeLike_57 rfl ?_
  refine sm_getI C fo_0_10 rfl wd12 (kdC hk1) dX0_becomeLike_58 ?_
  refine sm_putI C fo_0_10 rfl wd12 (kdC hk0) rfl dX0_becomeLike_61 (fun w_8 => ?_)
  refine sm_aload_n C 0 rfl dX0_becomeLike_64 rfl ?_
  refine sm_aload_n C 1 rfl dX0_becomeLike_65 rfl ?_
  refine sm_getI C fo_0_14 rfl wd13 (kdC hk1) dX0_becomeLike_66 ?_
  refine sm_putI C fo_0_14 rfl wd13 (kdC hk0) rfl dX0_becomeLike_69 (fun w_9 => ?_)
  refine sm_aload_n C 1 rfl dX0_becomeLike_72 rfl ?_
  refine sm_getR C fo_0_7 rfl wd73 (kdC hk1) dX0_becomeLike_73 (rvC_7 hk1 w_9) (nzC_1 hk1) ?_
  refine sm_iconst C ic_0 dX0_becomeLike_76 ?_
  refine sm_aload_n C 0 rfl dX0_becomeLike_77 rfl ?_
  refine sm_getR C fo_0_7 rfl wd73 (kdC hk0) dX0_becomeLike_78 (rvC_7 hk0 w_9) (nzC_1 hk0) ?_
  refine sm_iconst C ic_0 dX0_becomeLike_81 ?_
  refine sm_bipush C bp_8 dX0_becomeLike_82 ?_
  refine sm_copyI C (kdC_1 hk1) (kdC_1 hk0) wd280 ac_na ac_st ac_in rfl dX0_becomeLike_84 (fun w_10 => ?_)
  refine sm_aload_n C 1 rfl dX0_becomeLike_87 rfl ?_
  refine sm_getR C fo_0_8 rfl wd75 (kdC hk1) dX0_becomeLike_88 (rvC_8 hk1 w_10) (nzC_2 hk1) ?_
  refine sm_iconst C ic_0 dX0_becomeLike_91 ?_
  refine sm_aload_n C 0 rfl dX0_becomeLike_92 rfl ?_
  refine sm_getR C fo_0_8 rfl wd75 (kdC hk0) dX0_becomeLike_93 (rvC_8 hk0 w_10) (nzC_2 hk0) ?_
  refine sm_iconst C ic_0 dX0_becomeLike_96 ?_
  refine sm_bipush C bp_8 dX0_becomeLike_97 ?_
  refine sm_copyI C (kdC_2 hk1) (kdC_2 hk0) wd280 ac_na ac_st ac_in rfl dX0_becomeLike_99 (fun w_11 => ?_)
  refine sm_aload_n C 1 rfl dX0_becomeLike_102 rfl ?_
  refine sm_getR C fo_0_9 rfl wd74 (kdC hk1) dX0_becomeLike_103 (rvC_9 hk1 w_11) (nzC_3 hk1) ?_
  refine sm_iconst C ic_0 dX0_becomeLike_106 ?_
  refine sm_aload_n C 0 rfl dX0_becomeLike_107 rfl ?_
  refine sm_getR C fo_0_9 rfl wd74 (kdC hk0) dX0_becomeLike_108 (rvC_9 hk0 w_11) (nzC_3 hk0) ?_
  refine sm_iconst C ic_0 dX0_becomeLike_111 ?_
  refine sm_bipush C bp_8 dX0_becomeLike_112 ?_
  refine sm_copyI C (kdC_3 hk1) (kdC_3 hk0) wd280 ac_na ac_st ac_in rfl dX0_becomeLike_114 (fun w_12 => ?_)
  refine sm_aload_n C 1 rfl dX0_becomeLike_117 rfl ?_
  refine sm_getR C fo_0_11 rfl wd135 (kdC hk1) dX0_becomeLike_118 (rvC_11 hk1 w_12) (nzC_4 hk1) ?_
  refine sm_iconst C ic_0 dX0_becomeLike_121 ?_
  refine sm_aload_n C 0 rfl dX0_becomeLike_122 rfl ?_
  refine sm_getR C fo_0_11 rfl wd135 (kdC hk0) dX0_becomeLike_123 (rvC_11 hk0 w_12) (nzC_4 hk0) ?_
  refine sm_iconst C ic_0 dX0_becomeLike_126 ?_
  refine sm_bipush C bp_8 dX0_becomeLike_127 ?_
  refine sm_copyI C (kdC_4 hk1) (kdC_4 hk0) wd280 ac_na ac_st ac_in rfl dX0_becomeLike_129 (fun w_13 => ?_)
  refine sm_aload_n C 1 rfl dX0_becomeLike_132 rfl ?_
  refine sm_getR C fo_0_12 rfl wd136 (kdC hk1) dX0_becomeLike_133 (rvC_12 hk1 w_13) (nzC_5 hk1) ?_
  refine sm_iconst C ic_0 dX0_becomeLike_136 ?_
  refine sm_aload_n C 0 rfl dX0_becomeLike_137 rfl ?_
  refine sm_getR C fo_0_12 rfl wd136 (kdC hk0) dX0_becomeLike_138 (rvC_12 hk0 w_13) (nzC_5 hk0) ?_
  refine sm_iconst C ic_0 dX0_becomeLike_141 ?_
  refine sm_bipush C bp_8 dX0_becomeLike_142 ?_
  refine sm_copyI C (kdC_5 hk1) (kdC_5 hk0) wd280 ac_na ac_st ac_in rfl dX0_becomeLike_144 (fun w_14 => ?_)
  refine sm_aload_n C 1 rfl dX0_becomeLike_147 rfl ?_
  refine sm_getR C fo_0_13 rfl wd178 (kdC hk1) dX0_becomeLike_148 (rvC_13 hk1 w_14) (nzC_6 hk1) ?_
  refine sm_iconst C ic_0 dX0_becomeLike_151 ?_
  refine sm_aload_n C 0 rfl dX0_becomeLike_152 rfl ?_
  refine sm_getR C fo_0_13 rfl wd178 (kdC hk0) dX0_becomeLike_153 (rvC_13 hk0 w_14) (nzC_6 hk0) ?_
  refine sm_iconst C ic_0 dX0_becomeLike_156 ?_
  refine sm_bipush C bp_8 dX0_becomeLike_157 ?_
  refine sm_copyI C (kdC_6 hk1) (kdC_6 hk0) wd280 ac_na ac_st ac_in rfl dX0_becomeLike_159 (fun w_15 => ?_)
  refine sm_aload_n C 1 rfl dX0_becomeLike_162 rfl ?_
  refine sm_getR C fo_0_15 rfl wd123 (kdC hk1) dX0_becomeLike_163 (rvC_15 hk1 w_15) (nzC_7 hk1) ?_
  refine sm_iconst C ic_0 dX0_becomeLike_166 ?_
  refine sm_aload_n C 0 rfl dX0_becomeLike_167 rfl ?_
  refine sm_getR C fo_0_15 rfl wd123 (kdC hk0) dX0_becomeLike_168 (rvC_15 hk0 w_15) (nzC_7 hk0) ?_
  refine sm_iconst C ic_0 dX0_becomeLike_171 ?_
  refine sm_bipush C bp_20 dX0_becomeLike_172 ?_
  refine sm_copyI C (kdC_7 hk1) (kdC_7 hk0) wd280 ac_na ac_st ac_in rfl dX0_becomeLike_174 (fun w_16 => ?_)
  refine sm_aload_n C 1 rfl dX0_becomeLike_177 rfl ?_
  refine sm_getR C fo_0_16 rfl wd122 (kdC hk1) dX0_becomeLike_178 (rvC_16 hk1 w_16) (nzC_8 hk1) ?_
  refine sm_iconst C ic_0 dX0_becomeLike_181 ?_
  refine sm_aload_n C 0 rfl dX0_becomeLike_182 rfl ?_
  refine sm_getR C fo_0_16 rfl wd122 (kdC hk0) dX0_becomeLike_183 (rvC_16 hk0 w_16) (nzC_8 hk0) ?_
  refine sm_iconst C ic_0 dX0_becomeLike_186 ?_
  refine sm_bipush C bp_20 dX0_becomeLike_187 ?_
  refine sm_copyI C (kdC_8 hk1) (kdC_8 hk0) wd280 ac_na ac_st ac_in rfl dX0_becomeLike_189 (fun w_17 => ?_)
  exact sm_vret C E rfl dX0_becomeLike_192
/-! X9_image -/
set_option maxRecDepth 100000 in
set_option maxHeartbeats 4000000 in
theorem mX9_image {b : Bx} {w : HW} {x1 : Int32} {a : Int32 × HW} (h : fX9_image w x1 = some a) : Mt b yX9_image cX9_image 2 (some .int) 2 89 [.ref (bB b + 0), .int x1] w (some (.int a.1)) a.2 := by
  refine Mt.of ρIW h (by decide) (Nat.le_of_ble_eq_true rfl) (fun G hG C E => ?_)
  subst hG
  have C : Cx G cX9_image RX9 2 2 89 := C
  change Sm G a 0 [(0, .ref (hB G + 0)), (1, .int x1)] [] w _
  unfold fX9_image
  refine sm_iload_n C 1 rfl dX9_image_0 rfl ?_
  refine sm_cSI (As := [.int x1]) C cfX9_hasImage wd281 rfl rfl rfl rfl dX9_image_1 (fun r h => mX9_hasImage  h) (fun r_1 => ?_)
  refine sm_if_ne C dX9_image_4 (tgt := 10) rfl (fun h_3 => ?_) (fun h_3 => ?_)
  · refine sm_bipush C bp_m2 dX9_image_7 ?_
    exact sm_iret C E rfl dX9_image_9
  · refine sm_aload_n C 0 rfl dX9_image_10 rfl ?_
    refine sm_getR C fo_9_8 rfl wd282 kd_0 dX9_image_11 (rv_0_8 w) (by decide) ?_
    refine sm_iload_n C 1 rfl dX9_image_14 rfl ?_
    refine sm_aald C 6 (by decide) kd_24 dX9_image_15 (fun h_4 => rvI w h_4) (fun h_4 => nzI h_4) (fun h_4 => ?_)
    refine sm_aload_n C 0 rfl dX9_image_16 rfl ?_
    refine sm_getC C fo_9_10 rfl wd58 kd_0 dX9_image_17 rfl (fun j_5 hj_5 => ?_)
    refine sm_cVW (As := [.ref (hB G + j_5)]) C cfX0_becomeLike wd283 (kdC (isI h_4)) rfl rfl rfl rfl rfl dX9_image_20 (fun r h => mX0_becomeLike (isI h_4) hj_5 h) (fun w_7 => ?_)
    refine sm_aload_n C 0 rfl dX9_image_23 rfl ?_
    refine sm_getR C fo_9_9 rfl wd284 kd_0 dX9_image_24 (rv_0_9 w_7) (by decide) ?_
    refine sm_iload_n C 1 rfl dX9_image_27 rfl ?_
    refine sm_iconst C ic_1 dX9_image_28 ?_
    refine sm_zast C kd_25 dX9_image_29 (fun h_8 w_9 => ?_)
    refine sm_iconst C ic_0 dX9_image_30 ?_
    exact sm_iret C E rfl dX9_image_31
/-! X9_back -/
set_option maxRecDepth 100000 in
set_option maxHeartbeats 4000000 in
theorem mX9_back {b : Bx} {w : HW} {x1 : Int32} {a : Int32 × HW} (h : fX9_back w x1 = some a) : Mt b yX9_back cX9_back 2 (some .int) 2 89 [.ref (bB b + 0), .int x1] w (some (.int a.1)) a.2 := by
  refine Mt.of ρIW h (by decide) (Nat.le_of_ble_eq_true rfl) (fun G hG C E => ?_)
  subst hG
  have C : Cx G cX9_back RX9 2 2 89 := C
  change Sm G a 0 [(0, .ref (hB G + 0)), (1, .int x1)] [] w _
  unfold fX9_back
  refine sm_iload_n C 1 rfl dX9_back_0 rfl ?_
  refine sm_cSI (As := [.int x1]) C cfX9_hasImage wd281 rfl rfl rfl rfl dX9_back_1 (fun r h => mX9_hasImage  h) (fun r_1 => ?_)
  refine sm_if_ne C dX9_back_4 (tgt := 10) rfl (fun h_3 => ?_) (fun h_3 => ?_)
  · refine sm_bipush C bp_m2 dX9_back_7 ?_
    exact sm_iret C E rfl dX9_back_9
  · refine sm_aload_n C 0 rfl dX9_back_10 rfl ?_
    refine sm_getR C fo_9_9 rfl wd284 kd_0 dX9_back_11 (rv_0_9 w) (by decide) ?_
    refine sm_iload_n C 1 rfl dX9_back_14 rfl ?_
    refine sm_zald C kd_25 dX9_back_15 (fun h_4 => ?_)
    refine sm_if_ne C dX9_back_16 (tgt := 22) rfl (fun h_5 => ?_) (fun h_5 => ?_)
    · refine sm_bipush C bp_m6 dX9_back_19 ?_
      exact sm_iret C E rfl dX9_back_21
    · refine sm_aload_n C 0 rfl dX9_back_22 rfl ?_
      refine sm_getC C fo_9_10 rfl wd58 kd_0 dX9_back_23 rfl (fun j_6 hj_6 => ?_)
      refine sm_aload_n C 0 rfl dX9_back_26 rfl ?_
      refine sm_getR C fo_9_8 rfl wd282 kd_0 dX9_back_27 (rv_0_8 w) (by decide) ?_
      refine sm_iload_n C 1 rfl dX9_back_30 rfl ?_
      refine sm_aald C 6 (by decide) kd_24 dX9_back_31 (fun h_7 => rvI w h_7) (fun h_7 => nzI h_7) (fun h_7 => ?_)
      refine sm_cVW (As := [.ref (hB G + (52 + 9 * ix x1))]) C cfX0_becomeLike wd283 (kdC hj_6) rfl rfl rfl rfl rfl dX9_back_32 (fun r h => mX0_becomeLike hj_6 (isI h_7) h) (fun w_9 => ?_)
      refine sm_iconst C ic_0 dX9_back_35 ?_
      exact sm_iret C E rfl dX9_back_36
/-! X5_begin -/
set_option maxRecDepth 100000 in
set_option maxHeartbeats 4000000 in
theorem sX5_begin_12 {G : Gx} {a : HW} (C : Cx G cX5_begin RX5 4 0 0) (E : Rx G ρW a (none)) {k0 : Nat} (hk0 : isR k0 = true) : ∀ (n : Nat) (w : HW) (x3 : Int32), Sm G a 12 [(0, .ref (hB G + k0)), (3, .int x3)] [] w (fX5_begin_12 k0 n w x3) := by
  intro n
  induction n with
  | zero => intro _ _; exact sm_none
  | succ n ih =>
    intro w x3
    rw [fX5_begin_12]
    refine sm_iload_n C 1 rfl dX5_begin_12 rfl ?_
    refine sm_bipush C bp_60 dX5_begin_13 ?_
    refine sm_icmp_ge C dX5_begin_15 (tgt := 31) rfl (fun h_3 => ?_) (fun h_3 => ?_)
    · refine sm_aload_n C 0 rfl dX5_begin_18 rfl ?_
      refine sm_getR C fo_5_0 rfl wd286 (kdR hk0) dX5_begin_19 (rvR_0 hk0 w) (nzR_1 hk0) ?_
      refine sm_iload_n C 1 rfl dX5_begin_22 rfl ?_
      refine sm_lconst C lc_0 dX5_begin_23 ?_
      refine sm_last C (kdR_1 hk0) dX5_begin_24 (fun h_4 w_5 => ?_)
      refine sm_iinc (lv1 := [(3, .int (x3 + 1)), (0, .ref (hB G + k0))]) C 1 rfl (iv_1 _) dX5_begin_25 rfl rfl ?_
      refine sm_goto C dX5_begin_28 (tgt := 12) rfl ?_
      refine sm_sub [1, 0] rfl ?_
      exact ih w_5 (x3 + 1)
    · exact sm_vret C E rfl dX5_begin_31
set_option maxRecDepth 100000 in
set_option maxHeartbeats 4000000 in
theorem mX5_begin {b : Bx} {w : HW} {k0 : Nat} {x1 : Int32} {x2 : Int32} (hk0 : isR k0 = true) {a : HW} (h : fX5_begin w k0 x1 x2 = some a) : Mt b yX5_begin cX5_begin 4 (none) 0 0 [.ref (bB b + k0), .int x1, .int x2] w none a := by
  refine Mt.of ρW h (by decide) (Nat.le_of_ble_eq_true rfl) (fun G hG C E => ?_)
  subst hG
  have C : Cx G cX5_begin RX5 4 0 0 := C
  change Sm G a 0 [(0, .ref (hB G + k0)), (1, .int x1), (2, .int x2)] [] w _
  unfold fX5_begin
  refine sm_aload_n C 0 rfl dX5_begin_0 rfl ?_
  refine sm_iload_n C 1 rfl dX5_begin_1 rfl ?_
  refine sm_putI C fo_5_1 rfl wd214 (kdR hk0) rfl dX5_begin_2 (fun w_1 => ?_)
  refine sm_aload_n C 0 rfl dX5_begin_5 rfl ?_
  refine sm_iload_n C 2 rfl dX5_begin_6 rfl ?_
  refine sm_putI C fo_5_2 rfl wd285 (kdR hk0) rfl dX5_begin_7 (fun w_2 => ?_)
  refine sm_iconst C ic_0 dX5_begin_10 ?_
  refine sm_istore_n (lv1 := [(3, .int 0), (0, .ref (hB G + k0)), (1, .int x1), (2, .int x2)]) C dX5_begin_11 rfl rfl rfl ?_
  refine sm_sub [1, 0] rfl ?_
  exact sX5_begin_12 C E hk0 FU w_2 0
/-! X9_row -/
set_option maxRecDepth 100000 in
set_option maxHeartbeats 4000000 in
theorem mX9_row {b : Bx} {w : HW} {x1 : Int32} {x2 : Int32} {x3 : Int32} {a : Int32 × HW} (h : fX9_row w x1 x2 x3 = some a) : Mt b yX9_row cX9_row 4 (some .int) 1 23 [.ref (bB b + 0), .int x1, .int x2, .int x3] w (some (.int a.1)) a.2 := by
  refine Mt.of ρIW h (by decide) (Nat.le_of_ble_eq_true rfl) (fun G hG C E => ?_)
  subst hG
  have C : Cx G cX9_row RX9 4 1 23 := C
  change Sm G a 0 [(0, .ref (hB G + 0)), (1, .int x1), (2, .int x2), (3, .int x3)] [] w _
  unfold fX9_row
  refine sm_iload_n C 1 rfl dX9_row_0 rfl ?_
  refine sm_cSI (As := [.int x1]) C cfX9_hasSlot wd229 rfl rfl rfl rfl dX9_row_1 (fun r h => mX9_hasSlot  h) (fun r_1 => ?_)
  refine sm_if_eq C dX9_row_4 (tgt := 22) rfl (fun h_3 => ?_) (fun h_3 => ?_)
  · refine sm_iload_n C 2 rfl dX9_row_7 rfl ?_
    refine sm_if_lt C dX9_row_8 (tgt := 22) rfl (fun h_4 => ?_) (fun h_4 => ?_)
    · refine sm_iload_n C 2 rfl dX9_row_11 rfl ?_
      refine sm_iconst C ic_3 dX9_row_12 ?_
      refine sm_icmp_gt C dX9_row_13 (tgt := 22) rfl (fun h_5 => ?_) (fun h_5 => ?_)
      · refine sm_iload_n C 3 rfl dX9_row_16 rfl ?_
        refine sm_bipush C bp_60 dX9_row_17 ?_
        refine sm_icmp_le C dX9_row_19 (tgt := 25) rfl (fun h_6 => ?_) (fun h_6 => ?_)
        · refine sm_bipush C bp_m2 dX9_row_22 ?_
          exact sm_iret C E rfl dX9_row_24
        · refine sm_iload_n C 3 rfl dX9_row_25 rfl ?_
          refine sm_if_ge C dX9_row_26 (tgt := 32) rfl (fun h_7 => ?_) (fun h_7 => ?_)
          · refine sm_bipush C bp_m3 dX9_row_29 ?_
            exact sm_iret C E rfl dX9_row_31
          · refine sm_aload_n C 0 rfl dX9_row_32 rfl ?_
            refine sm_getR C fo_9_5 rfl wd230 kd_0 dX9_row_33 (rv_0_5 w) (by decide) ?_
            refine sm_iload_n C 1 rfl dX9_row_36 rfl ?_
            refine sm_aald C 5 (by decide) kd_19 dX9_row_37 (fun h_8 => rvS w h_8) (fun h_8 => nzS h_8) (fun h_8 => ?_)
            refine sm_iload_n C 2 rfl dX9_row_38 rfl ?_
            refine sm_iload_n C 3 rfl dX9_row_39 rfl ?_
            refine sm_cVW (As := [.int x2, .int x3]) C cfX5_begin wd287 (kdR (isS h_8)) rfl rfl rfl rfl rfl dX9_row_40 (fun r h => mX5_begin (isS h_8) h) (fun w_10 => ?_)
            refine sm_iconst C ic_0 dX9_row_43 ?_
            exact sm_iret C E rfl dX9_row_44
      · refine sm_bipush C bp_m2 dX9_row_22 ?_
        exact sm_iret C E rfl dX9_row_24
    · refine sm_bipush C bp_m2 dX9_row_22 ?_
      exact sm_iret C E rfl dX9_row_24
  · refine sm_bipush C bp_m2 dX9_row_22 ?_
    exact sm_iret C E rfl dX9_row_24
/-! X5_cut -/
set_option maxRecDepth 100000 in
set_option maxHeartbeats 4000000 in
theorem mX5_cut {b : Bx} {w : HW} {k0 : Nat} {x1 : Int64} (hk0 : isR k0 = true) {a : Int64} (h : fX5_cut w k0 x1 = some a) : Mt b yX5_cut cX5_cut 3 (some .long) 0 0 [.ref (bB b + k0), .long x1] w (some (.long a)) w := by
  refine Mt.of (ρL w) h (by decide) (Nat.le_of_ble_eq_true rfl) (fun G hG C E => ?_)
  subst hG
  have C : Cx G cX5_cut RX5 3 0 0 := C
  change Sm G a 0 [(0, .ref (hB G + k0)), (1, .long x1)] [] w _
  unfold fX5_cut
  refine sm_aload_n C 0 rfl dX5_cut_0 rfl ?_
  refine sm_getI C fo_5_1 rfl wd214 (kdR hk0) dX5_cut_1 ?_
  refine sm_spl (P := gI w k0 1 = 0) (fun h_1 => ?_) (fun h_1 => ?_)
  · refine sm_tabIn C dX5_cut_4 (by rw [h_1]; decide) (by rw [h_1]; decide) (off := 28) (by rw [h_1]; decide +kernel) (tgt := 32) rfl ?_
    refine sm_lload_n C 1 rfl dX5_cut_32 rfl ?_
    refine sm_l2i C dX5_cut_33 ?_
    refine sm_i2b C dX5_cut_34 ?_
    refine sm_i2l C dX5_cut_35 ?_
    exact sm_lret C E rfl dX5_cut_36
  refine sm_spl (P := gI w k0 1 = 1) (fun h_2 => ?_) (fun h_2 => ?_)
  · refine sm_tabIn C dX5_cut_4 (by rw [h_2]; decide) (by rw [h_2]; decide) (off := 33) (by rw [h_2]; decide +kernel) (tgt := 37) rfl ?_
    refine sm_lload_n C 1 rfl dX5_cut_37 rfl ?_
    refine sm_l2i C dX5_cut_38 ?_
    refine sm_i2s C dX5_cut_39 ?_
    refine sm_i2l C dX5_cut_40 ?_
    exact sm_lret C E rfl dX5_cut_41
  refine sm_spl (P := gI w k0 1 = 2) (fun h_3 => ?_) (fun h_3 => ?_)
  · refine sm_tabIn C dX5_cut_4 (by rw [h_3]; decide) (by rw [h_3]; decide) (off := 38) (by rw [h_3]; decide +kernel) (tgt := 42) rfl ?_
    refine sm_lload_n C 1 rfl dX5_cut_42 rfl ?_
    refine sm_l2i C dX5_cut_43 ?_
    refine sm_i2l C dX5_cut_44 ?_
    exact sm_lret C E rfl dX5_cut_45
  refine sm_tabOut C dX5_cut_4 (tab_out3 h_1 h_2 h_3) (tgt := 46) rfl ?_
  refine sm_lload_n C 1 rfl dX5_cut_46 rfl ?_
  exact sm_lret C E rfl dX5_cut_47
/-! X9_write -/
set_option maxRecDepth 100000 in
set_option maxHeartbeats 4000000 in
theorem mX9_write {b : Bx} {w : HW} {x1 : Int32} {x2 : Int32} {x3 : Int64} {a : Int32 × HW} (h : fX9_write w x1 x2 x3 = some a) : Mt b yX9_write cX9_write 6 (some .int) 1 22 [.ref (bB b + 0), .int x1, .int x2, .long x3] w (some (.int a.1)) a.2 := by
  refine Mt.of ρIW h (by decide) (Nat.le_of_ble_eq_true rfl) (fun G hG C E => ?_)
  subst hG
  have C : Cx G cX9_write RX9 6 1 22 := C
  change Sm G a 0 [(0, .ref (hB G + 0)), (1, .int x1), (2, .int x2), (3, .long x3)] [] w _
  unfold fX9_write
  refine sm_iload_n C 1 rfl dX9_write_0 rfl ?_
  refine sm_cSI (As := [.int x1]) C cfX9_hasSlot wd229 rfl rfl rfl rfl dX9_write_1 (fun r h => mX9_hasSlot  h) (fun r_1 => ?_)
  refine sm_if_ne C dX9_write_4 (tgt := 10) rfl (fun h_3 => ?_) (fun h_3 => ?_)
  · refine sm_bipush C bp_m2 dX9_write_7 ?_
    exact sm_iret C E rfl dX9_write_9
  · refine sm_aload_n C 0 rfl dX9_write_10 rfl ?_
    refine sm_getR C fo_9_5 rfl wd230 kd_0 dX9_write_11 (rv_0_5 w) (by decide) ?_
    refine sm_iload_n C 1 rfl dX9_write_14 rfl ?_
    refine sm_aald C 5 (by decide) kd_19 dX9_write_15 (fun h_4 => rvS w h_4) (fun h_4 => nzS h_4) (fun h_4 => ?_)
    refine sm_astore (lv1 := [(5, .ref (hB G + (44 + 2 * ix x1))), (0, .ref (hB G + 0)), (1, .int x1), (2, .int x2), (3, .long x3)]) C dX9_write_16 rfl rfl ?_
    refine sm_aload C 0 rfl dX9_write_18 ?_
    refine sm_cVI (As := []) C cfX5_isThere wd231 (kdR (isS h_4)) rfl rfl rfl rfl rfl dX9_write_20 (fun r h => mX5_isThere (isS h_4) h) (fun r_5 => ?_)
    refine sm_if_ne C dX9_write_23 (tgt := 29) rfl (fun h_7 => ?_) (fun h_7 => ?_)
    · refine sm_bipush C bp_m6 dX9_write_26 ?_
      exact sm_iret C E rfl dX9_write_28
    · refine sm_iload_n C 3 rfl dX9_write_29 rfl ?_
      refine sm_if_lt C dX9_write_30 (tgt := 42) rfl (fun h_8 => ?_) (fun h_8 => ?_)
      · refine sm_iload_n C 3 rfl dX9_write_33 rfl ?_
        refine sm_aload C 0 rfl dX9_write_34 ?_
        refine sm_getI C fo_5_2 rfl wd288 (kdR (isS h_4)) dX9_write_36 ?_
        refine sm_icmp_lt C dX9_write_39 (tgt := 45) rfl (fun h_9 => ?_) (fun h_9 => ?_)
        · refine sm_bipush C bp_m7 dX9_write_42 ?_
          exact sm_iret C E rfl dX9_write_44
        · refine sm_aload C 0 rfl dX9_write_45 ?_
          refine sm_getR C fo_5_0 rfl wd289 (kdR (isS h_4)) dX9_write_47 (rvR_0 (isS h_4) w) (nzR_1 (isS h_4)) ?_
          refine sm_iload_n C 3 rfl dX9_write_50 rfl ?_
          refine sm_aload C 0 rfl dX9_write_51 ?_
          refine sm_lload_n C 4 rfl dX9_write_53 rfl ?_
          refine sm_cVL (As := [.long x3]) C cfX5_cut wd290 (kdR (isS h_4)) rfl rfl rfl rfl rfl dX9_write_54 (fun r h => mX5_cut (isS h_4) h) (fun r_10 => ?_)
          refine sm_last C (kdR_1 (isS h_4)) dX9_write_57 (fun h_12 w_13 => ?_)
          refine sm_iconst C ic_0 dX9_write_58 ?_
          exact sm_iret C E rfl dX9_write_59
      · refine sm_bipush C bp_m7 dX9_write_42 ?_
        exact sm_iret C E rfl dX9_write_44
/-! X5_reaches -/
set_option maxRecDepth 100000 in
set_option maxHeartbeats 4000000 in
theorem mX5_reaches {b : Bx} {w : HW} {k0 : Nat} {x1 : Int32} {x2 : Int32} (hk0 : isR k0 = true) {a : Int32} (h : fX5_reaches w k0 x1 x2 = some a) : Mt b yX5_reaches cX5_reaches 3 (some .boolean) 0 0 [.ref (bB b + k0), .int x1, .int x2] w (some (.int a)) w := by
  refine Mt.of (ρI w) h (by decide) (Nat.le_of_ble_eq_true rfl) (fun G hG C E => ?_)
  subst hG
  have C : Cx G cX5_reaches RX5 3 0 0 := C
  change Sm G a 0 [(0, .ref (hB G + k0)), (1, .int x1), (2, .int x2)] [] w _
  unfold fX5_reaches
  refine sm_iload_n C 1 rfl dX5_reaches_0 rfl ?_
  refine sm_if_lt C dX5_reaches_1 (tgt := 30) rfl (fun h_1 => ?_) (fun h_1 => ?_)
  · refine sm_iload_n C 2 rfl dX5_reaches_4 rfl ?_
    refine sm_if_lt C dX5_reaches_5 (tgt := 30) rfl (fun h_2 => ?_) (fun h_2 => ?_)
    · refine sm_iload_n C 1 rfl dX5_reaches_8 rfl ?_
      refine sm_aload_n C 0 rfl dX5_reaches_9 rfl ?_
      refine sm_getI C fo_5_2 rfl wd285 (kdR hk0) dX5_reaches_10 ?_
      refine sm_icmp_gt C dX5_reaches_13 (tgt := 30) rfl (fun h_3 => ?_) (fun h_3 => ?_)
      · refine sm_iload_n C 2 rfl dX5_reaches_16 rfl ?_
        refine sm_aload_n C 0 rfl dX5_reaches_17 rfl ?_
        refine sm_getI C fo_5_2 rfl wd285 (kdR hk0) dX5_reaches_18 ?_
        refine sm_iload_n C 1 rfl dX5_reaches_21 rfl ?_
        refine sm_isub C dX5_reaches_22 ?_
        refine sm_icmp_gt C dX5_reaches_23 (tgt := 30) rfl (fun h_4 => ?_) (fun h_4 => ?_)
        · refine sm_iconst C ic_1 dX5_reaches_26 ?_
          refine sm_goto C dX5_reaches_27 (tgt := 31) rfl ?_
          exact sm_zret C E rfl rfl dX5_reaches_31
        · refine sm_iconst C ic_0 dX5_reaches_30 ?_
          exact sm_zret C E rfl rfl dX5_reaches_31
      · refine sm_iconst C ic_0 dX5_reaches_30 ?_
        exact sm_zret C E rfl rfl dX5_reaches_31
    · refine sm_iconst C ic_0 dX5_reaches_30 ?_
      exact sm_zret C E rfl rfl dX5_reaches_31
  · refine sm_iconst C ic_0 dX5_reaches_30 ?_
    exact sm_zret C E rfl rfl dX5_reaches_31
/-! X9_paste -/
set_option maxRecDepth 100000 in
set_option maxHeartbeats 4000000 in
theorem mX9_paste {b : Bx} {w : HW} {x1 : Int32} {x2 : Int32} {x3 : Int32} {x4 : Int32} {x5 : Int32} {a : Int32 × HW} (h : fX9_paste w x1 x2 x3 x4 x5 = some a) : Mt b yX9_paste cX9_paste 8 (some .int) 1 68 [.ref (bB b + 0), .int x1, .int x2, .int x3, .int x4, .int x5] w (some (.int a.1)) a.2 := by
  refine Mt.of ρIW h (by decide) (Nat.le_of_ble_eq_true rfl) (fun G hG C E => ?_)
  subst hG
  have C : Cx G cX9_paste RX9 8 1 68 := C
  change Sm G a 0 [(0, .ref (hB G + 0)), (1, .int x1), (2, .int x2), (3, .int x3), (4, .int x4), (5, .int x5)] [] w _
  unfold fX9_paste
  refine sm_iload_n C 1 rfl dX9_paste_0 rfl ?_
  refine sm_cSI (As := [.int x1]) C cfX9_hasSlot wd229 rfl rfl rfl rfl dX9_paste_1 (fun r h => mX9_hasSlot  h) (fun r_1 => ?_)
  refine sm_if_eq C dX9_paste_4 (tgt := 14) rfl (fun h_3 => ?_) (fun h_3 => ?_)
  · refine sm_iload_n C 3 rfl dX9_paste_7 rfl ?_
    refine sm_cSI (As := [.int x3]) C cfX9_hasSlot wd229 rfl rfl rfl rfl dX9_paste_8 (fun r h => mX9_hasSlot  h) (fun r_4 => ?_)
    refine sm_if_ne C dX9_paste_11 (tgt := 17) rfl (fun h_6 => ?_) (fun h_6 => ?_)
    · refine sm_bipush C bp_m2 dX9_paste_14 ?_
      exact sm_iret C E rfl dX9_paste_16
    · refine sm_aload_n C 0 rfl dX9_paste_17 rfl ?_
      refine sm_getR C fo_9_5 rfl wd230 kd_0 dX9_paste_18 (rv_0_5 w) (by decide) ?_
      refine sm_iload_n C 1 rfl dX9_paste_21 rfl ?_
      refine sm_aald C 5 (by decide) kd_19 dX9_paste_22 (fun h_7 => rvS w h_7) (fun h_7 => nzS h_7) (fun h_7 => ?_)
      refine sm_astore (lv1 := [(6, .ref (hB G + (44 + 2 * ix x1))), (0, .ref (hB G + 0)), (1, .int x1), (2, .int x2), (3, .int x3), (4, .int x4), (5, .int x5)]) C dX9_paste_23 rfl rfl ?_
      refine sm_aload_n C 1 rfl dX9_paste_25 rfl ?_
      refine sm_getR C fo_9_5 rfl wd230 kd_0 dX9_paste_26 (rv_0_5 w) (by decide) ?_
      refine sm_iload_n C 4 rfl dX9_paste_29 rfl ?_
      refine sm_aald C 5 (by decide) kd_19 dX9_paste_30 (fun h_8 => rvS w h_8) (fun h_8 => nzS h_8) (fun h_8 => ?_)
      refine sm_astore (lv1 := [(7, .ref (hB G + (44 + 2 * ix x3))), (6, .ref (hB G + (44 + 2 * ix x1))), (0, .ref (hB G + 0)), (1, .int x1), (2, .int x2), (3, .int x3), (4, .int x4), (5, .int x5)]) C dX9_paste_31 rfl rfl ?_
      refine sm_aload C 1 rfl dX9_paste_33 ?_
      refine sm_cVI (As := []) C cfX5_isThere wd231 (kdR (isS h_7)) rfl rfl rfl rfl rfl dX9_paste_35 (fun r h => mX5_isThere (isS h_7) h) (fun r_9 => ?_)
      refine sm_if_eq C dX9_paste_38 (tgt := 49) rfl (fun h_11 => ?_) (fun h_11 => ?_)
      · refine sm_aload C 0 rfl dX9_paste_41 ?_
        refine sm_cVI (As := []) C cfX5_isThere wd231 (kdR (isS h_8)) rfl rfl rfl rfl rfl dX9_paste_43 (fun r h => mX5_isThere (isS h_8) h) (fun r_12 => ?_)
        refine sm_if_ne C dX9_paste_46 (tgt := 52) rfl (fun h_14 => ?_) (fun h_14 => ?_)
        · refine sm_bipush C bp_m6 dX9_paste_49 ?_
          exact sm_iret C E rfl dX9_paste_51
        · refine sm_aload C 1 rfl dX9_paste_52 ?_
          refine sm_getI C fo_5_1 rfl wd291 (kdR (isS h_7)) dX9_paste_54 ?_
          refine sm_aload C 0 rfl dX9_paste_57 ?_
          refine sm_getI C fo_5_1 rfl wd291 (kdR (isS h_8)) dX9_paste_59 ?_
          refine sm_icmp_eq C dX9_paste_62 (tgt := 68) rfl (fun h_15 => ?_) (fun h_15 => ?_)
          · refine sm_bipush C bp_m8 dX9_paste_65 ?_
            exact sm_iret C E rfl dX9_paste_67
          · refine sm_aload C 1 rfl dX9_paste_68 ?_
            refine sm_iload_n C 4 rfl dX9_paste_70 rfl ?_
            refine sm_iload C 7 rfl dX9_paste_71 ?_
            refine sm_cVI (As := [.int x2, .int x5]) C cfX5_reaches wd292 (kdR (isS h_7)) rfl rfl rfl rfl rfl dX9_paste_73 (fun r h => mX5_reaches (isS h_7) h) (fun r_16 => ?_)
            refine sm_if_eq C dX9_paste_76 (tgt := 91) rfl (fun h_18 => ?_) (fun h_18 => ?_)
            · refine sm_aload C 0 rfl dX9_paste_79 ?_
              refine sm_iload C 6 rfl dX9_paste_81 ?_
              refine sm_iload C 7 rfl dX9_paste_83 ?_
              refine sm_cVI (As := [.int x4, .int x5]) C cfX5_reaches wd292 (kdR (isS h_8)) rfl rfl rfl rfl rfl dX9_paste_85 (fun r h => mX5_reaches (isS h_8) h) (fun r_19 => ?_)
              refine sm_if_ne C dX9_paste_88 (tgt := 94) rfl (fun h_21 => ?_) (fun h_21 => ?_)
              · refine sm_bipush C bp_m7 dX9_paste_91 ?_
                exact sm_iret C E rfl dX9_paste_93
              · refine sm_aload C 1 rfl dX9_paste_94 ?_
                refine sm_getR C fo_5_0 rfl wd289 (kdR (isS h_7)) dX9_paste_96 (rvR_0 (isS h_7) w) (nzR_1 (isS h_7)) ?_
                refine sm_iload_n C 4 rfl dX9_paste_99 rfl ?_
                refine sm_aload C 0 rfl dX9_paste_100 ?_
                refine sm_getR C fo_5_0 rfl wd289 (kdR (isS h_8)) dX9_paste_102 (rvR_0 (isS h_8) w) (nzR_1 (isS h_8)) ?_
                refine sm_iload C 6 rfl dX9_paste_105 ?_
                refine sm_iload C 7 rfl dX9_paste_107 ?_
                refine sm_copyL C (kdR_1 (isS h_7)) (kdR_1 (isS h_8)) wd293 ac_na ac_st ac_in rfl dX9_paste_109 (fun w_22 => ?_)
                refine sm_iconst C ic_0 dX9_paste_112 ?_
                exact sm_iret C E rfl dX9_paste_113
            · refine sm_bipush C bp_m7 dX9_paste_91 ?_
              exact sm_iret C E rfl dX9_paste_93
      · refine sm_bipush C bp_m6 dX9_paste_49 ?_
        exact sm_iret C E rfl dX9_paste_51
  · refine sm_bipush C bp_m2 dX9_paste_14 ?_
    exact sm_iret C E rfl dX9_paste_16
/-! X10_in -/
set_option maxRecDepth 100000 in
set_option maxHeartbeats 4000000 in
theorem mX10_in {b : Bx} {w : HW} {x0 : Int64} {x2 : Int64} {x4 : Int64} {a : Int32} (h : fX10_in w x0 x2 x4 = some a) : Mt b yX10_in cX10_in 6 (some .boolean) 0 0 [.long x0, .long x2, .long x4] w (some (.int a)) w := by
  refine Mt.of (ρI w) h (by decide) (Nat.le_of_ble_eq_true rfl) (fun G hG C E => ?_)
  subst hG
  have C : Cx G cX10_in RX10 6 0 0 := C
  change Sm G a 0 [(0, .long x0), (2, .long x2), (4, .long x4)] [] w _
  unfold fX10_in
  refine sm_lload_n C 0 rfl dX10_in_0 rfl ?_
  refine sm_lload_n C 1 rfl dX10_in_1 rfl ?_
  refine sm_lcmp C dX10_in_2 ?_
  refine sm_if_lt C dX10_in_3 (tgt := 17) rfl (fun h_1 => ?_) (fun h_1 => ?_)
  · refine sm_lload_n C 0 rfl dX10_in_6 rfl ?_
    refine sm_lload C 2 rfl dX10_in_7 ?_
    refine sm_lcmp C dX10_in_9 ?_
    refine sm_if_gt C dX10_in_10 (tgt := 17) rfl (fun h_2 => ?_) (fun h_2 => ?_)
    · refine sm_iconst C ic_1 dX10_in_13 ?_
      refine sm_goto C dX10_in_14 (tgt := 18) rfl ?_
      exact sm_zret C E rfl rfl dX10_in_18
    · refine sm_iconst C ic_0 dX10_in_17 ?_
      exact sm_zret C E rfl rfl dX10_in_18
  · refine sm_iconst C ic_0 dX10_in_17 ?_
    exact sm_zret C E rfl rfl dX10_in_18
/-! X10_bits -/
set_option maxRecDepth 100000 in
set_option maxHeartbeats 4000000 in
theorem sX10_bits_4 {G : Gx} {a : Int32} {w : HW} (C : Cx G cX10_bits RX10 3 0 0) (E : Rx G (ρI w) a (some .int)) {x0 : Int32} : ∀ (n : Nat) (x1 : Int32) (x2 : Int32), Sm G a 4 [(0, .int x0), (1, .int x1), (2, .int x2)] [] w (fX10_bits_4 w x0 n x1 x2) := by
  intro n
  induction n with
  | zero => intro _ _; exact sm_none
  | succ n ih =>
    intro x1 x2
    rw [fX10_bits_4]
    refine sm_iload_n C 2 rfl dX10_bits_4 rfl ?_
    refine sm_bipush C bp_14 dX10_bits_5 ?_
    refine sm_icmp_ge C dX10_bits_7 (tgt := 24) rfl (fun h_1 => ?_) (fun h_1 => ?_)
    · refine sm_iload_n C 1 rfl dX10_bits_10 rfl ?_
      refine sm_iload_n C 0 rfl dX10_bits_11 rfl ?_
      refine sm_iload_n C 2 rfl dX10_bits_12 rfl ?_
      refine sm_ishr C dX10_bits_13 ?_
      refine sm_iconst C ic_1 dX10_bits_14 ?_
      refine sm_iand C dX10_bits_15 ?_
      refine sm_iadd C dX10_bits_16 ?_
      refine sm_let (fun x1_2 => ?_)
      refine sm_istore_n (lv1 := [(1, .int x1_2), (0, .int x0), (2, .int x2)]) C dX10_bits_17 rfl rfl rfl ?_
      refine sm_iinc (lv1 := [(2, .int (x2 + 1)), (1, .int x1_2), (0, .int x0)]) C 2 rfl (iv_1 _) dX10_bits_18 rfl rfl ?_
      refine sm_goto C dX10_bits_21 (tgt := 4) rfl ?_
      refine sm_sub [2, 1, 0] rfl ?_
      exact ih x1_2 (x2 + 1)
    · refine sm_iload_n C 1 rfl dX10_bits_24 rfl ?_
      exact sm_iret C E rfl dX10_bits_25
set_option maxRecDepth 100000 in
set_option maxHeartbeats 4000000 in
theorem mX10_bits {b : Bx} {w : HW} {x0 : Int32} {a : Int32} (h : fX10_bits w x0 = some a) : Mt b yX10_bits cX10_bits 3 (some .int) 0 0 [.int x0] w (some (.int a)) w := by
  refine Mt.of (ρI w) h (by decide) (Nat.le_of_ble_eq_true rfl) (fun G hG C E => ?_)
  subst hG
  have C : Cx G cX10_bits RX10 3 0 0 := C
  change Sm G a 0 [(0, .int x0)] [] w _
  unfold fX10_bits
  refine sm_iconst C ic_0 dX10_bits_0 ?_
  refine sm_istore_n (lv1 := [(1, .int 0), (0, .int x0)]) C dX10_bits_1 rfl rfl rfl ?_
  refine sm_iconst C ic_0 dX10_bits_2 ?_
  refine sm_istore_n (lv1 := [(2, .int 0), (1, .int 0), (0, .int x0)]) C dX10_bits_3 rfl rfl rfl ?_
  refine sm_sub [2, 1, 0] rfl ?_
  exact sX10_bits_4 C E FU 0 0
/-! X10_bit -/
set_option maxRecDepth 100000 in
set_option maxHeartbeats 4000000 in
theorem mX10_bit {b : Bx} {w : HW} {x0 : Int32} {x1 : Int32} {a : Int32} (h : fX10_bit w x0 x1 = some a) : Mt b yX10_bit cX10_bit 2 (some .int) 0 0 [.int x0, .int x1] w (some (.int a)) w := by
  refine Mt.of (ρI w) h (by decide) (Nat.le_of_ble_eq_true rfl) (fun G hG C E => ?_)
  subst hG
  have C : Cx G cX10_bit RX10 2 0 0 := C
  change Sm G a 0 [(0, .int x0), (1, .int x1)] [] w _
  unfold fX10_bit
  refine sm_iload_n C 0 rfl dX10_bit_0 rfl ?_
  refine sm_iload_n C 1 rfl dX10_bit_1 rfl ?_
  refine sm_ishr C dX10_bit_2 ?_
  refine sm_iconst C ic_1 dX10_bit_3 ?_
  refine sm_iand C dX10_bit_4 ?_
  exact sm_iret C E rfl dX10_bit_5
/-! X10_image -/
set_option maxRecDepth 100000 in
set_option maxHeartbeats 4000000 in
theorem sX10_image_17 {G : Gx} {a : Int32 × HW} (C : Cx G cX10_image RX10 3 1 25) (E : Rx G ρIW a (some .int)) {x1 : Int32} : ∀ (n : Nat) (w : HW) (x2 : Int32), Sm G a 17 [(0, .ref (hB G + 79)), (1, .int x1), (2, .int x2)] [] w (fX10_image_17 x1 n w x2) := by
  intro n
  induction n with
  | zero => intro _ _; exact sm_none
  | succ n ih =>
    intro w x2
    rw [fX10_image_17]
    refine sm_iload_n C 2 rfl dX10_image_17 rfl ?_
    refine sm_bipush C bp_77 dX10_image_18 ?_
    refine sm_icmp_ge C dX10_image_20 (tgt := 46) rfl (fun h_4 => ?_) (fun h_4 => ?_)
    · refine sm_aload_n C 0 rfl dX10_image_23 rfl ?_
      refine sm_getR C fo_10_2 rfl wd296 kd_79 dX10_image_24 (rv_79_2 w) (by decide) ?_
      refine sm_bipush C bp_77 dX10_image_27 ?_
      refine sm_iload_n C 1 rfl dX10_image_29 rfl ?_
      refine sm_imul C dX10_image_30 ?_
      refine sm_iload_n C 2 rfl dX10_image_31 rfl ?_
      refine sm_iadd C dX10_image_32 ?_
      refine sm_aload_n C 0 rfl dX10_image_33 rfl ?_
      refine sm_getR C fo_10_1 rfl wd297 kd_79 dX10_image_34 (rv_79_1 w) (by decide) ?_
      refine sm_iload_n C 2 rfl dX10_image_37 rfl ?_
      refine sm_iald C kd_80 dX10_image_38 (fun h_5 => ?_)
      refine sm_iast C kd_81 dX10_image_39 (fun h_6 w_7 => ?_)
      refine sm_iinc (lv1 := [(2, .int (x2 + 1)), (0, .ref (hB G + 79)), (1, .int x1)]) C 2 rfl (iv_1 _) dX10_image_40 rfl rfl ?_
      refine sm_goto C dX10_image_43 (tgt := 17) rfl ?_
      refine sm_sub [1, 2, 0] rfl ?_
      exact ih w_7 (x2 + 1)
    · refine sm_aload_n C 0 rfl dX10_image_46 rfl ?_
      refine sm_getR C fo_10_3 rfl wd298 kd_79 dX10_image_47 (rv_79_3 w) (by decide) ?_
      refine sm_iload_n C 1 rfl dX10_image_50 rfl ?_
      refine sm_iconst C ic_1 dX10_image_51 ?_
      refine sm_zast C kd_82 dX10_image_52 (fun h_8 w_9 => ?_)
      refine sm_iconst C ic_0 dX10_image_53 ?_
      exact sm_iret C E rfl dX10_image_54
set_option maxRecDepth 100000 in
set_option maxHeartbeats 4000000 in
theorem mX10_image {b : Bx} {w : HW} {x1 : Int32} {a : Int32 × HW} (h : fX10_image w x1 = some a) : Mt b yX10_image cX10_image 3 (some .int) 1 25 [.ref (bB b + 79), .int x1] w (some (.int a.1)) a.2 := by
  refine Mt.of ρIW h (by decide) (Nat.le_of_ble_eq_true rfl) (fun G hG C E => ?_)
  subst hG
  have C : Cx G cX10_image RX10 3 1 25 := C
  change Sm G a 0 [(0, .ref (hB G + 79)), (1, .int x1)] [] w _
  unfold fX10_image
  refine sm_iload_n C 1 rfl dX10_image_0 rfl ?_
  refine sm_i2l C dX10_image_1 ?_
  refine sm_lconst C lc_0 dX10_image_2 ?_
  refine sm_ldc2 C wd294 dX10_image_3 ?_
  refine sm_cSI (As := [.long (x1.toInt64), .long 0, .long 2]) C cfX10_in wd295 rfl rfl rfl rfl dX10_image_6 (fun r h => mX10_in  h) (fun r_1 => ?_)
  refine sm_if_ne C dX10_image_9 (tgt := 15) rfl (fun h_3 => ?_) (fun h_3 => ?_)
  · refine sm_bipush C bp_m2 dX10_image_12 ?_
    exact sm_iret C E rfl dX10_image_14
  · refine sm_iconst C ic_0 dX10_image_15 ?_
    refine sm_istore_n (lv1 := [(2, .int 0), (0, .ref (hB G + 79)), (1, .int x1)]) C dX10_image_16 rfl rfl rfl ?_
    refine sm_sub [1, 2, 0] rfl ?_
    exact sX10_image_17 C E FU w 0
/-! X10_back -/
set_option maxRecDepth 100000 in
set_option maxHeartbeats 4000000 in
theorem sX10_back_29 {G : Gx} {a : Int32 × HW} (C : Cx G cX10_back RX10 3 1 25) (E : Rx G ρIW a (some .int)) {x1 : Int32} : ∀ (n : Nat) (w : HW) (x2 : Int32), Sm G a 29 [(0, .ref (hB G + 79)), (1, .int x1), (2, .int x2)] [] w (fX10_back_29 x1 n w x2) := by
  intro n
  induction n with
  | zero => intro _ _; exact sm_none
  | succ n ih =>
    intro w x2
    rw [fX10_back_29]
    refine sm_iload_n C 2 rfl dX10_back_29 rfl ?_
    refine sm_bipush C bp_77 dX10_back_30 ?_
    refine sm_icmp_ge C dX10_back_32 (tgt := 58) rfl (fun h_6 => ?_) (fun h_6 => ?_)
    · refine sm_aload_n C 0 rfl dX10_back_35 rfl ?_
      refine sm_getR C fo_10_1 rfl wd297 kd_79 dX10_back_36 (rv_79_1 w) (by decide) ?_
      refine sm_iload_n C 2 rfl dX10_back_39 rfl ?_
      refine sm_aload_n C 0 rfl dX10_back_40 rfl ?_
      refine sm_getR C fo_10_2 rfl wd296 kd_79 dX10_back_41 (rv_79_2 w) (by decide) ?_
      refine sm_bipush C bp_77 dX10_back_44 ?_
      refine sm_iload_n C 1 rfl dX10_back_46 rfl ?_
      refine sm_imul C dX10_back_47 ?_
      refine sm_iload_n C 2 rfl dX10_back_48 rfl ?_
      refine sm_iadd C dX10_back_49 ?_
      refine sm_iald C kd_81 dX10_back_50 (fun h_7 => ?_)
      refine sm_iast C kd_80 dX10_back_51 (fun h_8 w_9 => ?_)
      refine sm_iinc (lv1 := [(2, .int (x2 + 1)), (0, .ref (hB G + 79)), (1, .int x1)]) C 2 rfl (iv_1 _) dX10_back_52 rfl rfl ?_
      refine sm_goto C dX10_back_55 (tgt := 29) rfl ?_
      refine sm_sub [1, 2, 0] rfl ?_
      exact ih w_9 (x2 + 1)
    · refine sm_iconst C ic_0 dX10_back_58 ?_
      exact sm_iret C E rfl dX10_back_59
set_option maxRecDepth 100000 in
set_option maxHeartbeats 4000000 in
theorem mX10_back {b : Bx} {w : HW} {x1 : Int32} {a : Int32 × HW} (h : fX10_back w x1 = some a) : Mt b yX10_back cX10_back 3 (some .int) 1 25 [.ref (bB b + 79), .int x1] w (some (.int a.1)) a.2 := by
  refine Mt.of ρIW h (by decide) (Nat.le_of_ble_eq_true rfl) (fun G hG C E => ?_)
  subst hG
  have C : Cx G cX10_back RX10 3 1 25 := C
  change Sm G a 0 [(0, .ref (hB G + 79)), (1, .int x1)] [] w _
  unfold fX10_back
  refine sm_iload_n C 1 rfl dX10_back_0 rfl ?_
  refine sm_i2l C dX10_back_1 ?_
  refine sm_lconst C lc_0 dX10_back_2 ?_
  refine sm_ldc2 C wd294 dX10_back_3 ?_
  refine sm_cSI (As := [.long (x1.toInt64), .long 0, .long 2]) C cfX10_in wd295 rfl rfl rfl rfl dX10_back_6 (fun r h => mX10_in  h) (fun r_1 => ?_)
  refine sm_if_ne C dX10_back_9 (tgt := 15) rfl (fun h_3 => ?_) (fun h_3 => ?_)
  · refine sm_bipush C bp_m2 dX10_back_12 ?_
    exact sm_iret C E rfl dX10_back_14
  · refine sm_aload_n C 0 rfl dX10_back_15 rfl ?_
    refine sm_getR C fo_10_3 rfl wd298 kd_79 dX10_back_16 (rv_79_3 w) (by decide) ?_
    refine sm_iload_n C 1 rfl dX10_back_19 rfl ?_
    refine sm_zald C kd_82 dX10_back_20 (fun h_4 => ?_)
    refine sm_if_ne C dX10_back_21 (tgt := 27) rfl (fun h_5 => ?_) (fun h_5 => ?_)
    · refine sm_bipush C bp_m6 dX10_back_24 ?_
      exact sm_iret C E rfl dX10_back_26
    · refine sm_iconst C ic_0 dX10_back_27 ?_
      refine sm_istore_n (lv1 := [(2, .int 0), (0, .ref (hB G + 79)), (1, .int x1)]) C dX10_back_28 rfl rfl rfl ?_
      refine sm_sub [1, 2, 0] rfl ?_
      exact sX10_back_29 C E FU w 0
/-! X10_isCamp -/
set_option maxRecDepth 100000 in
set_option maxHeartbeats 4000000 in
theorem mX10_isCamp {b : Bx} {w : HW} {a : Int32} (h : fX10_isCamp w = some a) : Mt b yX10_isCamp cX10_isCamp 1 (some .boolean) 0 0 [.ref (bB b + 79)] w (some (.int a)) w := by
  refine Mt.of (ρI w) h (by decide) (Nat.le_of_ble_eq_true rfl) (fun G hG C E => ?_)
  subst hG
  have C : Cx G cX10_isCamp RX10 1 0 0 := C
  change Sm G a 0 [(0, .ref (hB G + 79))] [] w _
  unfold fX10_isCamp
  refine sm_aload_n C 0 rfl dX10_isCamp_0 rfl ?_
  refine sm_getR C fo_10_1 rfl wd297 kd_79 dX10_isCamp_1 (rv_79_1 w) (by decide) ?_
  refine sm_bipush C bp_7 dX10_isCamp_4 ?_
  refine sm_iald C kd_80 dX10_isCamp_6 (fun h_1 => ?_)
  refine sm_if_le C dX10_isCamp_7 (tgt := 14) rfl (fun h_2 => ?_) (fun h_2 => ?_)
  · refine sm_iconst C ic_1 dX10_isCamp_10 ?_
    refine sm_goto C dX10_isCamp_11 (tgt := 15) rfl ?_
    exact sm_zret C E rfl rfl dX10_isCamp_15
  · refine sm_iconst C ic_0 dX10_isCamp_14 ?_
    exact sm_zret C E rfl rfl dX10_isCamp_15
/-! X10_isDay -/
set_option maxRecDepth 100000 in
set_option maxHeartbeats 4000000 in
theorem mX10_isDay {b : Bx} {w : HW} {x1 : Int64} {a : Int32} (h : fX10_isDay w x1 = some a) : Mt b yX10_isDay cX10_isDay 3 (some .boolean) 1 25 [.ref (bB b + 79), .long x1] w (some (.int a)) w := by
  refine Mt.of (ρI w) h (by decide) (Nat.le_of_ble_eq_true rfl) (fun G hG C E => ?_)
  subst hG
  have C : Cx G cX10_isDay RX10 3 1 25 := C
  change Sm G a 0 [(0, .ref (hB G + 79)), (1, .long x1)] [] w _
  unfold fX10_isDay
  refine sm_lload_n C 1 rfl dX10_isDay_0 rfl ?_
  refine sm_lconst C lc_0 dX10_isDay_1 ?_
  refine sm_aload_n C 0 rfl dX10_isDay_2 rfl ?_
  refine sm_getR C fo_10_1 rfl wd297 kd_79 dX10_isDay_3 (rv_79_1 w) (by decide) ?_
  refine sm_iconst C ic_0 dX10_isDay_6 ?_
  refine sm_iald C kd_80 dX10_isDay_7 (fun h_1 => ?_)
  refine sm_iconst C ic_1 dX10_isDay_8 ?_
  refine sm_isub C dX10_isDay_9 ?_
  refine sm_i2l C dX10_isDay_10 ?_
  refine sm_cSI (As := [.long x1, .long 0, .long (((gI w 80 (ix 0)) - 1).toInt64)]) C cfX10_in wd295 rfl rfl rfl rfl dX10_isDay_11 (fun r h => mX10_in  h) (fun r_2 => ?_)
  refine sm_chk (fun h_4 => ?_)
  exact sm_zret C E rfl (zB_nar h_4) dX10_isDay_14
/-! X10_isAugur -/
set_option maxRecDepth 100000 in
set_option maxHeartbeats 4000000 in
theorem mX10_isAugur {b : Bx} {w : HW} {x1 : Int32} {a : Int32} (h : fX10_isAugur w x1 = some a) : Mt b yX10_isAugur cX10_isAugur 2 (some .boolean) 1 25 [.ref (bB b + 79), .int x1] w (some (.int a)) w := by
  refine Mt.of (ρI w) h (by decide) (Nat.le_of_ble_eq_true rfl) (fun G hG C E => ?_)
  subst hG
  have C : Cx G cX10_isAugur RX10 2 1 25 := C
  change Sm G a 0 [(0, .ref (hB G + 79)), (1, .int x1)] [] w _
  unfold fX10_isAugur
  refine sm_iload_n C 1 rfl dX10_isAugur_0 rfl ?_
  refine sm_i2l C dX10_isAugur_1 ?_
  refine sm_lconst C lc_0 dX10_isAugur_2 ?_
  refine sm_aload_n C 0 rfl dX10_isAugur_3 rfl ?_
  refine sm_getR C fo_10_1 rfl wd297 kd_79 dX10_isAugur_4 (rv_79_1 w) (by decide) ?_
  refine sm_iconst C ic_4 dX10_isAugur_7 ?_
  refine sm_iald C kd_80 dX10_isAugur_8 (fun h_1 => ?_)
  refine sm_iconst C ic_1 dX10_isAugur_9 ?_
  refine sm_isub C dX10_isAugur_10 ?_
  refine sm_i2l C dX10_isAugur_11 ?_
  refine sm_cSI (As := [.long (x1.toInt64), .long 0, .long (((gI w 80 (ix 4)) - 1).toInt64)]) C cfX10_in wd295 rfl rfl rfl rfl dX10_isAugur_12 (fun r h => mX10_in  h) (fun r_2 => ?_)
  refine sm_chk (fun h_4 => ?_)
  exact sm_zret C E rfl (zB_nar h_4) dX10_isAugur_15
/-! X10_isBill -/
set_option maxRecDepth 100000 in
set_option maxHeartbeats 4000000 in
theorem mX10_isBill {b : Bx} {w : HW} {x1 : Int32} {a : Int32} (h : fX10_isBill w x1 = some a) : Mt b yX10_isBill cX10_isBill 2 (some .boolean) 1 25 [.ref (bB b + 79), .int x1] w (some (.int a)) w := by
  refine Mt.of (ρI w) h (by decide) (Nat.le_of_ble_eq_true rfl) (fun G hG C E => ?_)
  subst hG
  have C : Cx G cX10_isBill RX10 2 1 25 := C
  change Sm G a 0 [(0, .ref (hB G + 79)), (1, .int x1)] [] w _
  unfold fX10_isBill
  refine sm_iload_n C 1 rfl dX10_isBill_0 rfl ?_
  refine sm_i2l C dX10_isBill_1 ?_
  refine sm_lconst C lc_0 dX10_isBill_2 ?_
  refine sm_aload_n C 0 rfl dX10_isBill_3 rfl ?_
  refine sm_getR C fo_10_1 rfl wd297 kd_79 dX10_isBill_4 (rv_79_1 w) (by decide) ?_
  refine sm_iconst C ic_5 dX10_isBill_7 ?_
  refine sm_iald C kd_80 dX10_isBill_8 (fun h_1 => ?_)
  refine sm_iconst C ic_1 dX10_isBill_9 ?_
  refine sm_isub C dX10_isBill_10 ?_
  refine sm_i2l C dX10_isBill_11 ?_
  refine sm_cSI (As := [.long (x1.toInt64), .long 0, .long (((gI w 80 (ix 5)) - 1).toInt64)]) C cfX10_in wd295 rfl rfl rfl rfl dX10_isBill_12 (fun r h => mX10_in  h) (fun r_2 => ?_)
  refine sm_chk (fun h_4 => ?_)
  exact sm_zret C E rfl (zB_nar h_4) dX10_isBill_15
/-! X10_isSide -/
set_option maxRecDepth 100000 in
set_option maxHeartbeats 4000000 in
theorem mX10_isSide {b : Bx} {w : HW} {x1 : Int32} {a : Int32} (h : fX10_isSide w x1 = some a) : Mt b yX10_isSide cX10_isSide 2 (some .boolean) 1 25 [.ref (bB b + 79), .int x1] w (some (.int a)) w := by
  refine Mt.of (ρI w) h (by decide) (Nat.le_of_ble_eq_true rfl) (fun G hG C E => ?_)
  subst hG
  have C : Cx G cX10_isSide RX10 2 1 25 := C
  change Sm G a 0 [(0, .ref (hB G + 79)), (1, .int x1)] [] w _
  unfold fX10_isSide
  refine sm_aload_n C 0 rfl dX10_isSide_0 rfl ?_
  refine sm_cVI (As := []) C cfX10_isCamp wd299 kd_79 rfl rfl rfl rfl rfl dX10_isSide_1 (fun r h => mX10_isCamp  h) (fun r_1 => ?_)
  refine sm_if_eq C dX10_isSide_4 (tgt := 21) rfl (fun h_3 => ?_) (fun h_3 => ?_)
  · refine sm_iload_n C 1 rfl dX10_isSide_7 rfl ?_
    refine sm_i2l C dX10_isSide_8 ?_
    refine sm_lconst C lc_0 dX10_isSide_9 ?_
    refine sm_lconst C lc_1 dX10_isSide_10 ?_
    refine sm_cSI (As := [.long (x1.toInt64), .long 0, .long 1]) C cfX10_in wd295 rfl rfl rfl rfl dX10_isSide_11 (fun r h => mX10_in  h) (fun r_4 => ?_)
    refine sm_if_eq C dX10_isSide_14 (tgt := 21) rfl (fun h_6 => ?_) (fun h_6 => ?_)
    · refine sm_iconst C ic_1 dX10_isSide_17 ?_
      refine sm_goto C dX10_isSide_18 (tgt := 22) rfl ?_
      exact sm_zret C E rfl rfl dX10_isSide_22
    · refine sm_iconst C ic_0 dX10_isSide_21 ?_
      exact sm_zret C E rfl rfl dX10_isSide_22
  · refine sm_iconst C ic_0 dX10_isSide_21 ?_
    exact sm_zret C E rfl rfl dX10_isSide_22
/-! X10_ofAugur -/
set_option maxRecDepth 100000 in
set_option maxHeartbeats 4000000 in
theorem mX10_ofAugur {b : Bx} {w : HW} {x1 : Int32} {x2 : Int32} {a : Int32} (h : fX10_ofAugur w x1 x2 = some a) : Mt b yX10_ofAugur cX10_ofAugur 3 (some .int) 0 0 [.ref (bB b + 79), .int x1, .int x2] w (some (.int a)) w := by
  refine Mt.of (ρI w) h (by decide) (Nat.le_of_ble_eq_true rfl) (fun G hG C E => ?_)
  subst hG
  have C : Cx G cX10_ofAugur RX10 3 0 0 := C
  change Sm G a 0 [(0, .ref (hB G + 79)), (1, .int x1), (2, .int x2)] [] w _
  unfold fX10_ofAugur
  refine sm_aload_n C 0 rfl dX10_ofAugur_0 rfl ?_
  refine sm_getR C fo_10_1 rfl wd297 kd_79 dX10_ofAugur_1 (rv_79_1 w) (by decide) ?_
  refine sm_bipush C bp_9 dX10_ofAugur_4 ?_
  refine sm_iconst C ic_3 dX10_ofAugur_6 ?_
  refine sm_iload_n C 1 rfl dX10_ofAugur_7 rfl ?_
  refine sm_imul C dX10_ofAugur_8 ?_
  refine sm_iadd C dX10_ofAugur_9 ?_
  refine sm_iload_n C 2 rfl dX10_ofAugur_10 rfl ?_
  refine sm_iadd C dX10_ofAugur_11 ?_
  refine sm_iald C kd_80 dX10_ofAugur_12 (fun h_1 => ?_)
  exact sm_iret C E rfl dX10_ofAugur_13
/-! X10_of -/
set_option maxRecDepth 100000 in
set_option maxHeartbeats 4000000 in
theorem mX10_of {b : Bx} {w : HW} {x1 : Int32} {x2 : Int32} {a : Int32} (h : fX10_of w x1 x2 = some a) : Mt b yX10_of cX10_of 3 (some .int) 0 0 [.ref (bB b + 79), .int x1, .int x2] w (some (.int a)) w := by
  refine Mt.of (ρI w) h (by decide) (Nat.le_of_ble_eq_true rfl) (fun G hG C E => ?_)
  subst hG
  have C : Cx G cX10_of RX10 3 0 0 := C
  change Sm G a 0 [(0, .ref (hB G + 79)), (1, .int x1), (2, .int x2)] [] w _
  unfold fX10_of
  refine sm_aload_n C 0 rfl dX10_of_0 rfl ?_
  refine sm_getR C fo_10_1 rfl wd297 kd_79 dX10_of_1 (rv_79_1 w) (by decide) ?_
  refine sm_bipush C bp_33 dX10_of_4 ?_
  refine sm_iconst C ic_3 dX10_of_6 ?_
  refine sm_iload_n C 1 rfl dX10_of_7 rfl ?_
  refine sm_imul C dX10_of_8 ?_
  refine sm_iadd C dX10_of_9 ?_
  refine sm_iload_n C 2 rfl dX10_of_10 rfl ?_
  refine sm_iadd C dX10_of_11 ?_
  refine sm_iald C kd_80 dX10_of_12 (fun h_1 => ?_)
  exact sm_iret C E rfl dX10_of_13
/-! X10_feed -/
set_option maxRecDepth 100000 in
set_option maxHeartbeats 4000000 in
theorem sX10_feed_101 {G : Gx} {a : Int32 × HW} (C : Cx G cX10_feed RX10 7 0 0) (E : Rx G ρIW a (some .int)) (w : HW) : Sm G a 101 [(0, .ref (hB G + 79))] [] w (fX10_feed_101 w) := by
  unfold fX10_feed_101
  refine sm_aload_n C 0 rfl dX10_feed_101 rfl ?_
  refine sm_dup C rfl dX10_feed_102 ?_
  refine sm_getI C fo_10_5 rfl wd300 kd_79 dX10_feed_103 ?_
  refine sm_bipush C bp_20 dX10_feed_106 ?_
  refine sm_iadd C dX10_feed_108 ?_
  refine sm_putI C fo_10_5 rfl wd300 kd_79 rfl dX10_feed_109 (fun w_16 => ?_)
  refine sm_aload_n C 0 rfl dX10_feed_112 rfl ?_
  refine sm_getI C fo_10_5 rfl wd300 kd_79 dX10_feed_113 ?_
  exact sm_iret C E rfl dX10_feed_116
set_option maxRecDepth 100000 in
set_option maxHeartbeats 4000000 in
theorem sX10_feed_55 {G : Gx} {a : Int32 × HW} (C : Cx G cX10_feed RX10 7 0 0) (E : Rx G ρIW a (some .int)) : ∀ (n : Nat) (w : HW) (x6 : Int32), Sm G a 55 [(0, .ref (hB G + 79)), (6, .int x6)] [] w (fX10_feed_55 n w x6) := by
  intro n
  induction n with
  | zero => intro _ _; exact sm_none
  | succ n ih =>
    intro w x6
    rw [fX10_feed_55]
    refine sm_iload C 1 rfl dX10_feed_55 ?_
    refine sm_bipush C bp_20 dX10_feed_57 ?_
    refine sm_icmp_ge C dX10_feed_59 (tgt := 101) rfl (fun h_12 => ?_) (fun h_12 => ?_)
    · refine sm_aload_n C 0 rfl dX10_feed_62 rfl ?_
      refine sm_getR C fo_10_4 rfl wd302 kd_79 dX10_feed_63 (rv_79_4 w) (by decide) ?_
      refine sm_aload_n C 0 rfl dX10_feed_66 rfl ?_
      refine sm_getI C fo_10_5 rfl wd300 kd_79 dX10_feed_67 ?_
      refine sm_iload C 1 rfl dX10_feed_70 ?_
      refine sm_iadd C dX10_feed_72 ?_
      refine sm_aload_n C 0 rfl dX10_feed_73 rfl ?_
      refine sm_getR C fo_10_6 rfl wd301 kd_79 dX10_feed_74 (rv_79_6 w) (by decide) ?_
      refine sm_iload C 1 rfl dX10_feed_77 ?_
      refine sm_iconst C ic_4 dX10_feed_79 ?_
      refine sm_idiv C (by decide) dX10_feed_80 ?_
      refine sm_iald C kd_84 dX10_feed_81 (fun h_13 => ?_)
      refine sm_bipush C bp_24 dX10_feed_82 ?_
      refine sm_bipush C bp_8 dX10_feed_84 ?_
      refine sm_iload C 1 rfl dX10_feed_86 ?_
      refine sm_iconst C ic_4 dX10_feed_88 ?_
      refine sm_irem C (by decide) dX10_feed_89 ?_
      refine sm_imul C dX10_feed_90 ?_
      refine sm_isub C dX10_feed_91 ?_
      refine sm_ishr C dX10_feed_92 ?_
      refine sm_i2b C dX10_feed_93 ?_
      refine sm_bast C kd_83 dX10_feed_94 (fun h_14 w_15 => ?_)
      refine sm_iinc (lv1 := [(6, .int (x6 + 1)), (0, .ref (hB G + 79))]) C 1 rfl (iv_1 _) dX10_feed_95 rfl rfl ?_
      refine sm_goto C dX10_feed_98 (tgt := 55) rfl ?_
      refine sm_sub [1, 0] rfl ?_
      exact ih w_15 (x6 + 1)
    · refine sm_sub [0] rfl ?_
      exact sX10_feed_101 C E w
set_option maxRecDepth 100000 in
set_option maxHeartbeats 4000000 in
theorem mX10_feed {b : Bx} {w : HW} {x1 : Int32} {x2 : Int32} {x3 : Int32} {x4 : Int32} {x5 : Int32} {a : Int32 × HW} (h : fX10_feed w x1 x2 x3 x4 x5 = some a) : Mt b yX10_feed cX10_feed 7 (some .int) 0 0 [.ref (bB b + 79), .int x1, .int x2, .int x3, .int x4, .int x5] w (some (.int a.1)) a.2 := by
  refine Mt.of ρIW h (by decide) (Nat.le_of_ble_eq_true rfl) (fun G hG C E => ?_)
  subst hG
  have C : Cx G cX10_feed RX10 7 0 0 := C
  change Sm G a 0 [(0, .ref (hB G + 79)), (1, .int x1), (2, .int x2), (3, .int x3), (4, .int x4), (5, .int x5)] [] w _
  unfold fX10_feed
  refine sm_aload_n C 0 rfl dX10_feed_0 rfl ?_
  refine sm_getI C fo_10_5 rfl wd300 kd_79 dX10_feed_1 ?_
  refine sm_bipush C bp_20 dX10_feed_4 ?_
  refine sm_iadd C dX10_feed_6 ?_
  refine sm_sipush C sp_800 dX10_feed_7 ?_
  refine sm_icmp_le C dX10_feed_10 (tgt := 15) rfl (fun h_1 => ?_) (fun h_1 => ?_)
  · refine sm_iconst C ic_m1 dX10_feed_13 ?_
    exact sm_iret C E rfl dX10_feed_14
  · refine sm_aload_n C 0 rfl dX10_feed_15 rfl ?_
    refine sm_getR C fo_10_6 rfl wd301 kd_79 dX10_feed_16 (rv_79_6 w) (by decide) ?_
    refine sm_iconst C ic_0 dX10_feed_19 ?_
    refine sm_iload_n C 1 rfl dX10_feed_20 rfl ?_
    refine sm_iast C kd_84 dX10_feed_21 (fun h_2 w_3 => ?_)
    refine sm_aload_n C 0 rfl dX10_feed_22 rfl ?_
    refine sm_getR C fo_10_6 rfl wd301 kd_79 dX10_feed_23 (rv_79_6 w_3) (by decide) ?_
    refine sm_iconst C ic_1 dX10_feed_26 ?_
    refine sm_iload_n C 2 rfl dX10_feed_27 rfl ?_
    refine sm_iast C kd_84 dX10_feed_28 (fun h_4 w_5 => ?_)
    refine sm_aload_n C 0 rfl dX10_feed_29 rfl ?_
    refine sm_getR C fo_10_6 rfl wd301 kd_79 dX10_feed_30 (rv_79_6 w_5) (by decide) ?_
    refine sm_iconst C ic_2 dX10_feed_33 ?_
    refine sm_iload_n C 3 rfl dX10_feed_34 rfl ?_
    refine sm_iast C kd_84 dX10_feed_35 (fun h_6 w_7 => ?_)
    refine sm_aload_n C 0 rfl dX10_feed_36 rfl ?_
    refine sm_getR C fo_10_6 rfl wd301 kd_79 dX10_feed_37 (rv_79_6 w_7) (by decide) ?_
    refine sm_iconst C ic_3 dX10_feed_40 ?_
    refine sm_iload C 4 rfl dX10_feed_41 ?_
    refine sm_iast C kd_84 dX10_feed_43 (fun h_8 w_9 => ?_)
    refine sm_aload_n C 0 rfl dX10_feed_44 rfl ?_
    refine sm_getR C fo_10_6 rfl wd301 kd_79 dX10_feed_45 (rv_79_6 w_9) (by decide) ?_
    refine sm_iconst C ic_4 dX10_feed_48 ?_
    refine sm_iload C 5 rfl dX10_feed_49 ?_
    refine sm_iast C kd_84 dX10_feed_51 (fun h_10 w_11 => ?_)
    refine sm_iconst C ic_0 dX10_feed_52 ?_
    refine sm_istore (lv1 := [(6, .int 0), (0, .ref (hB G + 79)), (1, .int x1), (2, .int x2), (3, .int x3), (4, .int x4), (5, .int x5)]) C dX10_feed_53 rfl rfl ?_
    refine sm_sub [1, 0] rfl ?_
    exact sX10_feed_55 C E FU w_11 0
/-! X10_end -/
set_option maxRecDepth 100000 in
set_option maxHeartbeats 4000000 in
theorem mX10_end {b : Bx} {w : HW} {x1 : Int32} {a : Int32 × HW} (h : fX10_end w x1 = some a) : Mt b yX10_end cX10_end 2 (some .int) 1 25 [.ref (bB b + 79), .int x1] w (some (.int a.1)) a.2 := by
  refine Mt.of ρIW h (by decide) (Nat.le_of_ble_eq_true rfl) (fun G hG C E => ?_)
  subst hG
  have C : Cx G cX10_end RX10 2 1 25 := C
  change Sm G a 0 [(0, .ref (hB G + 79)), (1, .int x1)] [] w _
  unfold fX10_end
  refine sm_iload_n C 1 rfl dX10_end_0 rfl ?_
  refine sm_i2l C dX10_end_1 ?_
  refine sm_lconst C lc_0 dX10_end_2 ?_
  refine sm_aload_n C 0 rfl dX10_end_3 rfl ?_
  refine sm_getI C fo_10_5 rfl wd300 kd_79 dX10_end_4 ?_
  refine sm_i2l C dX10_end_7 ?_
  refine sm_cSI (As := [.long (x1.toInt64), .long 0, .long ((gI w 79 5).toInt64)]) C cfX10_in wd295 rfl rfl rfl rfl dX10_end_8 (fun r h => mX10_in  h) (fun r_1 => ?_)
  refine sm_if_ne C dX10_end_11 (tgt := 16) rfl (fun h_3 => ?_) (fun h_3 => ?_)
  · refine sm_iconst C ic_m1 dX10_end_14 ?_
    exact sm_iret C E rfl dX10_end_15
  · refine sm_aload_n C 0 rfl dX10_end_16 rfl ?_
    refine sm_iload_n C 1 rfl dX10_end_17 rfl ?_
    refine sm_putI C fo_10_5 rfl wd300 kd_79 rfl dX10_end_18 (fun w_4 => ?_)
    refine sm_iload_n C 1 rfl dX10_end_21 rfl ?_
    exact sm_iret C E rfl dX10_end_22
/-! X10_see -/
set_option maxRecDepth 100000 in
set_option maxHeartbeats 4000000 in
theorem mX10_see {b : Bx} {w : HW} {x1 : Int32} {a : Int32} (h : fX10_see w x1 = some a) : Mt b yX10_see cX10_see 2 (some .int) 0 0 [.ref (bB b + 79), .int x1] w (some (.int a)) w := by
  refine Mt.of (ρI w) h (by decide) (Nat.le_of_ble_eq_true rfl) (fun G hG C E => ?_)
  subst hG
  have C : Cx G cX10_see RX10 2 0 0 := C
  change Sm G a 0 [(0, .ref (hB G + 79)), (1, .int x1)] [] w _
  unfold fX10_see
  refine sm_iload_n C 1 rfl dX10_see_0 rfl ?_
  refine sm_aload_n C 0 rfl dX10_see_1 rfl ?_
  refine sm_getI C fo_10_7 rfl wd303 kd_79 dX10_see_2 ?_
  refine sm_icmp_ge C dX10_see_5 (tgt := 21) rfl (fun h_1 => ?_) (fun h_1 => ?_)
  · refine sm_aload_n C 0 rfl dX10_see_8 rfl ?_
    refine sm_getR C fo_10_4 rfl wd302 kd_79 dX10_see_9 (rv_79_4 w) (by decide) ?_
    refine sm_iload_n C 1 rfl dX10_see_12 rfl ?_
    refine sm_bald C kd_83 dX10_see_13 (fun h_2 => ?_)
    refine sm_sipush C sp_255 dX10_see_14 ?_
    refine sm_iand C dX10_see_17 ?_
    refine sm_goto C dX10_see_18 (tgt := 22) rfl ?_
    exact sm_iret C E rfl dX10_see_22
  · refine sm_iconst C ic_m1 dX10_see_21 ?_
    exact sm_iret C E rfl dX10_see_22
/-! X10_advance -/
set_option maxRecDepth 100000 in
set_option maxHeartbeats 4000000 in
theorem sX10_advance_144 {G : Gx} {a : HW} (C : Cx G cX10_advance RX10 2 1 25) (E : Rx G ρW a (none)) : ∀ (n : Nat) (w : HW), Sm G a 144 [(0, .ref (hB G + 79))] [] w (fX10_advance_144 n w) := by
  intro n
  induction n with
  | zero => intro _; exact sm_none
  | succ n ih =>
    intro w
    rw [fX10_advance_144]
    refine sm_aload_n C 0 rfl dX10_advance_144 rfl ?_
    refine sm_aload_n C 0 rfl dX10_advance_145 rfl ?_
    refine sm_getI C fo_10_8 rfl wd304 kd_79 dX10_advance_146 ?_
    refine sm_cVI (As := [.int (gI w 79 8)]) C cfX10_see wd305 kd_79 rfl rfl rfl rfl rfl dX10_advance_149 (fun r h => mX10_see  h) (fun r_33 => ?_)
    refine sm_i2l C dX10_advance_152 ?_
    refine sm_ldc2 C wd310 dX10_advance_153 ?_
    refine sm_ldc2 C wd311 dX10_advance_156 ?_
    refine sm_cSI (As := [.long (r_33.toInt64), .long 48, .long 57]) C cfX10_in wd295 rfl rfl rfl rfl dX10_advance_159 (fun r h => mX10_in  h) (fun r_35 => ?_)
    refine sm_if_eq C dX10_advance_162 (tgt := 206) rfl (fun h_37 => ?_) (fun h_37 => ?_)
    · refine sm_aload_n C 0 rfl dX10_advance_165 rfl ?_
      refine sm_ldc C wd313 dX10_advance_166 ?_
      refine sm_bipush C bp_10 dX10_advance_168 ?_
      refine sm_aload_n C 0 rfl dX10_advance_170 rfl ?_
      refine sm_getI C fo_10_11 rfl wd312 kd_79 dX10_advance_171 ?_
      refine sm_imul C dX10_advance_174 ?_
      refine sm_aload_n C 0 rfl dX10_advance_175 rfl ?_
      refine sm_aload_n C 0 rfl dX10_advance_176 rfl ?_
      refine sm_getI C fo_10_8 rfl wd304 kd_79 dX10_advance_177 ?_
      refine sm_cVI (As := [.int (gI w 79 8)]) C cfX10_see wd305 kd_79 rfl rfl rfl rfl rfl dX10_advance_180 (fun r h => mX10_see  h) (fun r_38 => ?_)
      refine sm_iadd C dX10_advance_183 ?_
      refine sm_bipush C bp_48 dX10_advance_184 ?_
      refine sm_isub C dX10_advance_186 ?_
      refine sm_min C wd314 min_st math_in min_co rfl dX10_advance_187 ?_
      refine sm_putI C fo_10_11 rfl wd312 kd_79 rfl dX10_advance_190 (fun w_40 => ?_)
      refine sm_aload_n C 0 rfl dX10_advance_193 rfl ?_
      refine sm_dup C rfl dX10_advance_194 ?_
      refine sm_getI C fo_10_8 rfl wd304 kd_79 dX10_advance_195 ?_
      refine sm_iconst C ic_1 dX10_advance_198 ?_
      refine sm_iadd C dX10_advance_199 ?_
      refine sm_putI C fo_10_8 rfl wd304 kd_79 rfl dX10_advance_200 (fun w_41 => ?_)
      refine sm_goto C dX10_advance_203 (tgt := 144) rfl ?_
      exact ih w_41
    · refine sm_aload_n C 0 rfl dX10_advance_206 rfl ?_
      refine sm_iconst C ic_2 dX10_advance_207 ?_
      refine sm_putI C fo_10_10 rfl wd307 kd_79 rfl dX10_advance_208 (fun w_42 => ?_)
      refine sm_goto C dX10_advance_211 (tgt := 239) rfl ?_
      exact sm_vret C E rfl dX10_advance_239
set_option maxRecDepth 100000 in
set_option maxHeartbeats 4000000 in
theorem sX10_advance_83 {G : Gx} {a : HW} (C : Cx G cX10_advance RX10 2 1 25) (E : Rx G ρW a (none)) : ∀ (n : Nat) (w : HW), Sm G a 83 [(0, .ref (hB G + 79))] [] w (fX10_advance_83 n w) := by
  intro n
  induction n with
  | zero => intro _; exact sm_none
  | succ n ih =>
    intro w
    rw [fX10_advance_83]
    refine sm_aload_n C 0 rfl dX10_advance_83 rfl ?_
    refine sm_aload_n C 0 rfl dX10_advance_84 rfl ?_
    refine sm_getI C fo_10_8 rfl wd304 kd_79 dX10_advance_85 ?_
    refine sm_cVI (As := [.int (gI w 79 8)]) C cfX10_see wd305 kd_79 rfl rfl rfl rfl rfl dX10_advance_88 (fun r h => mX10_see  h) (fun r_26 => ?_)
    refine sm_i2l C dX10_advance_91 ?_
    refine sm_ldc2 C wd308 dX10_advance_92 ?_
    refine sm_ldc2 C wd309 dX10_advance_95 ?_
    refine sm_cSI (As := [.long (r_26.toInt64), .long 97, .long 122]) C cfX10_in wd295 rfl rfl rfl rfl dX10_advance_98 (fun r h => mX10_in  h) (fun r_28 => ?_)
    refine sm_if_eq C dX10_advance_101 (tgt := 117) rfl (fun h_30 => ?_) (fun h_30 => ?_)
    · refine sm_aload_n C 0 rfl dX10_advance_104 rfl ?_
      refine sm_dup C rfl dX10_advance_105 ?_
      refine sm_getI C fo_10_8 rfl wd304 kd_79 dX10_advance_106 ?_
      refine sm_iconst C ic_1 dX10_advance_109 ?_
      refine sm_iadd C dX10_advance_110 ?_
      refine sm_putI C fo_10_8 rfl wd304 kd_79 rfl dX10_advance_111 (fun w_31 => ?_)
      refine sm_goto C dX10_advance_114 (tgt := 83) rfl ?_
      exact ih w_31
    · refine sm_aload_n C 0 rfl dX10_advance_117 rfl ?_
      refine sm_iconst C ic_1 dX10_advance_118 ?_
      refine sm_putI C fo_10_10 rfl wd307 kd_79 rfl dX10_advance_119 (fun w_32 => ?_)
      refine sm_goto C dX10_advance_122 (tgt := 239) rfl ?_
      exact sm_vret C E rfl dX10_advance_239
set_option maxRecDepth 100000 in
set_option maxHeartbeats 4000000 in
theorem sX10_advance_39 {G : Gx} {a : HW} (C : Cx G cX10_advance RX10 2 1 25) (E : Rx G ρW a (none)) (w : HW) : Sm G a 39 [(0, .ref (hB G + 79))] [] w (fX10_advance_39 w) := by
  unfold fX10_advance_39
  refine sm_aload_n C 0 rfl dX10_advance_39 rfl ?_
  refine sm_aload_n C 0 rfl dX10_advance_40 rfl ?_
  refine sm_getI C fo_10_8 rfl wd304 kd_79 dX10_advance_41 ?_
  refine sm_putI C fo_10_9 rfl wd306 kd_79 rfl dX10_advance_44 (fun w_9 => ?_)
  refine sm_aload_n C 0 rfl dX10_advance_47 rfl ?_
  refine sm_aload_n C 0 rfl dX10_advance_48 rfl ?_
  refine sm_getI C fo_10_8 rfl wd304 kd_79 dX10_advance_49 ?_
  refine sm_cVI (As := [.int (gI w_9 79 8)]) C cfX10_see wd305 kd_79 rfl rfl rfl rfl rfl dX10_advance_52 (fun r h => mX10_see  h) (fun r_10 => ?_)
  refine sm_istore_n (lv1 := [(1, .int r_10), (0, .ref (hB G + 79))]) C dX10_advance_55 rfl rfl rfl ?_
  refine sm_iload_n C 0 rfl dX10_advance_56 rfl ?_
  refine sm_iconst C ic_m1 dX10_advance_57 ?_
  refine sm_icmp_ne C dX10_advance_58 (tgt := 69) rfl (fun h_12 => ?_) (fun h_12 => ?_)
  · refine sm_aload_n C 1 rfl dX10_advance_61 rfl ?_
    refine sm_iconst C ic_0 dX10_advance_62 ?_
    refine sm_putI C fo_10_10 rfl wd307 kd_79 rfl dX10_advance_63 (fun w_13 => ?_)
    refine sm_goto C dX10_advance_66 (tgt := 239) rfl ?_
    exact sm_vret C E rfl dX10_advance_239
  · refine sm_iload_n C 0 rfl dX10_advance_69 rfl ?_
    refine sm_i2l C dX10_advance_70 ?_
    refine sm_ldc2 C wd308 dX10_advance_71 ?_
    refine sm_ldc2 C wd309 dX10_advance_74 ?_
    refine sm_cSI (As := [.long (r_10.toInt64), .long 97, .long 122]) C cfX10_in wd295 rfl rfl rfl rfl dX10_advance_77 (fun r h => mX10_in  h) (fun r_14 => ?_)
    refine sm_if_eq C dX10_advance_80 (tgt := 125) rfl (fun h_16 => ?_) (fun h_16 => ?_)
    · refine sm_sub [1] rfl ?_
      exact sX10_advance_83 C E FU w_9
    · refine sm_iload_n C 0 rfl dX10_advance_125 rfl ?_
      refine sm_i2l C dX10_advance_126 ?_
      refine sm_ldc2 C wd310 dX10_advance_127 ?_
      refine sm_ldc2 C wd311 dX10_advance_130 ?_
      refine sm_cSI (As := [.long (r_10.toInt64), .long 48, .long 57]) C cfX10_in wd295 rfl rfl rfl rfl dX10_advance_133 (fun r h => mX10_in  h) (fun r_17 => ?_)
      refine sm_if_eq C dX10_advance_136 (tgt := 214) rfl (fun h_19 => ?_) (fun h_19 => ?_)
      · refine sm_aload_n C 1 rfl dX10_advance_139 rfl ?_
        refine sm_iconst C ic_0 dX10_advance_140 ?_
        refine sm_putI C fo_10_11 rfl wd312 kd_79 rfl dX10_advance_141 (fun w_20 => ?_)
        refine sm_sub [1] rfl ?_
        exact sX10_advance_144 C E FU w_20
      · refine sm_aload_n C 1 rfl dX10_advance_214 rfl ?_
        refine sm_iload_n C 0 rfl dX10_advance_215 rfl ?_
        refine sm_bipush C bp_59 dX10_advance_216 ?_
        refine sm_icmp_ne C dX10_advance_218 (tgt := 225) rfl (fun h_21 => ?_) (fun h_21 => ?_)
        · refine sm_iconst C ic_3 dX10_advance_221 ?_
          refine sm_goto C dX10_advance_222 (tgt := 226) rfl ?_
          refine sm_putI C fo_10_10 rfl wd307 kd_79 rfl dX10_advance_226 (fun w_22 => ?_)
          refine sm_aload_n C 1 rfl dX10_advance_229 rfl ?_
          refine sm_dup C rfl dX10_advance_230 ?_
          refine sm_getI C fo_10_8 rfl wd304 kd_79 dX10_advance_231 ?_
          refine sm_iconst C ic_1 dX10_advance_234 ?_
          refine sm_iadd C dX10_advance_235 ?_
          refine sm_putI C fo_10_8 rfl wd304 kd_79 rfl dX10_advance_236 (fun w_23 => ?_)
          exact sm_vret C E rfl dX10_advance_239
        · refine sm_iconst C ic_4 dX10_advance_225 ?_
          refine sm_putI C fo_10_10 rfl wd307 kd_79 rfl dX10_advance_226 (fun w_24 => ?_)
          refine sm_aload_n C 1 rfl dX10_advance_229 rfl ?_
          refine sm_dup C rfl dX10_advance_230 ?_
          refine sm_getI C fo_10_8 rfl wd304 kd_79 dX10_advance_231 ?_
          refine sm_iconst C ic_1 dX10_advance_234 ?_
          refine sm_iadd C dX10_advance_235 ?_
          refine sm_putI C fo_10_8 rfl wd304 kd_79 rfl dX10_advance_236 (fun w_25 => ?_)
          exact sm_vret C E rfl dX10_advance_239
set_option maxRecDepth 100000 in
set_option maxHeartbeats 4000000 in
theorem sX10_advance_0 {G : Gx} {a : HW} (C : Cx G cX10_advance RX10 2 1 25) (E : Rx G ρW a (none)) : ∀ (n : Nat) (w : HW), Sm G a 0 [(0, .ref (hB G + 79))] [] w (fX10_advance_0 n w) := by
  intro n
  induction n with
  | zero => intro _; exact sm_none
  | succ n ih =>
    intro w
    rw [fX10_advance_0]
    refine sm_aload_n C 0 rfl dX10_advance_0 rfl ?_
    refine sm_aload_n C 0 rfl dX10_advance_1 rfl ?_
    refine sm_getI C fo_10_8 rfl wd304 kd_79 dX10_advance_2 ?_
    refine sm_cVI (As := [.int (gI w 79 8)]) C cfX10_see wd305 kd_79 rfl rfl rfl rfl rfl dX10_advance_5 (fun r h => mX10_see  h) (fun r_1 => ?_)
    refine sm_bipush C bp_32 dX10_advance_8 ?_
    refine sm_icmp_eq C dX10_advance_10 (tgt := 26) rfl (fun h_3 => ?_) (fun h_3 => ?_)
    · refine sm_aload_n C 0 rfl dX10_advance_13 rfl ?_
      refine sm_aload_n C 0 rfl dX10_advance_14 rfl ?_
      refine sm_getI C fo_10_8 rfl wd304 kd_79 dX10_advance_15 ?_
      refine sm_cVI (As := [.int (gI w 79 8)]) C cfX10_see wd305 kd_79 rfl rfl rfl rfl rfl dX10_advance_18 (fun r h => mX10_see  h) (fun r_4 => ?_)
      refine sm_bipush C bp_10 dX10_advance_21 ?_
      refine sm_icmp_ne C dX10_advance_23 (tgt := 39) rfl (fun h_6 => ?_) (fun h_6 => ?_)
      · refine sm_aload_n C 0 rfl dX10_advance_26 rfl ?_
        refine sm_dup C rfl dX10_advance_27 ?_
        refine sm_getI C fo_10_8 rfl wd304 kd_79 dX10_advance_28 ?_
        refine sm_iconst C ic_1 dX10_advance_31 ?_
        refine sm_iadd C dX10_advance_32 ?_
        refine sm_putI C fo_10_8 rfl wd304 kd_79 rfl dX10_advance_33 (fun w_7 => ?_)
        refine sm_goto C dX10_advance_36 (tgt := 0) rfl ?_
        exact ih w_7
      · exact sX10_advance_39 C E w
    · refine sm_aload_n C 0 rfl dX10_advance_26 rfl ?_
      refine sm_dup C rfl dX10_advance_27 ?_
      refine sm_getI C fo_10_8 rfl wd304 kd_79 dX10_advance_28 ?_
      refine sm_iconst C ic_1 dX10_advance_31 ?_
      refine sm_iadd C dX10_advance_32 ?_
      refine sm_putI C fo_10_8 rfl wd304 kd_79 rfl dX10_advance_33 (fun w_8 => ?_)
      refine sm_goto C dX10_advance_36 (tgt := 0) rfl ?_
      exact ih w_8
set_option maxRecDepth 100000 in
set_option maxHeartbeats 4000000 in
theorem mX10_advance {b : Bx} {w : HW} {a : HW} (h : fX10_advance w = some a) : Mt b yX10_advance cX10_advance 2 (none) 1 25 [.ref (bB b + 79)] w none a := by
  refine Mt.of ρW h (by decide) (Nat.le_of_ble_eq_true rfl) (fun G hG C E => ?_)
  subst hG
  have C : Cx G cX10_advance RX10 2 1 25 := C
  change Sm G a 0 [(0, .ref (hB G + 79))] [] w _
  unfold fX10_advance
  exact sX10_advance_0 C E FU w
/-! X10_good -/
set_option maxRecDepth 100000 in
set_option maxHeartbeats 4000000 in
theorem mX10_good {b : Bx} {w : HW} {a : Int32} (h : fX10_good w = some a) : Mt b yX10_good cX10_good 1 (some .boolean) 0 0 [.ref (bB b + 79)] w (some (.int a)) w := by
  refine Mt.of (ρI w) h (by decide) (Nat.le_of_ble_eq_true rfl) (fun G hG C E => ?_)
  subst hG
  have C : Cx G cX10_good RX10 1 0 0 := C
  change Sm G a 0 [(0, .ref (hB G + 79))] [] w _
  unfold fX10_good
  refine sm_aload_n C 0 rfl dX10_good_0 rfl ?_
  refine sm_getI C fo_10_12 rfl wd315 kd_79 dX10_good_1 ?_
  refine sm_if_ne C dX10_good_4 (tgt := 11) rfl (fun h_1 => ?_) (fun h_1 => ?_)
  · refine sm_iconst C ic_1 dX10_good_7 ?_
    refine sm_goto C dX10_good_8 (tgt := 12) rfl ?_
    exact sm_zret C E rfl rfl dX10_good_12
  · refine sm_iconst C ic_0 dX10_good_11 ?_
    exact sm_zret C E rfl rfl dX10_good_12
/-! X10_errs -/
set_option maxRecDepth 100000 in
set_option maxHeartbeats 4000000 in
theorem mX10_errs {b : Bx} {w : HW} {x1 : Int32} {a : HW} (h : fX10_errs w x1 = some a) : Mt b yX10_errs cX10_errs 2 (none) 1 20 [.ref (bB b + 79), .int x1] w none a := by
  refine Mt.of ρW h (by decide) (Nat.le_of_ble_eq_true rfl) (fun G hG C E => ?_)
  subst hG
  have C : Cx G cX10_errs RX10 2 1 20 := C
  change Sm G a 0 [(0, .ref (hB G + 79)), (1, .int x1)] [] w _
  unfold fX10_errs
  refine sm_aload_n C 0 rfl dX10_errs_0 rfl ?_
  refine sm_cVI (As := []) C cfX10_good wd316 kd_79 rfl rfl rfl rfl rfl dX10_errs_1 (fun r h => mX10_good  h) (fun r_1 => ?_)
  refine sm_if_ne C dX10_errs_4 (tgt := 8) rfl (fun h_3 => ?_) (fun h_3 => ?_)
  · exact sm_vret C E rfl dX10_errs_7
  · refine sm_aload_n C 0 rfl dX10_errs_8 rfl ?_
    refine sm_iload_n C 1 rfl dX10_errs_9 rfl ?_
    refine sm_putI C fo_10_12 rfl wd315 kd_79 rfl dX10_errs_10 (fun w_4 => ?_)
    refine sm_aload_n C 0 rfl dX10_errs_13 rfl ?_
    refine sm_aload_n C 0 rfl dX10_errs_14 rfl ?_
    refine sm_getI C fo_10_9 rfl wd306 kd_79 dX10_errs_15 ?_
    refine sm_putI C fo_10_13 rfl wd317 kd_79 rfl dX10_errs_18 (fun w_5 => ?_)
    exact sm_vret C E rfl dX10_errs_21
/-! X10_is -/
set_option maxRecDepth 100000 in
set_option maxHeartbeats 4000000 in
theorem sX10_is_39 {G : Gx} {a : Int32} {w : HW} (C : Cx G cX10_is RX10 4 4 93) (E : Rx G (ρI w) a (some .boolean)) {q1 : Nat} : ∀ (n : Nat) (x2 : Int32) (x3 : Int32), Sm G a 39 [(0, .ref (hB G + 79)), (1, .ref (hA G q1).1), (2, .int x2), (3, .int x3)] [] w (fX10_is_39 w q1 n x2 x3) := by
  intro n
  induction n with
  | zero => intro _ _; exact sm_none
  | succ n ih =>
    intro x2 x3
    rw [fX10_is_39]
    refine sm_iload_n C 3 rfl dX10_is_39 rfl ?_
    refine sm_aload_n C 1 rfl dX10_is_40 rfl ?_
    refine sm_slen C wd318 rfl dX10_is_41 (fun h_7 => ?_)
    refine sm_icmp_ge C dX10_is_44 (tgt := 82) rfl (fun h_8 => ?_) (fun h_8 => ?_)
    · refine sm_iload_n C 2 rfl dX10_is_47 rfl ?_
      refine sm_if_eq C dX10_is_48 (tgt := 82) rfl (fun h_9 => ?_) (fun h_9 => ?_)
      · refine sm_aload_n C 0 rfl dX10_is_51 rfl ?_
        refine sm_getR C fo_10_4 rfl wd302 kd_79 dX10_is_52 (rv_79_4 w) (by decide) ?_
        refine sm_aload_n C 0 rfl dX10_is_55 rfl ?_
        refine sm_getI C fo_10_9 rfl wd306 kd_79 dX10_is_56 ?_
        refine sm_iload_n C 3 rfl dX10_is_59 rfl ?_
        refine sm_iadd C dX10_is_60 ?_
        refine sm_bald C kd_83 dX10_is_61 (fun h_10 => ?_)
        refine sm_aload_n C 1 rfl dX10_is_62 rfl ?_
        refine sm_iload_n C 3 rfl dX10_is_63 rfl ?_
        refine sm_schr C wd319 rfl dX10_is_64 (fun h_11 => ?_)
        refine sm_icmp_ne C dX10_is_67 (tgt := 74) rfl (fun h_12 => ?_) (fun h_12 => ?_)
        · refine sm_iconst C ic_1 dX10_is_70 ?_
          refine sm_goto C dX10_is_71 (tgt := 75) rfl ?_
          refine sm_istore_n (lv1 := [(2, .int 1), (0, .ref (hB G + 79)), (1, .ref (hA G q1).1), (3, .int x3)]) C dX10_is_75 rfl rfl rfl ?_
          refine sm_iinc (lv1 := [(3, .int (x3 + 1)), (2, .int 1), (0, .ref (hB G + 79)), (1, .ref (hA G q1).1)]) C 3 rfl (iv_1 _) dX10_is_76 rfl rfl ?_
          refine sm_goto C dX10_is_79 (tgt := 39) rfl ?_
          refine sm_sub [2, 3, 1, 0] rfl ?_
          exact ih 1 (x3 + 1)
        · refine sm_iconst C ic_0 dX10_is_74 ?_
          refine sm_istore_n (lv1 := [(2, .int 0), (0, .ref (hB G + 79)), (1, .ref (hA G q1).1), (3, .int x3)]) C dX10_is_75 rfl rfl rfl ?_
          refine sm_iinc (lv1 := [(3, .int (x3 + 1)), (2, .int 0), (0, .ref (hB G + 79)), (1, .ref (hA G q1).1)]) C 3 rfl (iv_1 _) dX10_is_76 rfl rfl ?_
          refine sm_goto C dX10_is_79 (tgt := 39) rfl ?_
          refine sm_sub [2, 3, 1, 0] rfl ?_
          exact ih 0 (x3 + 1)
      · refine sm_iload_n C 2 rfl dX10_is_82 rfl ?_
        refine sm_chk (fun h_13 => ?_)
        exact sm_zret C E rfl (zB_nar h_13) dX10_is_83
    · refine sm_iload_n C 2 rfl dX10_is_82 rfl ?_
      refine sm_chk (fun h_14 => ?_)
      exact sm_zret C E rfl (zB_nar h_14) dX10_is_83
set_option maxRecDepth 100000 in
set_option maxHeartbeats 4000000 in
theorem mX10_is {b : Bx} {w : HW} {q1 : Nat} {a : Int32} (h : fX10_is w q1 = some a) : Mt b yX10_is cX10_is 4 (some .boolean) 4 93 [.ref (bB b + 79), .ref (bA b q1).1] w (some (.int a)) w := by
  refine Mt.of (ρI w) h (by decide) (Nat.le_of_ble_eq_true rfl) (fun G hG C E => ?_)
  subst hG
  have C : Cx G cX10_is RX10 4 4 93 := C
  change Sm G a 0 [(0, .ref (hB G + 79)), (1, .ref (hA G q1).1)] [] w _
  unfold fX10_is
  refine sm_aload_n C 0 rfl dX10_is_0 rfl ?_
  refine sm_cVI (As := []) C cfX10_good wd316 kd_79 rfl rfl rfl rfl rfl dX10_is_1 (fun r h => mX10_good  h) (fun r_1 => ?_)
  refine sm_if_eq C dX10_is_4 (tgt := 35) rfl (fun h_3 => ?_) (fun h_3 => ?_)
  · refine sm_aload_n C 0 rfl dX10_is_7 rfl ?_
    refine sm_getI C fo_10_10 rfl wd307 kd_79 dX10_is_8 ?_
    refine sm_iconst C ic_1 dX10_is_11 ?_
    refine sm_icmp_ne C dX10_is_12 (tgt := 35) rfl (fun h_4 => ?_) (fun h_4 => ?_)
    · refine sm_aload_n C 0 rfl dX10_is_15 rfl ?_
      refine sm_getI C fo_10_8 rfl wd304 kd_79 dX10_is_16 ?_
      refine sm_aload_n C 0 rfl dX10_is_19 rfl ?_
      refine sm_getI C fo_10_9 rfl wd306 kd_79 dX10_is_20 ?_
      refine sm_isub C dX10_is_23 ?_
      refine sm_aload_n C 1 rfl dX10_is_24 rfl ?_
      refine sm_slen C wd318 rfl dX10_is_25 (fun h_5 => ?_)
      refine sm_icmp_ne C dX10_is_28 (tgt := 35) rfl (fun h_6 => ?_) (fun h_6 => ?_)
      · refine sm_iconst C ic_1 dX10_is_31 ?_
        refine sm_goto C dX10_is_32 (tgt := 36) rfl ?_
        refine sm_istore_n (lv1 := [(2, .int 1), (0, .ref (hB G + 79)), (1, .ref (hA G q1).1)]) C dX10_is_36 rfl rfl rfl ?_
        refine sm_iconst C ic_0 dX10_is_37 ?_
        refine sm_istore_n (lv1 := [(3, .int 0), (2, .int 1), (0, .ref (hB G + 79)), (1, .ref (hA G q1).1)]) C dX10_is_38 rfl rfl rfl ?_
        refine sm_sub [2, 3, 1, 0] rfl ?_
        exact sX10_is_39 C E FU 1 0
      · refine sm_iconst C ic_0 dX10_is_35 ?_
        refine sm_istore_n (lv1 := [(2, .int 0), (0, .ref (hB G + 79)), (1, .ref (hA G q1).1)]) C dX10_is_36 rfl rfl rfl ?_
        refine sm_iconst C ic_0 dX10_is_37 ?_
        refine sm_istore_n (lv1 := [(3, .int 0), (2, .int 0), (0, .ref (hB G + 79)), (1, .ref (hA G q1).1)]) C dX10_is_38 rfl rfl rfl ?_
        refine sm_sub [2, 3, 1, 0] rfl ?_
        exact sX10_is_39 C E FU 0 0
    · refine sm_iconst C ic_0 dX10_is_35 ?_
      refine sm_istore_n (lv1 := [(2, .int 0), (0, .ref (hB G + 79)), (1, .ref (hA G q1).1)]) C dX10_is_36 rfl rfl rfl ?_
      refine sm_iconst C ic_0 dX10_is_37 ?_
      refine sm_istore_n (lv1 := [(3, .int 0), (2, .int 0), (0, .ref (hB G + 79)), (1, .ref (hA G q1).1)]) C dX10_is_38 rfl rfl rfl ?_
      refine sm_sub [2, 3, 1, 0] rfl ?_
      exact sX10_is_39 C E FU 0 0
  · refine sm_iconst C ic_0 dX10_is_35 ?_
    refine sm_istore_n (lv1 := [(2, .int 0), (0, .ref (hB G + 79)), (1, .ref (hA G q1).1)]) C dX10_is_36 rfl rfl rfl ?_
    refine sm_iconst C ic_0 dX10_is_37 ?_
    refine sm_istore_n (lv1 := [(3, .int 0), (2, .int 0), (0, .ref (hB G + 79)), (1, .ref (hA G q1).1)]) C dX10_is_38 rfl rfl rfl ?_
    refine sm_sub [2, 3, 1, 0] rfl ?_
    exact sX10_is_39 C E FU 0 0
/-! X10_takes -/
set_option maxRecDepth 100000 in
set_option maxHeartbeats 4000000 in
theorem mX10_takes {b : Bx} {w : HW} {q1 : Nat} {a : Int32 × HW} (h : fX10_takes w q1 = some a) : Mt b yX10_takes cX10_takes 3 (some .boolean) 5 116 [.ref (bB b + 79), .ref (bA b q1).1] w (some (.int a.1)) a.2 := by
  refine Mt.of ρIW h (by decide) (Nat.le_of_ble_eq_true rfl) (fun G hG C E => ?_)
  subst hG
  have C : Cx G cX10_takes RX10 3 5 116 := C
  change Sm G a 0 [(0, .ref (hB G + 79)), (1, .ref (hA G q1).1)] [] w _
  unfold fX10_takes
  refine sm_aload_n C 0 rfl dX10_takes_0 rfl ?_
  refine sm_aload_n C 1 rfl dX10_takes_1 rfl ?_
  refine sm_cVI (As := [.ref (hA G q1).1]) C cfX10_is wd320 kd_79 rfl rfl rfl rfl rfl dX10_takes_2 (fun r h => mX10_is  h) (fun r_1 => ?_)
  refine sm_istore_n (lv1 := [(2, .int r_1), (0, .ref (hB G + 79)), (1, .ref (hA G q1).1)]) C dX10_takes_5 rfl rfl rfl ?_
  refine sm_iload_n C 0 rfl dX10_takes_6 rfl ?_
  refine sm_if_eq C dX10_takes_7 (tgt := 14) rfl (fun h_3 => ?_) (fun h_3 => ?_)
  · refine sm_aload_n C 1 rfl dX10_takes_10 rfl ?_
    refine sm_cVW (As := []) C cfX10_advance wd321 kd_79 rfl rfl rfl rfl rfl dX10_takes_11 (fun r h => mX10_advance  h) (fun w_5 => ?_)
    refine sm_iload_n C 0 rfl dX10_takes_14 rfl ?_
    refine sm_chk (fun h_6 => ?_)
    exact sm_zret C E rfl (zB_nar h_6) dX10_takes_15
  · refine sm_iload_n C 0 rfl dX10_takes_14 rfl ?_
    refine sm_chk (fun h_7 => ?_)
    exact sm_zret C E rfl (zB_nar h_7) dX10_takes_15
/-! X10_needs -/
set_option maxRecDepth 100000 in
set_option maxHeartbeats 4000000 in
theorem mX10_needs {b : Bx} {w : HW} {q1 : Nat} {a : HW} (h : fX10_needs w q1 = some a) : Mt b yX10_needs cX10_needs 2 (none) 6 138 [.ref (bB b + 79), .ref (bA b q1).1] w none a := by
  refine Mt.of ρW h (by decide) (Nat.le_of_ble_eq_true rfl) (fun G hG C E => ?_)
  subst hG
  have C : Cx G cX10_needs RX10 2 6 138 := C
  change Sm G a 0 [(0, .ref (hB G + 79)), (1, .ref (hA G q1).1)] [] w _
  unfold fX10_needs
  refine sm_aload_n C 0 rfl dX10_needs_0 rfl ?_
  refine sm_aload_n C 1 rfl dX10_needs_1 rfl ?_
  refine sm_cVIW (As := [.ref (hA G q1).1]) C cfX10_takes wd322 kd_79 rfl rfl rfl rfl rfl dX10_needs_2 (fun r h => mX10_takes  h) (fun r_1 w_2 => ?_)
  refine sm_if_ne C dX10_needs_5 (tgt := 13) rfl (fun h_3 => ?_) (fun h_3 => ?_)
  · refine sm_aload_n C 0 rfl dX10_needs_8 rfl ?_
    refine sm_iconst C ic_1 dX10_needs_9 ?_
    refine sm_cVW (As := [.int 1]) C cfX10_errs wd323 kd_79 rfl rfl rfl rfl rfl dX10_needs_10 (fun r h => mX10_errs  h) (fun w_5 => ?_)
    exact sm_vret C E rfl dX10_needs_13
  · exact sm_vret C E rfl dX10_needs_13
/-! X10_number -/
set_option maxRecDepth 100000 in
set_option maxHeartbeats 4000000 in
theorem sX10_number_47 {G : Gx} {a : Int32 × HW} (C : Cx G cX10_number RX10 4 2 46) (E : Rx G ρIW a (some .int)) (w : HW) : Sm G a 47 [(0, .ref (hB G + 79))] [] w (fX10_number_47 w) := by
  unfold fX10_number_47
  refine sm_aload_n C 0 rfl dX10_number_47 rfl ?_
  refine sm_cVI (As := []) C cfX10_good wd316 kd_79 rfl rfl rfl rfl rfl dX10_number_48 (fun r h => mX10_good  h) (fun r_15 => ?_)
  refine sm_if_ne C dX10_number_51 (tgt := 56) rfl (fun h_17 => ?_) (fun h_17 => ?_)
  · refine sm_iconst C ic_0 dX10_number_54 ?_
    exact sm_iret C E rfl dX10_number_55
  · refine sm_aload_n C 0 rfl dX10_number_56 rfl ?_
    refine sm_getI C fo_10_11 rfl wd312 kd_79 dX10_number_57 ?_
    refine sm_let (fun x3_18 => ?_)
    refine sm_istore_n (lv1 := [(3, .int x3_18), (0, .ref (hB G + 79))]) C dX10_number_60 rfl rfl rfl ?_
    refine sm_aload_n C 1 rfl dX10_number_61 rfl ?_
    refine sm_cVW (As := []) C cfX10_advance wd321 kd_79 rfl rfl rfl rfl rfl dX10_number_62 (fun r h => mX10_advance  h) (fun w_20 => ?_)
    refine sm_iload_n C 0 rfl dX10_number_65 rfl ?_
    exact sm_iret C E rfl dX10_number_66
set_option maxRecDepth 100000 in
set_option maxHeartbeats 4000000 in
theorem sX10_number_20 {G : Gx} {a : Int32 × HW} (C : Cx G cX10_number RX10 4 2 46) (E : Rx G ρIW a (some .int)) (w : HW) (x1 : Int32) (x2 : Int32) : Sm G a 20 [(0, .ref (hB G + 79)), (1, .int x1), (2, .int x2)] [] w (fX10_number_20 w x1 x2) := by
  unfold fX10_number_20
  refine sm_aload_n C 0 rfl dX10_number_20 rfl ?_
  refine sm_cVI (As := []) C cfX10_good wd316 kd_79 rfl rfl rfl rfl rfl dX10_number_21 (fun r h => mX10_good  h) (fun r_7 => ?_)
  refine sm_if_eq C dX10_number_24 (tgt := 47) rfl (fun h_9 => ?_) (fun h_9 => ?_)
  · refine sm_aload_n C 0 rfl dX10_number_27 rfl ?_
    refine sm_getI C fo_10_11 rfl wd312 kd_79 dX10_number_28 ?_
    refine sm_i2l C dX10_number_31 ?_
    refine sm_iload_n C 1 rfl dX10_number_32 rfl ?_
    refine sm_i2l C dX10_number_33 ?_
    refine sm_iload_n C 2 rfl dX10_number_34 rfl ?_
    refine sm_i2l C dX10_number_35 ?_
    refine sm_cSI (As := [.long ((gI w 79 11).toInt64), .long (x1.toInt64), .long (x2.toInt64)]) C cfX10_in wd295 rfl rfl rfl rfl dX10_number_36 (fun r h => mX10_in  h) (fun r_10 => ?_)
    refine sm_if_ne C dX10_number_39 (tgt := 47) rfl (fun h_12 => ?_) (fun h_12 => ?_)
    · refine sm_aload_n C 0 rfl dX10_number_42 rfl ?_
      refine sm_iconst C ic_2 dX10_number_43 ?_
      refine sm_cVW (As := [.int 2]) C cfX10_errs wd323 kd_79 rfl rfl rfl rfl rfl dX10_number_44 (fun r h => mX10_errs  h) (fun w_14 => ?_)
      refine sm_sub [0] rfl ?_
      exact sX10_number_47 C E w_14
    · refine sm_sub [0] rfl ?_
      exact sX10_number_47 C E w
  · refine sm_sub [0] rfl ?_
    exact sX10_number_47 C E w
set_option maxRecDepth 100000 in
set_option maxHeartbeats 4000000 in
theorem mX10_number {b : Bx} {w : HW} {x1 : Int32} {x2 : Int32} {a : Int32 × HW} (h : fX10_number w x1 x2 = some a) : Mt b yX10_number cX10_number 4 (some .int) 2 46 [.ref (bB b + 79), .int x1, .int x2] w (some (.int a.1)) a.2 := by
  refine Mt.of ρIW h (by decide) (Nat.le_of_ble_eq_true rfl) (fun G hG C E => ?_)
  subst hG
  have C : Cx G cX10_number RX10 4 2 46 := C
  change Sm G a 0 [(0, .ref (hB G + 79)), (1, .int x1), (2, .int x2)] [] w _
  unfold fX10_number
  refine sm_aload_n C 0 rfl dX10_number_0 rfl ?_
  refine sm_cVI (As := []) C cfX10_good wd316 kd_79 rfl rfl rfl rfl rfl dX10_number_1 (fun r h => mX10_good  h) (fun r_1 => ?_)
  refine sm_if_eq C dX10_number_4 (tgt := 20) rfl (fun h_3 => ?_) (fun h_3 => ?_)
  · refine sm_aload_n C 0 rfl dX10_number_7 rfl ?_
    refine sm_getI C fo_10_10 rfl wd307 kd_79 dX10_number_8 ?_
    refine sm_iconst C ic_2 dX10_number_11 ?_
    refine sm_icmp_eq C dX10_number_12 (tgt := 20) rfl (fun h_4 => ?_) (fun h_4 => ?_)
    · refine sm_aload_n C 0 rfl dX10_number_15 rfl ?_
      refine sm_iconst C ic_1 dX10_number_16 ?_
      refine sm_cVW (As := [.int 1]) C cfX10_errs wd323 kd_79 rfl rfl rfl rfl rfl dX10_number_17 (fun r h => mX10_errs  h) (fun w_6 => ?_)
      exact sX10_number_20 C E w_6 x1 x2
    · exact sX10_number_20 C E w x1 x2
  · exact sX10_number_20 C E w x1 x2
/-! X10_told -/
set_option maxRecDepth 100000 in
set_option maxHeartbeats 4000000 in
theorem mX10_told {b : Bx} {w : HW} {q1 : Nat} {x2 : Int32} {x3 : Int32} {a : Int32 × HW} (h : fX10_told w q1 x2 x3 = some a) : Mt b yX10_told cX10_told 4 (some .int) 7 159 [.ref (bB b + 79), .ref (bA b q1).1, .int x2, .int x3] w (some (.int a.1)) a.2 := by
  refine Mt.of ρIW h (by decide) (Nat.le_of_ble_eq_true rfl) (fun G hG C E => ?_)
  subst hG
  have C : Cx G cX10_told RX10 4 7 159 := C
  change Sm G a 0 [(0, .ref (hB G + 79)), (1, .ref (hA G q1).1), (2, .int x2), (3, .int x3)] [] w _
  unfold fX10_told
  refine sm_aload_n C 0 rfl dX10_told_0 rfl ?_
  refine sm_aload_n C 1 rfl dX10_told_1 rfl ?_
  refine sm_cVW (As := [.ref (hA G q1).1]) C cfX10_needs wd324 kd_79 rfl rfl rfl rfl rfl dX10_told_2 (fun r h => mX10_needs  h) (fun w_2 => ?_)
  refine sm_aload_n C 0 rfl dX10_told_5 rfl ?_
  refine sm_iload_n C 2 rfl dX10_told_6 rfl ?_
  refine sm_iload_n C 3 rfl dX10_told_7 rfl ?_
  refine sm_cVIW (As := [.int x2, .int x3]) C cfX10_number wd325 kd_79 rfl rfl rfl rfl rfl dX10_told_8 (fun r h => mX10_number  h) (fun r_3 w_4 => ?_)
  exact sm_iret C E rfl dX10_told_11
/-! X10_fault -/
set_option maxRecDepth 100000 in
set_option maxHeartbeats 4000000 in
theorem mX10_fault {b : Bx} {w : HW} {x1 : Int32} {a : Int32} (h : fX10_fault w x1 = some a) : Mt b yX10_fault cX10_fault 2 (some .int) 0 0 [.ref (bB b + 79), .int x1] w (some (.int a)) w := by
  refine Mt.of (ρI w) h (by decide) (Nat.le_of_ble_eq_true rfl) (fun G hG C E => ?_)
  subst hG
  have C : Cx G cX10_fault RX10 2 0 0 := C
  change Sm G a 0 [(0, .ref (hB G + 79)), (1, .int x1)] [] w _
  unfold fX10_fault
  refine sm_iload_n C 1 rfl dX10_fault_0 rfl ?_
  refine sm_if_ne C dX10_fault_1 (tgt := 11) rfl (fun h_1 => ?_) (fun h_1 => ?_)
  · refine sm_aload_n C 0 rfl dX10_fault_4 rfl ?_
    refine sm_getI C fo_10_12 rfl wd315 kd_79 dX10_fault_5 ?_
    refine sm_goto C dX10_fault_8 (tgt := 24) rfl ?_
    exact sm_iret C E rfl dX10_fault_24
  · refine sm_iload_n C 1 rfl dX10_fault_11 rfl ?_
    refine sm_iconst C ic_1 dX10_fault_12 ?_
    refine sm_icmp_ne C dX10_fault_13 (tgt := 23) rfl (fun h_2 => ?_) (fun h_2 => ?_)
    · refine sm_aload_n C 0 rfl dX10_fault_16 rfl ?_
      refine sm_getI C fo_10_13 rfl wd317 kd_79 dX10_fault_17 ?_
      refine sm_goto C dX10_fault_20 (tgt := 24) rfl ?_
      exact sm_iret C E rfl dX10_fault_24
    · refine sm_iconst C ic_m1 dX10_fault_23 ?_
      exact sm_iret C E rfl dX10_fault_24
/-! X10_readFirst -/
set_option maxRecDepth 100000 in
set_option maxHeartbeats 4000000 in
theorem mX10_readFirst {b : Bx} {w : HW} {a : HW} (h : fX10_readFirst w = some a) : Mt b yX10_readFirst cX10_readFirst 1 (none) 8 182 [.ref (bB b + 79)] w none a := by
  refine Mt.of ρW h (by decide) (Nat.le_of_ble_eq_true rfl) (fun G hG C E => ?_)
  subst hG
  have C : Cx G cX10_readFirst RX10 1 8 182 := C
  change Sm G a 0 [(0, .ref (hB G + 79))] [] w _
  unfold fX10_readFirst
  refine sm_aload_n C 0 rfl dX10_readFirst_0 rfl ?_
  refine sm_ldcS C 13 rfl dX10_readFirst_1 ?_
  refine sm_cVW (As := [.ref (hA G 0).1]) C cfX10_needs wd324 kd_79 rfl rfl rfl rfl rfl dX10_readFirst_3 (fun r h => mX10_needs  h) (fun w_2 => ?_)
  refine sm_aload_n C 0 rfl dX10_readFirst_6 rfl ?_
  refine sm_getR C fo_10_14 rfl wd326 kd_79 dX10_readFirst_7 (rv_79_14 w_2) (by decide) ?_
  refine sm_iconst C ic_0 dX10_readFirst_10 ?_
  refine sm_aload_n C 0 rfl dX10_readFirst_11 rfl ?_
  refine sm_ldcS C 14 rfl dX10_readFirst_12 ?_
  refine sm_iconst C ic_1 dX10_readFirst_14 ?_
  refine sm_bipush C bp_14 dX10_readFirst_15 ?_
  refine sm_cVIW (As := [.ref (hA G 1).1, .int 1, .int 14]) C cfX10_told wd327 kd_79 rfl rfl rfl rfl rfl dX10_readFirst_17 (fun r h => mX10_told  h) (fun r_3 w_4 => ?_)
  refine sm_iast C kd_85 dX10_readFirst_20 (fun h_5 w_6 => ?_)
  refine sm_aload_n C 0 rfl dX10_readFirst_21 rfl ?_
  refine sm_getR C fo_10_14 rfl wd326 kd_79 dX10_readFirst_22 (rv_79_14 w_6) (by decide) ?_
  refine sm_iconst C ic_1 dX10_readFirst_25 ?_
  refine sm_aload_n C 0 rfl dX10_readFirst_26 rfl ?_
  refine sm_ldcS C 15 rfl dX10_readFirst_27 ?_
  refine sm_iconst C ic_0 dX10_readFirst_29 ?_
  refine sm_bipush C bp_9 dX10_readFirst_30 ?_
  refine sm_cVIW (As := [.ref (hA G 2).1, .int 0, .int 9]) C cfX10_told wd327 kd_79 rfl rfl rfl rfl rfl dX10_readFirst_32 (fun r h => mX10_told  h) (fun r_7 w_8 => ?_)
  refine sm_iast C kd_85 dX10_readFirst_35 (fun h_9 w_10 => ?_)
  refine sm_aload_n C 0 rfl dX10_readFirst_36 rfl ?_
  refine sm_getR C fo_10_14 rfl wd326 kd_79 dX10_readFirst_37 (rv_79_14 w_10) (by decide) ?_
  refine sm_iconst C ic_2 dX10_readFirst_40 ?_
  refine sm_aload_n C 0 rfl dX10_readFirst_41 rfl ?_
  refine sm_ldcS C 16 rfl dX10_readFirst_42 ?_
  refine sm_iconst C ic_1 dX10_readFirst_44 ?_
  refine sm_bipush C bp_9 dX10_readFirst_45 ?_
  refine sm_cVIW (As := [.ref (hA G 3).1, .int 1, .int 9]) C cfX10_told wd327 kd_79 rfl rfl rfl rfl rfl dX10_readFirst_47 (fun r h => mX10_told  h) (fun r_11 w_12 => ?_)
  refine sm_iast C kd_85 dX10_readFirst_50 (fun h_13 w_14 => ?_)
  refine sm_aload_n C 0 rfl dX10_readFirst_51 rfl ?_
  refine sm_getR C fo_10_14 rfl wd326 kd_79 dX10_readFirst_52 (rv_79_14 w_14) (by decide) ?_
  refine sm_iconst C ic_3 dX10_readFirst_55 ?_
  refine sm_aload_n C 0 rfl dX10_readFirst_56 rfl ?_
  refine sm_ldcS C 17 rfl dX10_readFirst_57 ?_
  refine sm_iconst C ic_0 dX10_readFirst_59 ?_
  refine sm_bipush C bp_10 dX10_readFirst_60 ?_
  refine sm_cVIW (As := [.ref (hA G 4).1, .int 0, .int 10]) C cfX10_told wd327 kd_79 rfl rfl rfl rfl rfl dX10_readFirst_62 (fun r h => mX10_told  h) (fun r_15 w_16 => ?_)
  refine sm_iast C kd_85 dX10_readFirst_65 (fun h_17 w_18 => ?_)
  exact sm_vret C E rfl dX10_readFirst_66
/-! X10_readAugur -/
set_option maxRecDepth 100000 in
set_option maxHeartbeats 4000000 in
theorem mX10_readAugur {b : Bx} {w : HW} {a : HW} (h : fX10_readAugur w = some a) : Mt b yX10_readAugur cX10_readAugur 2 (none) 8 182 [.ref (bB b + 79)] w none a := by
  refine Mt.of ρW h (by decide) (Nat.le_of_ble_eq_true rfl) (fun G hG C E => ?_)
  subst hG
  have C : Cx G cX10_readAugur RX10 2 8 182 := C
  change Sm G a 0 [(0, .ref (hB G + 79))] [] w _
  unfold fX10_readAugur
  refine sm_bipush C bp_9 dX10_readAugur_0 ?_
  refine sm_iconst C ic_3 dX10_readAugur_2 ?_
  refine sm_aload_n C 0 rfl dX10_readAugur_3 rfl ?_
  refine sm_getR C fo_10_14 rfl wd326 kd_79 dX10_readAugur_4 (rv_79_14 w) (by decide) ?_
  refine sm_iconst C ic_4 dX10_readAugur_7 ?_
  refine sm_iald C kd_85 dX10_readAugur_8 (fun h_1 => ?_)
  refine sm_imul C dX10_readAugur_9 ?_
  refine sm_iadd C dX10_readAugur_10 ?_
  refine sm_let (fun x1_2 => ?_)
  refine sm_istore_n (lv1 := [(1, .int x1_2), (0, .ref (hB G + 79))]) C dX10_readAugur_11 rfl rfl rfl ?_
  refine sm_aload_n C 1 rfl dX10_readAugur_12 rfl ?_
  refine sm_getR C fo_10_14 rfl wd326 kd_79 dX10_readAugur_13 (rv_79_14 w) (by decide) ?_
  refine sm_iload_n C 0 rfl dX10_readAugur_16 rfl ?_
  refine sm_iconst C ic_0 dX10_readAugur_17 ?_
  refine sm_iadd C dX10_readAugur_18 ?_
  refine sm_aload_n C 1 rfl dX10_readAugur_19 rfl ?_
  refine sm_ldcS C 21 rfl dX10_readAugur_20 ?_
  refine sm_iconst C ic_0 dX10_readAugur_22 ?_
  refine sm_iconst C ic_1 dX10_readAugur_23 ?_
  refine sm_cVIW (As := [.ref (hA G 7).1, .int 0, .int 1]) C cfX10_told wd327 kd_79 rfl rfl rfl rfl rfl dX10_readAugur_24 (fun r h => mX10_told  h) (fun r_3 w_4 => ?_)
  refine sm_iast C kd_85 dX10_readAugur_27 (fun h_5 w_6 => ?_)
  refine sm_aload_n C 1 rfl dX10_readAugur_28 rfl ?_
  refine sm_getR C fo_10_14 rfl wd326 kd_79 dX10_readAugur_29 (rv_79_14 w_6) (by decide) ?_
  refine sm_iload_n C 0 rfl dX10_readAugur_32 rfl ?_
  refine sm_iconst C ic_1 dX10_readAugur_33 ?_
  refine sm_iadd C dX10_readAugur_34 ?_
  refine sm_aload_n C 1 rfl dX10_readAugur_35 rfl ?_
  refine sm_ldcS C 22 rfl dX10_readAugur_36 ?_
  refine sm_iconst C ic_0 dX10_readAugur_38 ?_
  refine sm_aload_n C 1 rfl dX10_readAugur_39 rfl ?_
  refine sm_getR C fo_10_14 rfl wd326 kd_79 dX10_readAugur_40 (rv_79_14 w_6) (by decide) ?_
  refine sm_iconst C ic_0 dX10_readAugur_43 ?_
  refine sm_iald C kd_85 dX10_readAugur_44 (fun h_7 => ?_)
  refine sm_iconst C ic_1 dX10_readAugur_45 ?_
  refine sm_isub C dX10_readAugur_46 ?_
  refine sm_cVIW (As := [.ref (hA G 8).1, .int 0, .int ((gI w_6 85 (ix 0)) - 1)]) C cfX10_told wd327 kd_79 rfl rfl rfl rfl rfl dX10_readAugur_47 (fun r h => mX10_told  h) (fun r_8 w_9 => ?_)
  refine sm_iast C kd_85 dX10_readAugur_50 (fun h_10 w_11 => ?_)
  refine sm_aload_n C 1 rfl dX10_readAugur_51 rfl ?_
  refine sm_getR C fo_10_14 rfl wd326 kd_79 dX10_readAugur_52 (rv_79_14 w_11) (by decide) ?_
  refine sm_iload_n C 0 rfl dX10_readAugur_55 rfl ?_
  refine sm_iconst C ic_2 dX10_readAugur_56 ?_
  refine sm_iadd C dX10_readAugur_57 ?_
  refine sm_aload_n C 1 rfl dX10_readAugur_58 rfl ?_
  refine sm_ldcS C 23 rfl dX10_readAugur_59 ?_
  refine sm_aload_n C 1 rfl dX10_readAugur_61 rfl ?_
  refine sm_getR C fo_10_14 rfl wd326 kd_79 dX10_readAugur_62 (rv_79_14 w_11) (by decide) ?_
  refine sm_iload_n C 0 rfl dX10_readAugur_65 rfl ?_
  refine sm_iconst C ic_1 dX10_readAugur_66 ?_
  refine sm_iadd C dX10_readAugur_67 ?_
  refine sm_iald C kd_85 dX10_readAugur_68 (fun h_12 => ?_)
  refine sm_aload_n C 1 rfl dX10_readAugur_69 rfl ?_
  refine sm_getR C fo_10_14 rfl wd326 kd_79 dX10_readAugur_70 (rv_79_14 w_11) (by decide) ?_
  refine sm_iconst C ic_0 dX10_readAugur_73 ?_
  refine sm_iald C kd_85 dX10_readAugur_74 (fun h_13 => ?_)
  refine sm_iconst C ic_1 dX10_readAugur_75 ?_
  refine sm_isub C dX10_readAugur_76 ?_
  refine sm_cVIW (As := [.ref (hA G 9).1, .int (gI w_11 85 (ix (x1_2 + 1))), .int ((gI w_11 85 (ix 0)) - 1)]) C cfX10_told wd327 kd_79 rfl rfl rfl rfl rfl dX10_readAugur_77 (fun r h => mX10_told  h) (fun r_14 w_15 => ?_)
  refine sm_iast C kd_85 dX10_readAugur_80 (fun h_16 w_17 => ?_)
  refine sm_aload_n C 1 rfl dX10_readAugur_81 rfl ?_
  refine sm_getR C fo_10_14 rfl wd326 kd_79 dX10_readAugur_82 (rv_79_14 w_17) (by decide) ?_
  refine sm_iconst C ic_4 dX10_readAugur_85 ?_
  refine sm_dup2 C rfl rfl dX10_readAugur_86 ?_
  refine sm_iald C kd_85 dX10_readAugur_87 (fun h_18 => ?_)
  refine sm_iconst C ic_1 dX10_readAugur_88 ?_
  refine sm_iadd C dX10_readAugur_89 ?_
  refine sm_iast C kd_85 dX10_readAugur_90 (fun h_19 w_20 => ?_)
  exact sm_vret C E rfl dX10_readAugur_91
/-! X10_readBill -/
set_option maxRecDepth 100000 in
set_option maxHeartbeats 4000000 in
theorem sX10_readBill_78 {G : Gx} {a : HW} (C : Cx G cX10_readBill RX10 2 8 182) (E : Rx G ρW a (none)) (w : HW) (s0 : Int32) (s1 : Int32) : Sm G a 78 [(0, .ref (hB G + 79))] [.int s0, .int s1, .ref (hB G + 85)] w (fX10_readBill_78 w s0 s1) := by
  unfold fX10_readBill_78
  refine sm_iast C kd_85 dX10_readBill_78 (fun h_17 w_18 => ?_)
  refine sm_aload_n C 0 rfl dX10_readBill_79 rfl ?_
  refine sm_getR C fo_10_14 rfl wd326 kd_79 dX10_readBill_80 (rv_79_14 w_18) (by decide) ?_
  refine sm_iconst C ic_5 dX10_readBill_83 ?_
  refine sm_dup2 C rfl rfl dX10_readBill_84 ?_
  refine sm_iald C kd_85 dX10_readBill_85 (fun h_19 => ?_)
  refine sm_iconst C ic_1 dX10_readBill_86 ?_
  refine sm_iadd C dX10_readBill_87 ?_
  refine sm_iast C kd_85 dX10_readBill_88 (fun h_20 w_21 => ?_)
  exact sm_vret C E rfl dX10_readBill_89
set_option maxRecDepth 100000 in
set_option maxHeartbeats 4000000 in
theorem mX10_readBill {b : Bx} {w : HW} {a : HW} (h : fX10_readBill w = some a) : Mt b yX10_readBill cX10_readBill 2 (none) 8 182 [.ref (bB b + 79)] w none a := by
  refine Mt.of ρW h (by decide) (Nat.le_of_ble_eq_true rfl) (fun G hG C E => ?_)
  subst hG
  have C : Cx G cX10_readBill RX10 2 8 182 := C
  change Sm G a 0 [(0, .ref (hB G + 79))] [] w _
  unfold fX10_readBill
  refine sm_bipush C bp_33 dX10_readBill_0 ?_
  refine sm_iconst C ic_3 dX10_readBill_2 ?_
  refine sm_aload_n C 0 rfl dX10_readBill_3 rfl ?_
  refine sm_getR C fo_10_14 rfl wd326 kd_79 dX10_readBill_4 (rv_79_14 w) (by decide) ?_
  refine sm_iconst C ic_5 dX10_readBill_7 ?_
  refine sm_iald C kd_85 dX10_readBill_8 (fun h_1 => ?_)
  refine sm_imul C dX10_readBill_9 ?_
  refine sm_iadd C dX10_readBill_10 ?_
  refine sm_let (fun x1_2 => ?_)
  refine sm_istore_n (lv1 := [(1, .int x1_2), (0, .ref (hB G + 79))]) C dX10_readBill_11 rfl rfl rfl ?_
  refine sm_aload_n C 1 rfl dX10_readBill_12 rfl ?_
  refine sm_getR C fo_10_14 rfl wd326 kd_79 dX10_readBill_13 (rv_79_14 w) (by decide) ?_
  refine sm_iload_n C 0 rfl dX10_readBill_16 rfl ?_
  refine sm_iconst C ic_0 dX10_readBill_17 ?_
  refine sm_iadd C dX10_readBill_18 ?_
  refine sm_aload_n C 1 rfl dX10_readBill_19 rfl ?_
  refine sm_ldcS C 21 rfl dX10_readBill_20 ?_
  refine sm_iconst C ic_0 dX10_readBill_22 ?_
  refine sm_iconst C ic_1 dX10_readBill_23 ?_
  refine sm_cVIW (As := [.ref (hA G 7).1, .int 0, .int 1]) C cfX10_told wd327 kd_79 rfl rfl rfl rfl rfl dX10_readBill_24 (fun r h => mX10_told  h) (fun r_3 w_4 => ?_)
  refine sm_iast C kd_85 dX10_readBill_27 (fun h_5 w_6 => ?_)
  refine sm_aload_n C 1 rfl dX10_readBill_28 rfl ?_
  refine sm_getR C fo_10_14 rfl wd326 kd_79 dX10_readBill_29 (rv_79_14 w_6) (by decide) ?_
  refine sm_iload_n C 0 rfl dX10_readBill_32 rfl ?_
  refine sm_iconst C ic_1 dX10_readBill_33 ?_
  refine sm_iadd C dX10_readBill_34 ?_
  refine sm_aload_n C 1 rfl dX10_readBill_35 rfl ?_
  refine sm_ldcS C 24 rfl dX10_readBill_36 ?_
  refine sm_iconst C ic_0 dX10_readBill_38 ?_
  refine sm_bipush C bp_99 dX10_readBill_39 ?_
  refine sm_cVIW (As := [.ref (hA G 11).1, .int 0, .int 99]) C cfX10_told wd327 kd_79 rfl rfl rfl rfl rfl dX10_readBill_41 (fun r h => mX10_told  h) (fun r_7 w_8 => ?_)
  refine sm_iast C kd_85 dX10_readBill_44 (fun h_9 w_10 => ?_)
  refine sm_aload_n C 1 rfl dX10_readBill_45 rfl ?_
  refine sm_getR C fo_10_14 rfl wd326 kd_79 dX10_readBill_46 (rv_79_14 w_10) (by decide) ?_
  refine sm_iload_n C 0 rfl dX10_readBill_49 rfl ?_
  refine sm_iconst C ic_2 dX10_readBill_50 ?_
  refine sm_iadd C dX10_readBill_51 ?_
  refine sm_aload_n C 1 rfl dX10_readBill_52 rfl ?_
  refine sm_ldcS C 25 rfl dX10_readBill_53 ?_
  refine sm_cVIW (As := [.ref (hA G 12).1]) C cfX10_takes wd322 kd_79 rfl rfl rfl rfl rfl dX10_readBill_55 (fun r h => mX10_takes  h) (fun r_11 w_12 => ?_)
  refine sm_if_eq C dX10_readBill_58 (tgt := 77) rfl (fun h_13 => ?_) (fun h_13 => ?_)
  · refine sm_aload_n C 1 rfl dX10_readBill_61 rfl ?_
    refine sm_iconst C ic_0 dX10_readBill_62 ?_
    refine sm_aload_n C 1 rfl dX10_readBill_63 rfl ?_
    refine sm_getR C fo_10_14 rfl wd326 kd_79 dX10_readBill_64 (rv_79_14 w_12) (by decide) ?_
    refine sm_iconst C ic_5 dX10_readBill_67 ?_
    refine sm_iald C kd_85 dX10_readBill_68 (fun h_14 => ?_)
    refine sm_iconst C ic_1 dX10_readBill_69 ?_
    refine sm_isub C dX10_readBill_70 ?_
    refine sm_cVIW (As := [.int 0, .int ((gI w_12 85 (ix 5)) - 1)]) C cfX10_number wd325 kd_79 rfl rfl rfl rfl rfl dX10_readBill_71 (fun r h => mX10_number  h) (fun r_15 w_16 => ?_)
    refine sm_goto C dX10_readBill_74 (tgt := 78) rfl ?_
    refine sm_sub [1] rfl ?_
    exact sX10_readBill_78 C E w_16 r_15 (x1_2 + 2)
  · refine sm_iconst C ic_m1 dX10_readBill_77 ?_
    refine sm_sub [1] rfl ?_
    exact sX10_readBill_78 C E w_12 (-1) (x1_2 + 2)
/-! X10_readNext -/
set_option maxRecDepth 100000 in
set_option maxHeartbeats 4000000 in
theorem sX10_readNext_77 {G : Gx} {a : HW} (C : Cx G cX10_readNext RX10 2 9 203) (E : Rx G ρW a (none)) (w : HW) : Sm G a 77 [(0, .ref (hB G + 79))] [] w (fX10_readNext_77 w) := by
  unfold fX10_readNext_77
  refine sm_aload_n C 0 rfl dX10_readNext_77 rfl ?_
  refine sm_cVI (As := []) C cfX10_good wd316 kd_79 rfl rfl rfl rfl rfl dX10_readNext_78 (fun r h => mX10_good  h) (fun r_26 => ?_)
  refine sm_if_ne C dX10_readNext_81 (tgt := 85) rfl (fun h_28 => ?_) (fun h_28 => ?_)
  · exact sm_vret C E rfl dX10_readNext_84
  · refine sm_aload_n C 0 rfl dX10_readNext_85 rfl ?_
    refine sm_ldcS C 18 rfl dX10_readNext_86 ?_
    refine sm_cVIW (As := [.ref (hA G 5).1]) C cfX10_takes wd322 kd_79 rfl rfl rfl rfl rfl dX10_readNext_88 (fun r h => mX10_takes  h) (fun r_29 w_30 => ?_)
    refine sm_if_eq C dX10_readNext_91 (tgt := 124) rfl (fun h_31 => ?_) (fun h_31 => ?_)
    · refine sm_aload_n C 0 rfl dX10_readNext_94 rfl ?_
      refine sm_iconst C ic_0 dX10_readNext_95 ?_
      refine sm_aload_n C 0 rfl dX10_readNext_96 rfl ?_
      refine sm_getR C fo_10_14 rfl wd326 kd_79 dX10_readNext_97 (rv_79_14 w_30) (by decide) ?_
      refine sm_iconst C ic_0 dX10_readNext_100 ?_
      refine sm_iald C kd_85 dX10_readNext_101 (fun h_32 => ?_)
      refine sm_iconst C ic_1 dX10_readNext_102 ?_
      refine sm_isub C dX10_readNext_103 ?_
      refine sm_cVIW (As := [.int 0, .int ((gI w_30 85 (ix 0)) - 1)]) C cfX10_number wd325 kd_79 rfl rfl rfl rfl rfl dX10_readNext_104 (fun r h => mX10_number  h) (fun r_33 w_34 => ?_)
      refine sm_istore_n (lv1 := [(1, .int r_33), (0, .ref (hB G + 79))]) C dX10_readNext_107 rfl rfl rfl ?_
      refine sm_aload_n C 1 rfl dX10_readNext_108 rfl ?_
      refine sm_getR C fo_10_14 rfl wd326 kd_79 dX10_readNext_109 (rv_79_14 w_34) (by decide) ?_
      refine sm_bipush C bp_8 dX10_readNext_112 ?_
      refine sm_dup2 C rfl rfl dX10_readNext_114 ?_
      refine sm_iald C kd_85 dX10_readNext_115 (fun h_35 => ?_)
      refine sm_iconst C ic_1 dX10_readNext_116 ?_
      refine sm_iload_n C 0 rfl dX10_readNext_117 rfl ?_
      refine sm_ishl C dX10_readNext_118 ?_
      refine sm_ior C dX10_readNext_119 ?_
      refine sm_iast C kd_85 dX10_readNext_120 (fun h_36 w_37 => ?_)
      refine sm_goto C dX10_readNext_121 (tgt := 148) rfl ?_
      exact sm_vret C E rfl dX10_readNext_148
    · refine sm_aload_n C 0 rfl dX10_readNext_124 rfl ?_
      refine sm_ldcS C 19 rfl dX10_readNext_125 ?_
      refine sm_cVIW (As := [.ref (hA G 6).1]) C cfX10_takes wd322 kd_79 rfl rfl rfl rfl rfl dX10_readNext_127 (fun r h => mX10_takes  h) (fun r_38 w_39 => ?_)
      refine sm_if_eq C dX10_readNext_130 (tgt := 140) rfl (fun h_40 => ?_) (fun h_40 => ?_)
      · refine sm_aload_n C 0 rfl dX10_readNext_133 rfl ?_
        refine sm_cVW (As := []) C cfX10_readAugur wd328 kd_79 rfl rfl rfl rfl rfl dX10_readNext_134 (fun r h => mX10_readAugur  h) (fun w_42 => ?_)
        refine sm_goto C dX10_readNext_137 (tgt := 148) rfl ?_
        exact sm_vret C E rfl dX10_readNext_148
      · refine sm_aload_n C 0 rfl dX10_readNext_140 rfl ?_
        refine sm_cVW (As := []) C cfX10_advance wd321 kd_79 rfl rfl rfl rfl rfl dX10_readNext_141 (fun r h => mX10_advance  h) (fun w_44 => ?_)
        refine sm_aload_n C 0 rfl dX10_readNext_144 rfl ?_
        refine sm_cVW (As := []) C cfX10_readBill wd329 kd_79 rfl rfl rfl rfl rfl dX10_readNext_145 (fun r h => mX10_readBill  h) (fun w_46 => ?_)
        exact sm_vret C E rfl dX10_readNext_148
set_option maxRecDepth 100000 in
set_option maxHeartbeats 4000000 in
theorem sX10_readNext_52 {G : Gx} {a : HW} (C : Cx G cX10_readNext RX10 2 9 203) (E : Rx G ρW a (none)) (w : HW) : Sm G a 52 [(0, .ref (hB G + 79))] [] w (fX10_readNext_52 w) := by
  unfold fX10_readNext_52
  refine sm_aload_n C 0 rfl dX10_readNext_52 rfl ?_
  refine sm_ldcS C 20 rfl dX10_readNext_53 ?_
  refine sm_cVI (As := [.ref (hA G 10).1]) C cfX10_is wd320 kd_79 rfl rfl rfl rfl rfl dX10_readNext_55 (fun r h => mX10_is  h) (fun r_19 => ?_)
  refine sm_if_eq C dX10_readNext_58 (tgt := 77) rfl (fun h_21 => ?_) (fun h_21 => ?_)
  · refine sm_aload_n C 0 rfl dX10_readNext_61 rfl ?_
    refine sm_getR C fo_10_14 rfl wd326 kd_79 dX10_readNext_62 (rv_79_14 w) (by decide) ?_
    refine sm_iconst C ic_5 dX10_readNext_65 ?_
    refine sm_iald C kd_85 dX10_readNext_66 (fun h_22 => ?_)
    refine sm_bipush C bp_8 dX10_readNext_67 ?_
    refine sm_icmp_ne C dX10_readNext_69 (tgt := 77) rfl (fun h_23 => ?_) (fun h_23 => ?_)
    · refine sm_aload_n C 0 rfl dX10_readNext_72 rfl ?_
      refine sm_iconst C ic_3 dX10_readNext_73 ?_
      refine sm_cVW (As := [.int 3]) C cfX10_errs wd323 kd_79 rfl rfl rfl rfl rfl dX10_readNext_74 (fun r h => mX10_errs  h) (fun w_25 => ?_)
      exact sX10_readNext_77 C E w_25
    · exact sX10_readNext_77 C E w
  · exact sX10_readNext_77 C E w
set_option maxRecDepth 100000 in
set_option maxHeartbeats 4000000 in
theorem sX10_readNext_32 {G : Gx} {a : HW} (C : Cx G cX10_readNext RX10 2 9 203) (E : Rx G ρW a (none)) (w : HW) : Sm G a 32 [(0, .ref (hB G + 79))] [] w (fX10_readNext_32 w) := by
  unfold fX10_readNext_32
  refine sm_aload_n C 0 rfl dX10_readNext_32 rfl ?_
  refine sm_ldcS C 19 rfl dX10_readNext_33 ?_
  refine sm_cVI (As := [.ref (hA G 6).1]) C cfX10_is wd320 kd_79 rfl rfl rfl rfl rfl dX10_readNext_35 (fun r h => mX10_is  h) (fun r_12 => ?_)
  refine sm_if_eq C dX10_readNext_38 (tgt := 52) rfl (fun h_14 => ?_) (fun h_14 => ?_)
  · refine sm_aload_n C 0 rfl dX10_readNext_41 rfl ?_
    refine sm_getR C fo_10_14 rfl wd326 kd_79 dX10_readNext_42 (rv_79_14 w) (by decide) ?_
    refine sm_iconst C ic_4 dX10_readNext_45 ?_
    refine sm_iald C kd_85 dX10_readNext_46 (fun h_15 => ?_)
    refine sm_bipush C bp_8 dX10_readNext_47 ?_
    refine sm_icmp_eq C dX10_readNext_49 (tgt := 72) rfl (fun h_16 => ?_) (fun h_16 => ?_)
    · exact sX10_readNext_52 C E w
    · refine sm_aload_n C 0 rfl dX10_readNext_72 rfl ?_
      refine sm_iconst C ic_3 dX10_readNext_73 ?_
      refine sm_cVW (As := [.int 3]) C cfX10_errs wd323 kd_79 rfl rfl rfl rfl rfl dX10_readNext_74 (fun r h => mX10_errs  h) (fun w_18 => ?_)
      exact sX10_readNext_77 C E w_18
  · exact sX10_readNext_52 C E w
set_option maxRecDepth 100000 in
set_option maxHeartbeats 4000000 in
theorem mX10_readNext {b : Bx} {w : HW} {a : HW} (h : fX10_readNext w = some a) : Mt b yX10_readNext cX10_readNext 2 (none) 9 203 [.ref (bB b + 79)] w none a := by
  refine Mt.of ρW h (by decide) (Nat.le_of_ble_eq_true rfl) (fun G hG C E => ?_)
  subst hG
  have C : Cx G cX10_readNext RX10 2 9 203 := C
  change Sm G a 0 [(0, .ref (hB G + 79))] [] w _
  unfold fX10_readNext
  refine sm_aload_n C 0 rfl dX10_readNext_0 rfl ?_
  refine sm_ldcS C 18 rfl dX10_readNext_1 ?_
  refine sm_cVI (As := [.ref (hA G 5).1]) C cfX10_is wd320 kd_79 rfl rfl rfl rfl rfl dX10_readNext_3 (fun r h => mX10_is  h) (fun r_1 => ?_)
  refine sm_if_ne C dX10_readNext_6 (tgt := 32) rfl (fun h_3 => ?_) (fun h_3 => ?_)
  · refine sm_aload_n C 0 rfl dX10_readNext_9 rfl ?_
    refine sm_ldcS C 19 rfl dX10_readNext_10 ?_
    refine sm_cVI (As := [.ref (hA G 6).1]) C cfX10_is wd320 kd_79 rfl rfl rfl rfl rfl dX10_readNext_12 (fun r h => mX10_is  h) (fun r_4 => ?_)
    refine sm_if_ne C dX10_readNext_15 (tgt := 32) rfl (fun h_6 => ?_) (fun h_6 => ?_)
    · refine sm_aload_n C 0 rfl dX10_readNext_18 rfl ?_
      refine sm_ldcS C 20 rfl dX10_readNext_19 ?_
      refine sm_cVI (As := [.ref (hA G 10).1]) C cfX10_is wd320 kd_79 rfl rfl rfl rfl rfl dX10_readNext_21 (fun r h => mX10_is  h) (fun r_7 => ?_)
      refine sm_if_ne C dX10_readNext_24 (tgt := 32) rfl (fun h_9 => ?_) (fun h_9 => ?_)
      · refine sm_aload_n C 0 rfl dX10_readNext_27 rfl ?_
        refine sm_iconst C ic_1 dX10_readNext_28 ?_
        refine sm_cVW (As := [.int 1]) C cfX10_errs wd323 kd_79 rfl rfl rfl rfl rfl dX10_readNext_29 (fun r h => mX10_errs  h) (fun w_11 => ?_)
        exact sX10_readNext_32 C E w_11
      · exact sX10_readNext_32 C E w
    · exact sX10_readNext_32 C E w
  · exact sX10_readNext_32 C E w
/-! X10_readLine -/
set_option maxRecDepth 100000 in
set_option maxHeartbeats 4000000 in
theorem sX10_readLine_52 {G : Gx} {a : HW} (C : Cx G cX10_readLine RX10 1 10 224) (E : Rx G ρW a (none)) (w : HW) : Sm G a 52 [(0, .ref (hB G + 79))] [] w (fX10_readLine_52 w) := by
  unfold fX10_readLine_52
  refine sm_aload_n C 0 rfl dX10_readLine_52 rfl ?_
  refine sm_getR C fo_10_14 rfl wd326 kd_79 dX10_readLine_53 (rv_79_14 w) (by decide) ?_
  refine sm_bipush C bp_7 dX10_readLine_56 ?_
  refine sm_dup2 C rfl rfl dX10_readLine_58 ?_
  refine sm_iald C kd_85 dX10_readLine_59 (fun h_28 => ?_)
  refine sm_iconst C ic_1 dX10_readLine_60 ?_
  refine sm_iadd C dX10_readLine_61 ?_
  refine sm_iast C kd_85 dX10_readLine_62 (fun h_29 w_30 => ?_)
  exact sm_vret C E rfl dX10_readLine_63
set_option maxRecDepth 100000 in
set_option maxHeartbeats 4000000 in
theorem sX10_readLine_21 {G : Gx} {a : HW} (C : Cx G cX10_readLine RX10 1 10 224) (E : Rx G ρW a (none)) (w : HW) : Sm G a 21 [(0, .ref (hB G + 79))] [] w (fX10_readLine_21 w) := by
  unfold fX10_readLine_21
  refine sm_aload_n C 0 rfl dX10_readLine_21 rfl ?_
  refine sm_cVI (As := []) C cfX10_good wd316 kd_79 rfl rfl rfl rfl rfl dX10_readLine_22 (fun r h => mX10_good  h) (fun r_7 => ?_)
  refine sm_if_eq C dX10_readLine_25 (tgt := 41) rfl (fun h_9 => ?_) (fun h_9 => ?_)
  · refine sm_aload_n C 0 rfl dX10_readLine_28 rfl ?_
    refine sm_getI C fo_10_10 rfl wd307 kd_79 dX10_readLine_29 ?_
    refine sm_iconst C ic_3 dX10_readLine_32 ?_
    refine sm_icmp_eq C dX10_readLine_33 (tgt := 41) rfl (fun h_10 => ?_) (fun h_10 => ?_)
    · refine sm_aload_n C 0 rfl dX10_readLine_36 rfl ?_
      refine sm_iconst C ic_1 dX10_readLine_37 ?_
      refine sm_cVW (As := [.int 1]) C cfX10_errs wd323 kd_79 rfl rfl rfl rfl rfl dX10_readLine_38 (fun r h => mX10_errs  h) (fun w_12 => ?_)
      refine sm_aload_n C 0 rfl dX10_readLine_41 rfl ?_
      refine sm_cVI (As := []) C cfX10_good wd316 kd_79 rfl rfl rfl rfl rfl dX10_readLine_42 (fun r h => mX10_good  h) (fun r_13 => ?_)
      refine sm_if_eq C dX10_readLine_45 (tgt := 52) rfl (fun h_15 => ?_) (fun h_15 => ?_)
      · refine sm_aload_n C 0 rfl dX10_readLine_48 rfl ?_
        refine sm_cVW (As := []) C cfX10_advance wd321 kd_79 rfl rfl rfl rfl rfl dX10_readLine_49 (fun r h => mX10_advance  h) (fun w_17 => ?_)
        exact sX10_readLine_52 C E w_17
      · exact sX10_readLine_52 C E w_12
    · refine sm_aload_n C 0 rfl dX10_readLine_41 rfl ?_
      refine sm_cVI (As := []) C cfX10_good wd316 kd_79 rfl rfl rfl rfl rfl dX10_readLine_42 (fun r h => mX10_good  h) (fun r_18 => ?_)
      refine sm_if_eq C dX10_readLine_45 (tgt := 52) rfl (fun h_20 => ?_) (fun h_20 => ?_)
      · refine sm_aload_n C 0 rfl dX10_readLine_48 rfl ?_
        refine sm_cVW (As := []) C cfX10_advance wd321 kd_79 rfl rfl rfl rfl rfl dX10_readLine_49 (fun r h => mX10_advance  h) (fun w_22 => ?_)
        exact sX10_readLine_52 C E w_22
      · exact sX10_readLine_52 C E w
  · refine sm_aload_n C 0 rfl dX10_readLine_41 rfl ?_
    refine sm_cVI (As := []) C cfX10_good wd316 kd_79 rfl rfl rfl rfl rfl dX10_readLine_42 (fun r h => mX10_good  h) (fun r_23 => ?_)
    refine sm_if_eq C dX10_readLine_45 (tgt := 52) rfl (fun h_25 => ?_) (fun h_25 => ?_)
    · refine sm_aload_n C 0 rfl dX10_readLine_48 rfl ?_
      refine sm_cVW (As := []) C cfX10_advance wd321 kd_79 rfl rfl rfl rfl rfl dX10_readLine_49 (fun r h => mX10_advance  h) (fun w_27 => ?_)
      exact sX10_readLine_52 C E w_27
    · exact sX10_readLine_52 C E w
set_option maxRecDepth 100000 in
set_option maxHeartbeats 4000000 in
theorem mX10_readLine {b : Bx} {w : HW} {a : HW} (h : fX10_readLine w = some a) : Mt b yX10_readLine cX10_readLine 1 (none) 10 224 [.ref (bB b + 79)] w none a := by
  refine Mt.of ρW h (by decide) (Nat.le_of_ble_eq_true rfl) (fun G hG C E => ?_)
  subst hG
  have C : Cx G cX10_readLine RX10 1 10 224 := C
  change Sm G a 0 [(0, .ref (hB G + 79))] [] w _
  unfold fX10_readLine
  refine sm_aload_n C 0 rfl dX10_readLine_0 rfl ?_
  refine sm_getR C fo_10_14 rfl wd326 kd_79 dX10_readLine_1 (rv_79_14 w) (by decide) ?_
  refine sm_bipush C bp_7 dX10_readLine_4 ?_
  refine sm_iald C kd_85 dX10_readLine_6 (fun h_1 => ?_)
  refine sm_if_ne C dX10_readLine_7 (tgt := 17) rfl (fun h_2 => ?_) (fun h_2 => ?_)
  · refine sm_aload_n C 0 rfl dX10_readLine_10 rfl ?_
    refine sm_cVW (As := []) C cfX10_readFirst wd330 kd_79 rfl rfl rfl rfl rfl dX10_readLine_11 (fun r h => mX10_readFirst  h) (fun w_4 => ?_)
    refine sm_goto C dX10_readLine_14 (tgt := 21) rfl ?_
    exact sX10_readLine_21 C E w_4
  · refine sm_aload_n C 0 rfl dX10_readLine_17 rfl ?_
    refine sm_cVW (As := []) C cfX10_readNext wd331 kd_79 rfl rfl rfl rfl rfl dX10_readLine_18 (fun r h => mX10_readNext  h) (fun w_6 => ?_)
    exact sX10_readLine_21 C E w_6
/-! X10_camp -/
set_option maxRecDepth 100000 in
set_option maxHeartbeats 4000000 in
theorem sX10_camp_86 {G : Gx} {a : Int32 × HW} (C : Cx G cX10_camp RX10 2 11 244) (E : Rx G ρIW a (some .int)) : ∀ (n : Nat) (w : HW) (x1 : Int32), Sm G a 86 [(0, .ref (hB G + 79)), (1, .int x1)] [] w (fX10_camp_86 n w x1) := by
  intro n
  induction n with
  | zero => intro _ _; exact sm_none
  | succ n ih =>
    intro w x1
    rw [fX10_camp_86]
    refine sm_iload_n C 1 rfl dX10_camp_86 rfl ?_
    refine sm_bipush C bp_77 dX10_camp_87 ?_
    refine sm_icmp_ge C dX10_camp_89 (tgt := 110) rfl (fun h_23 => ?_) (fun h_23 => ?_)
    · refine sm_aload_n C 0 rfl dX10_camp_92 rfl ?_
      refine sm_getR C fo_10_1 rfl wd297 kd_79 dX10_camp_93 (rv_79_1 w) (by decide) ?_
      refine sm_iload_n C 1 rfl dX10_camp_96 rfl ?_
      refine sm_aload_n C 0 rfl dX10_camp_97 rfl ?_
      refine sm_getR C fo_10_14 rfl wd326 kd_79 dX10_camp_98 (rv_79_14 w) (by decide) ?_
      refine sm_iload_n C 1 rfl dX10_camp_101 rfl ?_
      refine sm_iald C kd_85 dX10_camp_102 (fun h_24 => ?_)
      refine sm_iast C kd_80 dX10_camp_103 (fun h_25 w_26 => ?_)
      refine sm_iinc (lv1 := [(1, .int (x1 + 1)), (0, .ref (hB G + 79))]) C 1 rfl (iv_1 _) dX10_camp_104 rfl rfl ?_
      refine sm_goto C dX10_camp_107 (tgt := 86) rfl ?_
      refine sm_sub [1, 0] rfl ?_
      exact ih w_26 (x1 + 1)
    · refine sm_aload_n C 0 rfl dX10_camp_110 rfl ?_
      refine sm_getR C fo_10_1 rfl wd297 kd_79 dX10_camp_111 (rv_79_1 w) (by decide) ?_
      refine sm_bipush C bp_7 dX10_camp_114 ?_
      refine sm_iald C kd_80 dX10_camp_116 (fun h_27 => ?_)
      exact sm_iret C E rfl dX10_camp_117
set_option maxRecDepth 100000 in
set_option maxHeartbeats 4000000 in
theorem sX10_camp_53 {G : Gx} {a : Int32 × HW} (C : Cx G cX10_camp RX10 2 11 244) (E : Rx G ρIW a (some .int)) : ∀ (n : Nat) (w : HW), Sm G a 53 [(0, .ref (hB G + 79))] [] w (fX10_camp_53 n w) := by
  intro n
  induction n with
  | zero => intro _; exact sm_none
  | succ n ih =>
    intro w
    rw [fX10_camp_53]
    refine sm_aload_n C 0 rfl dX10_camp_53 rfl ?_
    refine sm_cVI (As := []) C cfX10_good wd316 kd_79 rfl rfl rfl rfl rfl dX10_camp_54 (fun r h => mX10_good  h) (fun r_11 => ?_)
    refine sm_if_eq C dX10_camp_57 (tgt := 74) rfl (fun h_13 => ?_) (fun h_13 => ?_)
    · refine sm_aload_n C 0 rfl dX10_camp_60 rfl ?_
      refine sm_getI C fo_10_10 rfl wd307 kd_79 dX10_camp_61 ?_
      refine sm_if_eq C dX10_camp_64 (tgt := 74) rfl (fun h_14 => ?_) (fun h_14 => ?_)
      · refine sm_aload_n C 0 rfl dX10_camp_67 rfl ?_
        refine sm_cVW (As := []) C cfX10_readLine wd332 kd_79 rfl rfl rfl rfl rfl dX10_camp_68 (fun r h => mX10_readLine  h) (fun w_16 => ?_)
        refine sm_goto C dX10_camp_71 (tgt := 53) rfl ?_
        exact ih w_16
      · refine sm_aload_n C 0 rfl dX10_camp_74 rfl ?_
        refine sm_cVI (As := []) C cfX10_good wd316 kd_79 rfl rfl rfl rfl rfl dX10_camp_75 (fun r h => mX10_good  h) (fun r_17 => ?_)
        refine sm_if_ne C dX10_camp_78 (tgt := 84) rfl (fun h_19 => ?_) (fun h_19 => ?_)
        · refine sm_bipush C bp_m4 dX10_camp_81 ?_
          exact sm_iret C E rfl dX10_camp_83
        · refine sm_iconst C ic_0 dX10_camp_84 ?_
          refine sm_istore_n (lv1 := [(1, .int 0), (0, .ref (hB G + 79))]) C dX10_camp_85 rfl rfl rfl ?_
          refine sm_sub [1, 0] rfl ?_
          exact sX10_camp_86 C E FU w 0
    · refine sm_aload_n C 0 rfl dX10_camp_74 rfl ?_
      refine sm_cVI (As := []) C cfX10_good wd316 kd_79 rfl rfl rfl rfl rfl dX10_camp_75 (fun r h => mX10_good  h) (fun r_20 => ?_)
      refine sm_if_ne C dX10_camp_78 (tgt := 84) rfl (fun h_22 => ?_) (fun h_22 => ?_)
      · refine sm_bipush C bp_m4 dX10_camp_81 ?_
        exact sm_iret C E rfl dX10_camp_83
      · refine sm_iconst C ic_0 dX10_camp_84 ?_
        refine sm_istore_n (lv1 := [(1, .int 0), (0, .ref (hB G + 79))]) C dX10_camp_85 rfl rfl rfl ?_
        refine sm_sub [1, 0] rfl ?_
        exact sX10_camp_86 C E FU w 0
set_option maxRecDepth 100000 in
set_option maxHeartbeats 4000000 in
theorem sX10_camp_30 {G : Gx} {a : Int32 × HW} (C : Cx G cX10_camp RX10 2 11 244) (E : Rx G ρIW a (some .int)) : ∀ (n : Nat) (w : HW) (x1 : Int32), Sm G a 30 [(0, .ref (hB G + 79)), (1, .int x1)] [] w (fX10_camp_30 n w x1) := by
  intro n
  induction n with
  | zero => intro _ _; exact sm_none
  | succ n ih =>
    intro w x1
    rw [fX10_camp_30]
    refine sm_iload_n C 1 rfl dX10_camp_30 rfl ?_
    refine sm_bipush C bp_77 dX10_camp_31 ?_
    refine sm_icmp_ge C dX10_camp_33 (tgt := 49) rfl (fun h_6 => ?_) (fun h_6 => ?_)
    · refine sm_aload_n C 0 rfl dX10_camp_36 rfl ?_
      refine sm_getR C fo_10_14 rfl wd326 kd_79 dX10_camp_37 (rv_79_14 w) (by decide) ?_
      refine sm_iload_n C 1 rfl dX10_camp_40 rfl ?_
      refine sm_iconst C ic_0 dX10_camp_41 ?_
      refine sm_iast C kd_85 dX10_camp_42 (fun h_7 w_8 => ?_)
      refine sm_iinc (lv1 := [(1, .int (x1 + 1)), (0, .ref (hB G + 79))]) C 1 rfl (iv_1 _) dX10_camp_43 rfl rfl ?_
      refine sm_goto C dX10_camp_46 (tgt := 30) rfl ?_
      refine sm_sub [1, 0] rfl ?_
      exact ih w_8 (x1 + 1)
    · refine sm_aload_n C 0 rfl dX10_camp_49 rfl ?_
      refine sm_cVW (As := []) C cfX10_advance wd321 kd_79 rfl rfl rfl rfl rfl dX10_camp_50 (fun r h => mX10_advance  h) (fun w_10 => ?_)
      refine sm_sub [0] rfl ?_
      exact sX10_camp_53 C E FU w_10
set_option maxRecDepth 100000 in
set_option maxHeartbeats 4000000 in
theorem mX10_camp {b : Bx} {w : HW} {a : Int32 × HW} (h : fX10_camp w = some a) : Mt b yX10_camp cX10_camp 2 (some .int) 11 244 [.ref (bB b + 79)] w (some (.int a.1)) a.2 := by
  refine Mt.of ρIW h (by decide) (Nat.le_of_ble_eq_true rfl) (fun G hG C E => ?_)
  subst hG
  have C : Cx G cX10_camp RX10 2 11 244 := C
  change Sm G a 0 [(0, .ref (hB G + 79))] [] w _
  unfold fX10_camp
  refine sm_aload_n C 0 rfl dX10_camp_0 rfl ?_
  refine sm_aload_n C 0 rfl dX10_camp_1 rfl ?_
  refine sm_getI C fo_10_5 rfl wd300 kd_79 dX10_camp_2 ?_
  refine sm_putI C fo_10_7 rfl wd303 kd_79 rfl dX10_camp_5 (fun w_1 => ?_)
  refine sm_aload_n C 0 rfl dX10_camp_8 rfl ?_
  refine sm_iconst C ic_0 dX10_camp_9 ?_
  refine sm_putI C fo_10_5 rfl wd300 kd_79 rfl dX10_camp_10 (fun w_2 => ?_)
  refine sm_aload_n C 0 rfl dX10_camp_13 rfl ?_
  refine sm_iconst C ic_0 dX10_camp_14 ?_
  refine sm_putI C fo_10_8 rfl wd304 kd_79 rfl dX10_camp_15 (fun w_3 => ?_)
  refine sm_aload_n C 0 rfl dX10_camp_18 rfl ?_
  refine sm_iconst C ic_0 dX10_camp_19 ?_
  refine sm_putI C fo_10_12 rfl wd315 kd_79 rfl dX10_camp_20 (fun w_4 => ?_)
  refine sm_aload_n C 0 rfl dX10_camp_23 rfl ?_
  refine sm_iconst C ic_m1 dX10_camp_24 ?_
  refine sm_putI C fo_10_13 rfl wd317 kd_79 rfl dX10_camp_25 (fun w_5 => ?_)
  refine sm_iconst C ic_0 dX10_camp_28 ?_
  refine sm_istore_n (lv1 := [(1, .int 0), (0, .ref (hB G + 79))]) C dX10_camp_29 rfl rfl rfl ?_
  refine sm_sub [1, 0] rfl ?_
  exact sX10_camp_30 C E FU w_5 0
/-! X10_augur -/
set_option maxRecDepth 100000 in
set_option maxHeartbeats 4000000 in
theorem mX10_augur {b : Bx} {w : HW} {x1 : Int32} {x2 : Int32} {a : Int32} (h : fX10_augur w x1 x2 = some a) : Mt b yX10_augur cX10_augur 3 (some .int) 2 46 [.ref (bB b + 79), .int x1, .int x2] w (some (.int a)) w := by
  refine Mt.of (ρI w) h (by decide) (Nat.le_of_ble_eq_true rfl) (fun G hG C E => ?_)
  subst hG
  have C : Cx G cX10_augur RX10 3 2 46 := C
  change Sm G a 0 [(0, .ref (hB G + 79)), (1, .int x1), (2, .int x2)] [] w _
  unfold fX10_augur
  refine sm_aload_n C 0 rfl dX10_augur_0 rfl ?_
  refine sm_iload_n C 1 rfl dX10_augur_1 rfl ?_
  refine sm_cVI (As := [.int x1]) C cfX10_isAugur wd333 kd_79 rfl rfl rfl rfl rfl dX10_augur_2 (fun r h => mX10_isAugur  h) (fun r_1 => ?_)
  refine sm_if_eq C dX10_augur_5 (tgt := 29) rfl (fun h_3 => ?_) (fun h_3 => ?_)
  · refine sm_iload_n C 2 rfl dX10_augur_8 rfl ?_
    refine sm_i2l C dX10_augur_9 ?_
    refine sm_lconst C lc_0 dX10_augur_10 ?_
    refine sm_ldc2 C wd294 dX10_augur_11 ?_
    refine sm_cSI (As := [.long (x2.toInt64), .long 0, .long 2]) C cfX10_in wd295 rfl rfl rfl rfl dX10_augur_14 (fun r h => mX10_in  h) (fun r_4 => ?_)
    refine sm_if_eq C dX10_augur_17 (tgt := 29) rfl (fun h_6 => ?_) (fun h_6 => ?_)
    · refine sm_aload_n C 0 rfl dX10_augur_20 rfl ?_
      refine sm_iload_n C 1 rfl dX10_augur_21 rfl ?_
      refine sm_iload_n C 2 rfl dX10_augur_22 rfl ?_
      refine sm_cVI (As := [.int x1, .int x2]) C cfX10_ofAugur wd334 kd_79 rfl rfl rfl rfl rfl dX10_augur_23 (fun r h => mX10_ofAugur  h) (fun r_7 => ?_)
      refine sm_goto C dX10_augur_26 (tgt := 31) rfl ?_
      exact sm_iret C E rfl dX10_augur_31
    · refine sm_bipush C bp_m2 dX10_augur_29 ?_
      exact sm_iret C E rfl dX10_augur_31
  · refine sm_bipush C bp_m2 dX10_augur_29 ?_
    exact sm_iret C E rfl dX10_augur_31
/-! X10_bill -/
set_option maxRecDepth 100000 in
set_option maxHeartbeats 4000000 in
theorem mX10_bill {b : Bx} {w : HW} {x1 : Int32} {x2 : Int32} {a : Int32} (h : fX10_bill w x1 x2 = some a) : Mt b yX10_bill cX10_bill 3 (some .int) 2 46 [.ref (bB b + 79), .int x1, .int x2] w (some (.int a)) w := by
  refine Mt.of (ρI w) h (by decide) (Nat.le_of_ble_eq_true rfl) (fun G hG C E => ?_)
  subst hG
  have C : Cx G cX10_bill RX10 3 2 46 := C
  change Sm G a 0 [(0, .ref (hB G + 79)), (1, .int x1), (2, .int x2)] [] w _
  unfold fX10_bill
  refine sm_aload_n C 0 rfl dX10_bill_0 rfl ?_
  refine sm_iload_n C 1 rfl dX10_bill_1 rfl ?_
  refine sm_cVI (As := [.int x1]) C cfX10_isBill wd335 kd_79 rfl rfl rfl rfl rfl dX10_bill_2 (fun r h => mX10_isBill  h) (fun r_1 => ?_)
  refine sm_if_eq C dX10_bill_5 (tgt := 29) rfl (fun h_3 => ?_) (fun h_3 => ?_)
  · refine sm_iload_n C 2 rfl dX10_bill_8 rfl ?_
    refine sm_i2l C dX10_bill_9 ?_
    refine sm_lconst C lc_0 dX10_bill_10 ?_
    refine sm_ldc2 C wd294 dX10_bill_11 ?_
    refine sm_cSI (As := [.long (x2.toInt64), .long 0, .long 2]) C cfX10_in wd295 rfl rfl rfl rfl dX10_bill_14 (fun r h => mX10_in  h) (fun r_4 => ?_)
    refine sm_if_eq C dX10_bill_17 (tgt := 29) rfl (fun h_6 => ?_) (fun h_6 => ?_)
    · refine sm_aload_n C 0 rfl dX10_bill_20 rfl ?_
      refine sm_iload_n C 1 rfl dX10_bill_21 rfl ?_
      refine sm_iload_n C 2 rfl dX10_bill_22 rfl ?_
      refine sm_cVI (As := [.int x1, .int x2]) C cfX10_of wd336 kd_79 rfl rfl rfl rfl rfl dX10_bill_23 (fun r h => mX10_of  h) (fun r_7 => ?_)
      refine sm_goto C dX10_bill_26 (tgt := 31) rfl ?_
      exact sm_iret C E rfl dX10_bill_31
    · refine sm_bipush C bp_m2 dX10_bill_29 ?_
      exact sm_iret C E rfl dX10_bill_31
  · refine sm_bipush C bp_m2 dX10_bill_29 ?_
    exact sm_iret C E rfl dX10_bill_31
/-! X10_marks -/
set_option maxRecDepth 100000 in
set_option maxHeartbeats 4000000 in
theorem mX10_marks {b : Bx} {w : HW} {a : Int32} (h : fX10_marks w = some a) : Mt b yX10_marks cX10_marks 1 (some .int) 1 20 [.ref (bB b + 79)] w (some (.int a)) w := by
  refine Mt.of (ρI w) h (by decide) (Nat.le_of_ble_eq_true rfl) (fun G hG C E => ?_)
  subst hG
  have C : Cx G cX10_marks RX10 1 1 20 := C
  change Sm G a 0 [(0, .ref (hB G + 79))] [] w _
  unfold fX10_marks
  refine sm_aload_n C 0 rfl dX10_marks_0 rfl ?_
  refine sm_cVI (As := []) C cfX10_isCamp wd299 kd_79 rfl rfl rfl rfl rfl dX10_marks_1 (fun r h => mX10_isCamp  h) (fun r_1 => ?_)
  refine sm_if_eq C dX10_marks_4 (tgt := 17) rfl (fun h_3 => ?_) (fun h_3 => ?_)
  · refine sm_aload_n C 0 rfl dX10_marks_7 rfl ?_
    refine sm_getR C fo_10_1 rfl wd297 kd_79 dX10_marks_8 (rv_79_1 w) (by decide) ?_
    refine sm_bipush C bp_8 dX10_marks_11 ?_
    refine sm_iald C kd_80 dX10_marks_13 (fun h_4 => ?_)
    refine sm_goto C dX10_marks_14 (tgt := 19) rfl ?_
    exact sm_iret C E rfl dX10_marks_19
  · refine sm_bipush C bp_m2 dX10_marks_17 ?_
    exact sm_iret C E rfl dX10_marks_19
/-! X10_daysOf -/
set_option maxRecDepth 100000 in
set_option maxHeartbeats 4000000 in
theorem sX10_daysOf_9 {G : Gx} {a : Int32} {w : HW} (C : Cx G cX10_daysOf RX10 4 1 22) (E : Rx G (ρI w) a (some .int)) {x1 : Int32} : ∀ (n : Nat) (x2 : Int32) (x3 : Int32), Sm G a 9 [(0, .ref (hB G + 79)), (1, .int x1), (2, .int x2), (3, .int x3)] [] w (fX10_daysOf_9 w x1 n x2 x3) := by
  intro n
  induction n with
  | zero => intro _ _; exact sm_none
  | succ n ih =>
    intro x2 x3
    rw [fX10_daysOf_9]
    refine sm_iload_n C 3 rfl dX10_daysOf_9 rfl ?_
    refine sm_aload_n C 0 rfl dX10_daysOf_10 rfl ?_
    refine sm_iload_n C 1 rfl dX10_daysOf_11 rfl ?_
    refine sm_iconst C ic_2 dX10_daysOf_12 ?_
    refine sm_cVI (As := [.int x1, .int 2]) C cfX10_ofAugur wd334 kd_79 rfl rfl rfl rfl rfl dX10_daysOf_13 (fun r h => mX10_ofAugur  h) (fun r_3 => ?_)
    refine sm_icmp_gt C dX10_daysOf_16 (tgt := 31) rfl (fun h_5 => ?_) (fun h_5 => ?_)
    · refine sm_iload_n C 2 rfl dX10_daysOf_19 rfl ?_
      refine sm_iconst C ic_1 dX10_daysOf_20 ?_
      refine sm_iload_n C 3 rfl dX10_daysOf_21 rfl ?_
      refine sm_ishl C dX10_daysOf_22 ?_
      refine sm_ior C dX10_daysOf_23 ?_
      refine sm_let (fun x2_6 => ?_)
      refine sm_istore_n (lv1 := [(2, .int x2_6), (0, .ref (hB G + 79)), (1, .int x1), (3, .int x3)]) C dX10_daysOf_24 rfl rfl rfl ?_
      refine sm_iinc (lv1 := [(3, .int (x3 + 1)), (2, .int x2_6), (0, .ref (hB G + 79)), (1, .int x1)]) C 3 rfl (iv_1 _) dX10_daysOf_25 rfl rfl ?_
      refine sm_goto C dX10_daysOf_28 (tgt := 9) rfl ?_
      refine sm_sub [2, 3, 1, 0] rfl ?_
      exact ih x2_6 (x3 + 1)
    · refine sm_iload_n C 2 rfl dX10_daysOf_31 rfl ?_
      exact sm_iret C E rfl dX10_daysOf_32
set_option maxRecDepth 100000 in
set_option maxHeartbeats 4000000 in
theorem mX10_daysOf {b : Bx} {w : HW} {x1 : Int32} {a : Int32} (h : fX10_daysOf w x1 = some a) : Mt b yX10_daysOf cX10_daysOf 4 (some .int) 1 22 [.ref (bB b + 79), .int x1] w (some (.int a)) w := by
  refine Mt.of (ρI w) h (by decide) (Nat.le_of_ble_eq_true rfl) (fun G hG C E => ?_)
  subst hG
  have C : Cx G cX10_daysOf RX10 4 1 22 := C
  change Sm G a 0 [(0, .ref (hB G + 79)), (1, .int x1)] [] w _
  unfold fX10_daysOf
  refine sm_iconst C ic_0 dX10_daysOf_0 ?_
  refine sm_istore_n (lv1 := [(2, .int 0), (0, .ref (hB G + 79)), (1, .int x1)]) C dX10_daysOf_1 rfl rfl rfl ?_
  refine sm_aload_n C 1 rfl dX10_daysOf_2 rfl ?_
  refine sm_iload_n C 2 rfl dX10_daysOf_3 rfl ?_
  refine sm_iconst C ic_1 dX10_daysOf_4 ?_
  refine sm_cVI (As := [.int x1, .int 1]) C cfX10_ofAugur wd334 kd_79 rfl rfl rfl rfl rfl dX10_daysOf_5 (fun r h => mX10_ofAugur  h) (fun r_1 => ?_)
  refine sm_istore_n (lv1 := [(3, .int r_1), (2, .int 0), (0, .ref (hB G + 79)), (1, .int x1)]) C dX10_daysOf_8 rfl rfl rfl ?_
  refine sm_sub [2, 3, 1, 0] rfl ?_
  exact sX10_daysOf_9 C E FU 0 r_1
/-! X10_skyBy -/
set_option maxRecDepth 100000 in
set_option maxHeartbeats 4000000 in
theorem sX10_skyBy_5 {G : Gx} {a : Int32} {w : HW} (C : Cx G cX10_skyBy RX10 5 2 45) (E : Rx G (ρI w) a (some .int)) {x1 : Int32} {x2 : Int32} : ∀ (n : Nat) (x3 : Int32) (x4 : Int32), Sm G a 5 [(0, .ref (hB G + 79)), (1, .int x1), (2, .int x2), (3, .int x3), (4, .int x4)] [] w (fX10_skyBy_5 w x1 x2 n x3 x4) := by
  intro n
  induction n with
  | zero => intro _ _; exact sm_none
  | succ n ih =>
    intro x3 x4
    rw [fX10_skyBy_5]
    refine sm_iload C 4 rfl dX10_skyBy_5 ?_
    refine sm_aload_n C 0 rfl dX10_skyBy_7 rfl ?_
    refine sm_getR C fo_10_1 rfl wd297 kd_79 dX10_skyBy_8 (rv_79_1 w) (by decide) ?_
    refine sm_iconst C ic_4 dX10_skyBy_11 ?_
    refine sm_iald C kd_80 dX10_skyBy_12 (fun h_1 => ?_)
    refine sm_icmp_ge C dX10_skyBy_13 (tgt := 52) rfl (fun h_2 => ?_) (fun h_2 => ?_)
    · refine sm_aload_n C 0 rfl dX10_skyBy_16 rfl ?_
      refine sm_iload C 4 rfl dX10_skyBy_17 ?_
      refine sm_iconst C ic_0 dX10_skyBy_19 ?_
      refine sm_cVI (As := [.int x4, .int 0]) C cfX10_ofAugur wd334 kd_79 rfl rfl rfl rfl rfl dX10_skyBy_20 (fun r h => mX10_ofAugur  h) (fun r_3 => ?_)
      refine sm_iload_n C 1 rfl dX10_skyBy_23 rfl ?_
      refine sm_icmp_ne C dX10_skyBy_24 (tgt := 46) rfl (fun h_5 => ?_) (fun h_5 => ?_)
      · refine sm_iload_n C 2 rfl dX10_skyBy_27 rfl ?_
        refine sm_iload C 4 rfl dX10_skyBy_28 ?_
        refine sm_cSI (As := [.int x2, .int x4]) C cfX10_bit wd337 rfl rfl rfl rfl dX10_skyBy_30 (fun r h => mX10_bit  h) (fun r_6 => ?_)
        refine sm_iconst C ic_1 dX10_skyBy_33 ?_
        refine sm_icmp_ne C dX10_skyBy_34 (tgt := 46) rfl (fun h_8 => ?_) (fun h_8 => ?_)
        · refine sm_iload_n C 3 rfl dX10_skyBy_37 rfl ?_
          refine sm_aload_n C 0 rfl dX10_skyBy_38 rfl ?_
          refine sm_iload C 4 rfl dX10_skyBy_39 ?_
          refine sm_cVI (As := [.int x4]) C cfX10_daysOf wd338 kd_79 rfl rfl rfl rfl rfl dX10_skyBy_41 (fun r h => mX10_daysOf  h) (fun r_9 => ?_)
          refine sm_ior C dX10_skyBy_44 ?_
          refine sm_let (fun x3_11 => ?_)
          refine sm_istore_n (lv1 := [(3, .int x3_11), (0, .ref (hB G + 79)), (1, .int x1), (2, .int x2), (4, .int x4)]) C dX10_skyBy_45 rfl rfl rfl ?_
          refine sm_iinc (lv1 := [(4, .int (x4 + 1)), (3, .int x3_11), (0, .ref (hB G + 79)), (1, .int x1), (2, .int x2)]) C 4 rfl (iv_1 _) dX10_skyBy_46 rfl rfl ?_
          refine sm_goto C dX10_skyBy_49 (tgt := 5) rfl ?_
          refine sm_sub [2, 3, 4, 1, 0] rfl ?_
          exact ih x3_11 (x4 + 1)
        · refine sm_iinc (lv1 := [(4, .int (x4 + 1)), (0, .ref (hB G + 79)), (1, .int x1), (2, .int x2), (3, .int x3)]) C 4 rfl (iv_1 _) dX10_skyBy_46 rfl rfl ?_
          refine sm_goto C dX10_skyBy_49 (tgt := 5) rfl ?_
          refine sm_sub [1, 2, 3, 4, 0] rfl ?_
          exact ih x3 (x4 + 1)
      · refine sm_iinc (lv1 := [(4, .int (x4 + 1)), (0, .ref (hB G + 79)), (1, .int x1), (2, .int x2), (3, .int x3)]) C 4 rfl (iv_1 _) dX10_skyBy_46 rfl rfl ?_
        refine sm_goto C dX10_skyBy_49 (tgt := 5) rfl ?_
        refine sm_sub [1, 2, 3, 4, 0] rfl ?_
        exact ih x3 (x4 + 1)
    · refine sm_iload_n C 3 rfl dX10_skyBy_52 rfl ?_
      exact sm_iret C E rfl dX10_skyBy_53
set_option maxRecDepth 100000 in
set_option maxHeartbeats 4000000 in
theorem mX10_skyBy {b : Bx} {w : HW} {x1 : Int32} {x2 : Int32} {a : Int32} (h : fX10_skyBy w x1 x2 = some a) : Mt b yX10_skyBy cX10_skyBy 5 (some .int) 2 45 [.ref (bB b + 79), .int x1, .int x2] w (some (.int a)) w := by
  refine Mt.of (ρI w) h (by decide) (Nat.le_of_ble_eq_true rfl) (fun G hG C E => ?_)
  subst hG
  have C : Cx G cX10_skyBy RX10 5 2 45 := C
  change Sm G a 0 [(0, .ref (hB G + 79)), (1, .int x1), (2, .int x2)] [] w _
  unfold fX10_skyBy
  refine sm_iconst C ic_0 dX10_skyBy_0 ?_
  refine sm_istore_n (lv1 := [(3, .int 0), (0, .ref (hB G + 79)), (1, .int x1), (2, .int x2)]) C dX10_skyBy_1 rfl rfl rfl ?_
  refine sm_iconst C ic_0 dX10_skyBy_2 ?_
  refine sm_istore (lv1 := [(4, .int 0), (3, .int 0), (0, .ref (hB G + 79)), (1, .int x1), (2, .int x2)]) C dX10_skyBy_3 rfl rfl ?_
  refine sm_sub [2, 3, 4, 1, 0] rfl ?_
  exact sX10_skyBy_5 C E FU 0 0
/-! X10_allAugurs -/
set_option maxRecDepth 100000 in
set_option maxHeartbeats 4000000 in
theorem mX10_allAugurs {b : Bx} {w : HW} {a : Int32} (h : fX10_allAugurs w = some a) : Mt b yX10_allAugurs cX10_allAugurs 1 (some .int) 0 0 [.ref (bB b + 79)] w (some (.int a)) w := by
  refine Mt.of (ρI w) h (by decide) (Nat.le_of_ble_eq_true rfl) (fun G hG C E => ?_)
  subst hG
  have C : Cx G cX10_allAugurs RX10 1 0 0 := C
  change Sm G a 0 [(0, .ref (hB G + 79))] [] w _
  unfold fX10_allAugurs
  refine sm_iconst C ic_1 dX10_allAugurs_0 ?_
  refine sm_aload_n C 0 rfl dX10_allAugurs_1 rfl ?_
  refine sm_getR C fo_10_1 rfl wd297 kd_79 dX10_allAugurs_2 (rv_79_1 w) (by decide) ?_
  refine sm_iconst C ic_4 dX10_allAugurs_5 ?_
  refine sm_iald C kd_80 dX10_allAugurs_6 (fun h_1 => ?_)
  refine sm_ishl C dX10_allAugurs_7 ?_
  refine sm_iconst C ic_1 dX10_allAugurs_8 ?_
  refine sm_isub C dX10_allAugurs_9 ?_
  exact sm_iret C E rfl dX10_allAugurs_10
/-! X10_skyOf -/
set_option maxRecDepth 100000 in
set_option maxHeartbeats 4000000 in
theorem mX10_skyOf {b : Bx} {w : HW} {x1 : Int32} {a : Int32} (h : fX10_skyOf w x1 = some a) : Mt b yX10_skyOf cX10_skyOf 2 (some .int) 3 69 [.ref (bB b + 79), .int x1] w (some (.int a)) w := by
  refine Mt.of (ρI w) h (by decide) (Nat.le_of_ble_eq_true rfl) (fun G hG C E => ?_)
  subst hG
  have C : Cx G cX10_skyOf RX10 2 3 69 := C
  change Sm G a 0 [(0, .ref (hB G + 79)), (1, .int x1)] [] w _
  unfold fX10_skyOf
  refine sm_aload_n C 0 rfl dX10_skyOf_0 rfl ?_
  refine sm_iload_n C 1 rfl dX10_skyOf_1 rfl ?_
  refine sm_aload_n C 0 rfl dX10_skyOf_2 rfl ?_
  refine sm_cVI (As := []) C cfX10_allAugurs wd339 kd_79 rfl rfl rfl rfl rfl dX10_skyOf_3 (fun r h => mX10_allAugurs  h) (fun r_1 => ?_)
  refine sm_cVI (As := [.int x1, .int r_1]) C cfX10_skyBy wd340 kd_79 rfl rfl rfl rfl rfl dX10_skyOf_6 (fun r h => mX10_skyBy  h) (fun r_3 => ?_)
  exact sm_iret C E rfl dX10_skyOf_9
/-! X10_sky -/
set_option maxRecDepth 100000 in
set_option maxHeartbeats 4000000 in
theorem mX10_sky {b : Bx} {w : HW} {x1 : Int32} {a : Int32} (h : fX10_sky w x1 = some a) : Mt b yX10_sky cX10_sky 2 (some .int) 4 90 [.ref (bB b + 79), .int x1] w (some (.int a)) w := by
  refine Mt.of (ρI w) h (by decide) (Nat.le_of_ble_eq_true rfl) (fun G hG C E => ?_)
  subst hG
  have C : Cx G cX10_sky RX10 2 4 90 := C
  change Sm G a 0 [(0, .ref (hB G + 79)), (1, .int x1)] [] w _
  unfold fX10_sky
  refine sm_aload_n C 0 rfl dX10_sky_0 rfl ?_
  refine sm_iload_n C 1 rfl dX10_sky_1 rfl ?_
  refine sm_cVI (As := [.int x1]) C cfX10_isSide wd341 kd_79 rfl rfl rfl rfl rfl dX10_sky_2 (fun r h => mX10_isSide  h) (fun r_1 => ?_)
  refine sm_if_eq C dX10_sky_5 (tgt := 16) rfl (fun h_3 => ?_) (fun h_3 => ?_)
  · refine sm_aload_n C 0 rfl dX10_sky_8 rfl ?_
    refine sm_iload_n C 1 rfl dX10_sky_9 rfl ?_
    refine sm_cVI (As := [.int x1]) C cfX10_skyOf wd342 kd_79 rfl rfl rfl rfl rfl dX10_sky_10 (fun r h => mX10_skyOf  h) (fun r_4 => ?_)
    refine sm_goto C dX10_sky_13 (tgt := 18) rfl ?_
    exact sm_iret C E rfl dX10_sky_18
  · refine sm_bipush C bp_m2 dX10_sky_16 ?_
    exact sm_iret C E rfl dX10_sky_18
/-! X10_watch -/
set_option maxRecDepth 100000 in
set_option maxHeartbeats 4000000 in
theorem sX10_watch_16 {G : Gx} {a : Int32} {w : HW} (C : Cx G cX10_watch RX10 4 2 47) (E : Rx G (ρI w) a (some .int)) {x1 : Int32} : ∀ (n : Nat) (x2 : Int32) (x3 : Int32), Sm G a 16 [(0, .ref (hB G + 79)), (1, .int x1), (2, .int x2), (3, .int x3)] [] w (fX10_watch_16 w x1 n x2 x3) := by
  intro n
  induction n with
  | zero => intro _ _; exact sm_none
  | succ n ih =>
    intro x2 x3
    rw [fX10_watch_16]
    refine sm_iload_n C 3 rfl dX10_watch_16 rfl ?_
    refine sm_aload_n C 0 rfl dX10_watch_17 rfl ?_
    refine sm_getR C fo_10_1 rfl wd297 kd_79 dX10_watch_18 (rv_79_1 w) (by decide) ?_
    refine sm_iconst C ic_4 dX10_watch_21 ?_
    refine sm_iald C kd_80 dX10_watch_22 (fun h_4 => ?_)
    refine sm_icmp_ge C dX10_watch_23 (tgt := 46) rfl (fun h_5 => ?_) (fun h_5 => ?_)
    · refine sm_iload_n C 2 rfl dX10_watch_26 rfl ?_
      refine sm_aload_n C 0 rfl dX10_watch_27 rfl ?_
      refine sm_iload_n C 3 rfl dX10_watch_28 rfl ?_
      refine sm_cVI (As := [.int x3]) C cfX10_daysOf wd338 kd_79 rfl rfl rfl rfl rfl dX10_watch_29 (fun r h => mX10_daysOf  h) (fun r_6 => ?_)
      refine sm_iload_n C 1 rfl dX10_watch_32 rfl ?_
      refine sm_cSI (As := [.int r_6, .int x1]) C cfX10_bit wd337 rfl rfl rfl rfl dX10_watch_33 (fun r h => mX10_bit  h) (fun r_8 => ?_)
      refine sm_iload_n C 3 rfl dX10_watch_36 rfl ?_
      refine sm_ishl C dX10_watch_37 ?_
      refine sm_ior C dX10_watch_38 ?_
      refine sm_let (fun x2_10 => ?_)
      refine sm_istore_n (lv1 := [(2, .int x2_10), (0, .ref (hB G + 79)), (1, .int x1), (3, .int x3)]) C dX10_watch_39 rfl rfl rfl ?_
      refine sm_iinc (lv1 := [(3, .int (x3 + 1)), (2, .int x2_10), (0, .ref (hB G + 79)), (1, .int x1)]) C 3 rfl (iv_1 _) dX10_watch_40 rfl rfl ?_
      refine sm_goto C dX10_watch_43 (tgt := 16) rfl ?_
      refine sm_sub [2, 3, 1, 0] rfl ?_
      exact ih x2_10 (x3 + 1)
    · refine sm_iload_n C 2 rfl dX10_watch_46 rfl ?_
      exact sm_iret C E rfl dX10_watch_47
set_option maxRecDepth 100000 in
set_option maxHeartbeats 4000000 in
theorem mX10_watch {b : Bx} {w : HW} {x1 : Int32} {a : Int32} (h : fX10_watch w x1 = some a) : Mt b yX10_watch cX10_watch 4 (some .int) 2 47 [.ref (bB b + 79), .int x1] w (some (.int a)) w := by
  refine Mt.of (ρI w) h (by decide) (Nat.le_of_ble_eq_true rfl) (fun G hG C E => ?_)
  subst hG
  have C : Cx G cX10_watch RX10 4 2 47 := C
  change Sm G a 0 [(0, .ref (hB G + 79)), (1, .int x1)] [] w _
  unfold fX10_watch
  refine sm_aload_n C 0 rfl dX10_watch_0 rfl ?_
  refine sm_iload_n C 1 rfl dX10_watch_1 rfl ?_
  refine sm_i2l C dX10_watch_2 ?_
  refine sm_cVI (As := [.long (x1.toInt64)]) C cfX10_isDay wd343 kd_79 rfl rfl rfl rfl rfl dX10_watch_3 (fun r h => mX10_isDay  h) (fun r_1 => ?_)
  refine sm_if_ne C dX10_watch_6 (tgt := 12) rfl (fun h_3 => ?_) (fun h_3 => ?_)
  · refine sm_bipush C bp_m2 dX10_watch_9 ?_
    exact sm_iret C E rfl dX10_watch_11
  · refine sm_iconst C ic_0 dX10_watch_12 ?_
    refine sm_istore_n (lv1 := [(2, .int 0), (0, .ref (hB G + 79)), (1, .int x1)]) C dX10_watch_13 rfl rfl rfl ?_
    refine sm_iconst C ic_0 dX10_watch_14 ?_
    refine sm_istore_n (lv1 := [(3, .int 0), (2, .int 0), (0, .ref (hB G + 79)), (1, .int x1)]) C dX10_watch_15 rfl rfl rfl ?_
    refine sm_sub [2, 3, 1, 0] rfl ?_
    exact sX10_watch_16 C E FU 0 0
/-! X10_layAsked -/
set_option maxRecDepth 100000 in
set_option maxHeartbeats 4000000 in
theorem sX10_layAsked_44 {G : Gx} {a : HW} (C : Cx G cX10_layAsked RX10 3 0 0) (E : Rx G ρW a (none)) : ∀ (n : Nat) (w : HW) (x1 : Int32), Sm G a 44 [(0, .ref (hB G + 79)), (1, .int x1)] [] w (fX10_layAsked_44 n w x1) := by
  intro n
  induction n with
  | zero => intro _ _; exact sm_none
  | succ n ih =>
    intro w x1
    rw [fX10_layAsked_44]
    refine sm_iload_n C 1 rfl dX10_layAsked_44 rfl ?_
    refine sm_aload_n C 0 rfl dX10_layAsked_45 rfl ?_
    refine sm_getR C fo_10_1 rfl wd297 kd_79 dX10_layAsked_46 (rv_79_1 w) (by decide) ?_
    refine sm_bipush C bp_6 dX10_layAsked_49 ?_
    refine sm_iald C kd_80 dX10_layAsked_51 (fun h_7 => ?_)
    refine sm_icmp_ge C dX10_layAsked_52 (tgt := 119) rfl (fun h_8 => ?_) (fun h_8 => ?_)
    · refine sm_aload_n C 0 rfl dX10_layAsked_55 rfl ?_
      refine sm_getR C fo_10_1 rfl wd297 kd_79 dX10_layAsked_56 (rv_79_1 w) (by decide) ?_
      refine sm_bipush C bp_57 dX10_layAsked_59 ?_
      refine sm_iload_n C 1 rfl dX10_layAsked_61 rfl ?_
      refine sm_iadd C dX10_layAsked_62 ?_
      refine sm_iald C kd_80 dX10_layAsked_63 (fun h_9 => ?_)
      refine sm_let (fun x2_10 => ?_)
      refine sm_istore_n (lv1 := [(2, .int x2_10), (0, .ref (hB G + 79)), (1, .int x1)]) C dX10_layAsked_64 rfl rfl rfl ?_
      refine sm_iload_n C 0 rfl dX10_layAsked_65 rfl ?_
      refine sm_sipush C sp_1000 dX10_layAsked_66 ?_
      refine sm_icmp_lt C dX10_layAsked_69 (tgt := 87) rfl (fun h_11 => ?_) (fun h_11 => ?_)
      · refine sm_aload_n C 1 rfl dX10_layAsked_72 rfl ?_
        refine sm_getR C fo_10_15 rfl wd344 kd_79 dX10_layAsked_73 (rv_79_15 w) (by decide) ?_
        refine sm_iload_n C 0 rfl dX10_layAsked_76 rfl ?_
        refine sm_sipush C sp_1000 dX10_layAsked_77 ?_
        refine sm_isub C dX10_layAsked_80 ?_
        refine sm_bipush C bp_m2 dX10_layAsked_81 ?_
        refine sm_iast C kd_86 dX10_layAsked_83 (fun h_12 w_13 => ?_)
        refine sm_goto C dX10_layAsked_84 (tgt := 113) rfl ?_
        refine sm_iinc (lv1 := [(1, .int (x1 + 1)), (2, .int x2_10), (0, .ref (hB G + 79))]) C 2 rfl (iv_1 _) dX10_layAsked_113 rfl rfl ?_
        refine sm_goto C dX10_layAsked_116 (tgt := 44) rfl ?_
        refine sm_sub [2, 0] rfl ?_
        exact ih w_13 (x1 + 1)
      · refine sm_aload_n C 1 rfl dX10_layAsked_87 rfl ?_
        refine sm_getR C fo_10_15 rfl wd344 kd_79 dX10_layAsked_88 (rv_79_15 w) (by decide) ?_
        refine sm_iload_n C 0 rfl dX10_layAsked_91 rfl ?_
        refine sm_bipush C bp_100 dX10_layAsked_92 ?_
        refine sm_irem C (by decide) dX10_layAsked_94 ?_
        refine sm_iload_n C 0 rfl dX10_layAsked_95 rfl ?_
        refine sm_bipush C bp_100 dX10_layAsked_96 ?_
        refine sm_idiv C (by decide) dX10_layAsked_98 ?_
        refine sm_iast C kd_86 dX10_layAsked_99 (fun h_14 w_15 => ?_)
        refine sm_aload_n C 1 rfl dX10_layAsked_100 rfl ?_
        refine sm_getR C fo_10_19 rfl wd345 kd_79 dX10_layAsked_101 (rv_79_19 w_15) (by decide) ?_
        refine sm_iload_n C 0 rfl dX10_layAsked_104 rfl ?_
        refine sm_bipush C bp_100 dX10_layAsked_105 ?_
        refine sm_idiv C (by decide) dX10_layAsked_107 ?_
        refine sm_iload_n C 0 rfl dX10_layAsked_108 rfl ?_
        refine sm_bipush C bp_100 dX10_layAsked_109 ?_
        refine sm_irem C (by decide) dX10_layAsked_111 ?_
        refine sm_iast C kd_90 dX10_layAsked_112 (fun h_16 w_17 => ?_)
        refine sm_iinc (lv1 := [(1, .int (x1 + 1)), (2, .int x2_10), (0, .ref (hB G + 79))]) C 2 rfl (iv_1 _) dX10_layAsked_113 rfl rfl ?_
        refine sm_goto C dX10_layAsked_116 (tgt := 44) rfl ?_
        refine sm_sub [2, 0] rfl ?_
        exact ih w_17 (x1 + 1)
    · exact sm_vret C E rfl dX10_layAsked_119
set_option maxRecDepth 100000 in
set_option maxHeartbeats 4000000 in
theorem sX10_layAsked_23 {G : Gx} {a : HW} (C : Cx G cX10_layAsked RX10 3 0 0) (E : Rx G ρW a (none)) : ∀ (n : Nat) (w : HW) (x1 : Int32), Sm G a 23 [(0, .ref (hB G + 79)), (1, .int x1)] [] w (fX10_layAsked_23 n w x1) := by
  intro n
  induction n with
  | zero => intro _ _; exact sm_none
  | succ n ih =>
    intro w x1
    rw [fX10_layAsked_23]
    refine sm_iload_n C 1 rfl dX10_layAsked_23 rfl ?_
    refine sm_bipush C bp_8 dX10_layAsked_24 ?_
    refine sm_icmp_ge C dX10_layAsked_26 (tgt := 42) rfl (fun h_4 => ?_) (fun h_4 => ?_)
    · refine sm_aload_n C 0 rfl dX10_layAsked_29 rfl ?_
      refine sm_getR C fo_10_19 rfl wd345 kd_79 dX10_layAsked_30 (rv_79_19 w) (by decide) ?_
      refine sm_iload_n C 1 rfl dX10_layAsked_33 rfl ?_
      refine sm_iconst C ic_m1 dX10_layAsked_34 ?_
      refine sm_iast C kd_90 dX10_layAsked_35 (fun h_5 w_6 => ?_)
      refine sm_iinc (lv1 := [(1, .int (x1 + 1)), (0, .ref (hB G + 79))]) C 1 rfl (iv_1 _) dX10_layAsked_36 rfl rfl ?_
      refine sm_goto C dX10_layAsked_39 (tgt := 23) rfl ?_
      refine sm_sub [1, 0] rfl ?_
      exact ih w_6 (x1 + 1)
    · refine sm_iconst C ic_0 dX10_layAsked_42 ?_
      refine sm_istore_n (lv1 := [(1, .int 0), (0, .ref (hB G + 79))]) C dX10_layAsked_43 rfl rfl rfl ?_
      refine sm_sub [1, 0] rfl ?_
      exact sX10_layAsked_44 C E FU w 0
set_option maxRecDepth 100000 in
set_option maxHeartbeats 4000000 in
theorem sX10_layAsked_2 {G : Gx} {a : HW} (C : Cx G cX10_layAsked RX10 3 0 0) (E : Rx G ρW a (none)) : ∀ (n : Nat) (w : HW) (x1 : Int32), Sm G a 2 [(0, .ref (hB G + 79)), (1, .int x1)] [] w (fX10_layAsked_2 n w x1) := by
  intro n
  induction n with
  | zero => intro _ _; exact sm_none
  | succ n ih =>
    intro w x1
    rw [fX10_layAsked_2]
    refine sm_iload_n C 1 rfl dX10_layAsked_2 rfl ?_
    refine sm_bipush C bp_14 dX10_layAsked_3 ?_
    refine sm_icmp_ge C dX10_layAsked_5 (tgt := 21) rfl (fun h_1 => ?_) (fun h_1 => ?_)
    · refine sm_aload_n C 0 rfl dX10_layAsked_8 rfl ?_
      refine sm_getR C fo_10_15 rfl wd344 kd_79 dX10_layAsked_9 (rv_79_15 w) (by decide) ?_
      refine sm_iload_n C 1 rfl dX10_layAsked_12 rfl ?_
      refine sm_iconst C ic_m1 dX10_layAsked_13 ?_
      refine sm_iast C kd_86 dX10_layAsked_14 (fun h_2 w_3 => ?_)
      refine sm_iinc (lv1 := [(1, .int (x1 + 1)), (0, .ref (hB G + 79))]) C 1 rfl (iv_1 _) dX10_layAsked_15 rfl rfl ?_
      refine sm_goto C dX10_layAsked_18 (tgt := 2) rfl ?_
      refine sm_sub [1, 0] rfl ?_
      exact ih w_3 (x1 + 1)
    · refine sm_iconst C ic_0 dX10_layAsked_21 ?_
      refine sm_istore_n (lv1 := [(1, .int 0), (0, .ref (hB G + 79))]) C dX10_layAsked_22 rfl rfl rfl ?_
      refine sm_sub [1, 0] rfl ?_
      exact sX10_layAsked_23 C E FU w 0
set_option maxRecDepth 100000 in
set_option maxHeartbeats 4000000 in
theorem mX10_layAsked {b : Bx} {w : HW} {a : HW} (h : fX10_layAsked w = some a) : Mt b yX10_layAsked cX10_layAsked 3 (none) 0 0 [.ref (bB b + 79)] w none a := by
  refine Mt.of ρW h (by decide) (Nat.le_of_ble_eq_true rfl) (fun G hG C E => ?_)
  subst hG
  have C : Cx G cX10_layAsked RX10 3 0 0 := C
  change Sm G a 0 [(0, .ref (hB G + 79))] [] w _
  unfold fX10_layAsked
  refine sm_iconst C ic_0 dX10_layAsked_0 ?_
  refine sm_istore_n (lv1 := [(1, .int 0), (0, .ref (hB G + 79))]) C dX10_layAsked_1 rfl rfl rfl ?_
  refine sm_sub [1, 0] rfl ?_
  exact sX10_layAsked_2 C E FU w 0
/-! X10_doEat -/
set_option maxRecDepth 100000 in
set_option maxHeartbeats 4000000 in
theorem mX10_doEat {b : Bx} {w : HW} {x1 : Int32} {a : Int32} (h : fX10_doEat w x1 = some a) : Mt b yX10_doEat cX10_doEat 2 (some .boolean) 0 0 [.ref (bB b + 79), .int x1] w (some (.int a)) w := by
  refine Mt.of (ρI w) h (by decide) (Nat.le_of_ble_eq_true rfl) (fun G hG C E => ?_)
  subst hG
  have C : Cx G cX10_doEat RX10 2 0 0 := C
  change Sm G a 0 [(0, .ref (hB G + 79)), (1, .int x1)] [] w _
  unfold fX10_doEat
  refine sm_aload_n C 0 rfl dX10_doEat_0 rfl ?_
  refine sm_getR C fo_10_16 rfl wd346 kd_79 dX10_doEat_1 (rv_79_16 w) (by decide) ?_
  refine sm_iload_n C 1 rfl dX10_doEat_4 rfl ?_
  refine sm_iald C kd_87 dX10_doEat_5 (fun h_1 => ?_)
  refine sm_aload_n C 0 rfl dX10_doEat_6 rfl ?_
  refine sm_getR C fo_10_1 rfl wd297 kd_79 dX10_doEat_7 (rv_79_1 w) (by decide) ?_
  refine sm_iconst C ic_2 dX10_doEat_10 ?_
  refine sm_iald C kd_80 dX10_doEat_11 (fun h_2 => ?_)
  refine sm_icmp_lt C dX10_doEat_12 (tgt := 19) rfl (fun h_3 => ?_) (fun h_3 => ?_)
  · refine sm_iconst C ic_1 dX10_doEat_15 ?_
    refine sm_goto C dX10_doEat_16 (tgt := 20) rfl ?_
    exact sm_zret C E rfl rfl dX10_doEat_20
  · refine sm_iconst C ic_0 dX10_doEat_19 ?_
    exact sm_zret C E rfl rfl dX10_doEat_20
/-! X10_whyOn -/
set_option maxRecDepth 100000 in
set_option maxHeartbeats 4000000 in
theorem mX10_whyOn {b : Bx} {w : HW} {x1 : Int32} {x2 : Int32} {x3 : Int32} {a : Int32} (h : fX10_whyOn w x1 x2 x3 = some a) : Mt b yX10_whyOn cX10_whyOn 5 (some .int) 4 90 [.ref (bB b + 79), .int x1, .int x2, .int x3] w (some (.int a)) w := by
  refine Mt.of (ρI w) h (by decide) (Nat.le_of_ble_eq_true rfl) (fun G hG C E => ?_)
  subst hG
  have C : Cx G cX10_whyOn RX10 5 4 90 := C
  change Sm G a 0 [(0, .ref (hB G + 79)), (1, .int x1), (2, .int x2), (3, .int x3)] [] w _
  unfold fX10_whyOn
  refine sm_iload_n C 3 rfl dX10_whyOn_0 rfl ?_
  refine sm_if_ne C dX10_whyOn_1 (tgt := 6) rfl (fun h_1 => ?_) (fun h_1 => ?_)
  · refine sm_iconst C ic_1 dX10_whyOn_4 ?_
    exact sm_iret C E rfl dX10_whyOn_5
  · refine sm_aload_n C 0 rfl dX10_whyOn_6 rfl ?_
    refine sm_getR C fo_10_1 rfl wd297 kd_79 dX10_whyOn_7 (rv_79_1 w) (by decide) ?_
    refine sm_bipush C bp_8 dX10_whyOn_10 ?_
    refine sm_iald C kd_80 dX10_whyOn_12 (fun h_2 => ?_)
    refine sm_iload_n C 2 rfl dX10_whyOn_13 rfl ?_
    refine sm_cSI (As := [.int (gI w 80 (ix 8)), .int x2]) C cfX10_bit wd337 rfl rfl rfl rfl dX10_whyOn_14 (fun r h => mX10_bit  h) (fun r_3 => ?_)
    refine sm_iconst C ic_1 dX10_whyOn_17 ?_
    refine sm_icmp_ne C dX10_whyOn_18 (tgt := 23) rfl (fun h_5 => ?_) (fun h_5 => ?_)
    · refine sm_iconst C ic_2 dX10_whyOn_21 ?_
      exact sm_iret C E rfl dX10_whyOn_22
    · refine sm_aload_n C 0 rfl dX10_whyOn_23 rfl ?_
      refine sm_iconst C ic_1 dX10_whyOn_24 ?_
      refine sm_aload_n C 0 rfl dX10_whyOn_25 rfl ?_
      refine sm_iload_n C 1 rfl dX10_whyOn_26 rfl ?_
      refine sm_iconst C ic_0 dX10_whyOn_27 ?_
      refine sm_cVI (As := [.int x1, .int 0]) C cfX10_of wd336 kd_79 rfl rfl rfl rfl rfl dX10_whyOn_28 (fun r h => mX10_of  h) (fun r_6 => ?_)
      refine sm_isub C dX10_whyOn_31 ?_
      refine sm_cVI (As := [.int (1 - r_6)]) C cfX10_skyOf wd342 kd_79 rfl rfl rfl rfl rfl dX10_whyOn_32 (fun r h => mX10_skyOf  h) (fun r_8 => ?_)
      refine sm_iload_n C 2 rfl dX10_whyOn_35 rfl ?_
      refine sm_cSI (As := [.int r_8, .int x2]) C cfX10_bit wd337 rfl rfl rfl rfl dX10_whyOn_36 (fun r h => mX10_bit  h) (fun r_10 => ?_)
      refine sm_iconst C ic_1 dX10_whyOn_39 ?_
      refine sm_icmp_ne C dX10_whyOn_40 (tgt := 45) rfl (fun h_12 => ?_) (fun h_12 => ?_)
      · refine sm_iconst C ic_3 dX10_whyOn_43 ?_
        exact sm_iret C E rfl dX10_whyOn_44
      · refine sm_aload_n C 0 rfl dX10_whyOn_45 rfl ?_
        refine sm_iload_n C 1 rfl dX10_whyOn_46 rfl ?_
        refine sm_iconst C ic_2 dX10_whyOn_47 ?_
        refine sm_cVI (As := [.int x1, .int 2]) C cfX10_of wd336 kd_79 rfl rfl rfl rfl rfl dX10_whyOn_48 (fun r h => mX10_of  h) (fun r_13 => ?_)
        refine sm_istore (lv1 := [(4, .int r_13), (0, .ref (hB G + 79)), (1, .int x1), (2, .int x2), (3, .int x3)]) C dX10_whyOn_51 rfl rfl ?_
        refine sm_iload C 0 rfl dX10_whyOn_53 ?_
        refine sm_iconst C ic_m1 dX10_whyOn_55 ?_
        refine sm_icmp_eq C dX10_whyOn_56 (tgt := 85) rfl (fun h_15 => ?_) (fun h_15 => ?_)
        · refine sm_aload_n C 1 rfl dX10_whyOn_59 rfl ?_
          refine sm_getR C fo_10_18 rfl wd347 kd_79 dX10_whyOn_60 (rv_79_18 w) (by decide) ?_
          refine sm_iload C 0 rfl dX10_whyOn_63 ?_
          refine sm_iald C kd_89 dX10_whyOn_65 (fun h_16 => ?_)
          refine sm_iconst C ic_m1 dX10_whyOn_66 ?_
          refine sm_icmp_eq C dX10_whyOn_67 (tgt := 81) rfl (fun h_17 => ?_) (fun h_17 => ?_)
          · refine sm_aload_n C 1 rfl dX10_whyOn_70 rfl ?_
            refine sm_getR C fo_10_18 rfl wd347 kd_79 dX10_whyOn_71 (rv_79_18 w) (by decide) ?_
            refine sm_iload C 0 rfl dX10_whyOn_74 ?_
            refine sm_iald C kd_89 dX10_whyOn_76 (fun h_18 => ?_)
            refine sm_iload_n C 3 rfl dX10_whyOn_77 rfl ?_
            refine sm_icmp_lt C dX10_whyOn_78 (tgt := 85) rfl (fun h_19 => ?_) (fun h_19 => ?_)
            · refine sm_iconst C ic_4 dX10_whyOn_81 ?_
              refine sm_goto C dX10_whyOn_82 (tgt := 86) rfl ?_
              exact sm_iret C E rfl dX10_whyOn_86
            · refine sm_iconst C ic_0 dX10_whyOn_85 ?_
              exact sm_iret C E rfl dX10_whyOn_86
          · refine sm_iconst C ic_4 dX10_whyOn_81 ?_
            refine sm_goto C dX10_whyOn_82 (tgt := 86) rfl ?_
            exact sm_iret C E rfl dX10_whyOn_86
        · refine sm_iconst C ic_0 dX10_whyOn_85 ?_
          exact sm_iret C E rfl dX10_whyOn_86
/-! X10_drawsWell -/
set_option maxRecDepth 100000 in
set_option maxHeartbeats 4000000 in
theorem mX10_drawsWell {b : Bx} {w : HW} {a : Int32 × HW} (h : fX10_drawsWell w = some a) : Mt b yX10_drawsWell cX10_drawsWell 1 (some .boolean) 0 0 [.ref (bB b + 79)] w (some (.int a.1)) a.2 := by
  refine Mt.of ρIW h (by decide) (Nat.le_of_ble_eq_true rfl) (fun G hG C E => ?_)
  subst hG
  have C : Cx G cX10_drawsWell RX10 1 0 0 := C
  change Sm G a 0 [(0, .ref (hB G + 79))] [] w _
  unfold fX10_drawsWell
  refine sm_aload_n C 0 rfl dX10_drawsWell_0 rfl ?_
  refine sm_getI C fo_10_21 rfl wd348 kd_79 dX10_drawsWell_1 ?_
  refine sm_if_ne C dX10_drawsWell_4 (tgt := 9) rfl (fun h_1 => ?_) (fun h_1 => ?_)
  · refine sm_iconst C ic_1 dX10_drawsWell_7 ?_
    exact sm_zret C E rfl rfl dX10_drawsWell_8
  · refine sm_aload_n C 0 rfl dX10_drawsWell_9 rfl ?_
    refine sm_ldc2 C wd349 dX10_drawsWell_10 ?_
    refine sm_aload_n C 0 rfl dX10_drawsWell_13 rfl ?_
    refine sm_getL C fo_10_20 rfl wd350 kd_79 dX10_drawsWell_14 ?_
    refine sm_lmul C dX10_drawsWell_17 ?_
    refine sm_ldc2 C wd351 dX10_drawsWell_18 ?_
    refine sm_ladd C dX10_drawsWell_21 ?_
    refine sm_ldc2 C wd352 dX10_drawsWell_22 ?_
    refine sm_lrem C (by decide) dX10_drawsWell_25 ?_
    refine sm_putL C fo_10_20 rfl wd350 kd_79 rfl dX10_drawsWell_26 (fun w_2 => ?_)
    refine sm_aload_n C 0 rfl dX10_drawsWell_29 rfl ?_
    refine sm_dup C rfl dX10_drawsWell_30 ?_
    refine sm_getI C fo_10_22 rfl wd353 kd_79 dX10_drawsWell_31 ?_
    refine sm_iconst C ic_1 dX10_drawsWell_34 ?_
    refine sm_iadd C dX10_drawsWell_35 ?_
    refine sm_putI C fo_10_22 rfl wd353 kd_79 rfl dX10_drawsWell_36 (fun w_3 => ?_)
    refine sm_aload_n C 0 rfl dX10_drawsWell_39 rfl ?_
    refine sm_getL C fo_10_20 rfl wd350 kd_79 dX10_drawsWell_40 ?_
    refine sm_ldc2 C wd354 dX10_drawsWell_43 ?_
    refine sm_ldiv C (by decide) dX10_drawsWell_46 ?_
    refine sm_ldc2 C wd355 dX10_drawsWell_47 ?_
    refine sm_lrem C (by decide) dX10_drawsWell_50 ?_
    refine sm_aload_n C 0 rfl dX10_drawsWell_51 rfl ?_
    refine sm_getR C fo_10_1 rfl wd297 kd_79 dX10_drawsWell_52 (rv_79_1 w_3) (by decide) ?_
    refine sm_iconst C ic_3 dX10_drawsWell_55 ?_
    refine sm_iald C kd_80 dX10_drawsWell_56 (fun h_4 => ?_)
    refine sm_i2l C dX10_drawsWell_57 ?_
    refine sm_lcmp C dX10_drawsWell_58 ?_
    refine sm_if_ge C dX10_drawsWell_59 (tgt := 66) rfl (fun h_5 => ?_) (fun h_5 => ?_)
    · refine sm_iconst C ic_1 dX10_drawsWell_62 ?_
      refine sm_goto C dX10_drawsWell_63 (tgt := 67) rfl ?_
      exact sm_zret C E rfl rfl dX10_drawsWell_67
    · refine sm_iconst C ic_0 dX10_drawsWell_66 ?_
      exact sm_zret C E rfl rfl dX10_drawsWell_67
/-! X10_goDays -/
set_option maxRecDepth 100000 in
set_option maxHeartbeats 4000000 in
theorem sX10_goDays_119 {G : Gx} {a : HW} (C : Cx G cX10_goDays RX10 4 5 114) (E : Rx G ρW a (none)) {K14 : HW → Int32 → Option HW} (w : HW) (x1 : Int32) (x2 : Int32) (s0 : Int32) (hK14 : ∀ (w' : HW) (x1' : Int32), Sm G a 23 [(0, .ref (hB G + 79)), (1, .int (x1'))] [] w' (K14 w' x1')) : Sm G a 119 [(0, .ref (hB G + 79)), (1, .int x1), (2, .int x2)] [.int s0] w (fX10_goDays_119 w K14 x1 x2 s0) := by
  unfold fX10_goDays_119
  refine sm_istore_n (lv1 := [(3, .int s0), (0, .ref (hB G + 79)), (1, .int x1), (2, .int x2)]) C dX10_goDays_119 rfl rfl rfl ?_
  refine sm_aload_n C 1 rfl dX10_goDays_120 rfl ?_
  refine sm_iload_n C 3 rfl dX10_goDays_121 rfl ?_
  refine sm_iload_n C 2 rfl dX10_goDays_122 rfl ?_
  refine sm_iload_n C 0 rfl dX10_goDays_123 rfl ?_
  refine sm_cVI (As := [.int x2, .int x1, .int s0]) C cfX10_whyOn wd359 kd_79 rfl rfl rfl rfl rfl dX10_goDays_124 (fun r h => mX10_whyOn  h) (fun r_24 => ?_)
  refine sm_if_eq C dX10_goDays_127 (tgt := 133) rfl (fun h_26 => ?_) (fun h_26 => ?_)
  · refine sm_goto C dX10_goDays_130 (tgt := 147) rfl ?_
    refine sm_iinc (lv1 := [(1, .int (x1 + 1)), (3, .int s0), (0, .ref (hB G + 79)), (2, .int x2)]) C 2 rfl (iv_1 _) dX10_goDays_147 rfl rfl ?_
    refine sm_goto C dX10_goDays_150 (tgt := 23) rfl ?_
    refine sm_sub [2, 0] rfl ?_
    exact hK14 w (x1 + 1)
  · refine sm_aload_n C 1 rfl dX10_goDays_133 rfl ?_
    refine sm_getR C fo_10_17 rfl wd356 kd_79 dX10_goDays_134 (rv_79_17 w) (by decide) ?_
    refine sm_iload_n C 2 rfl dX10_goDays_137 rfl ?_
    refine sm_iload_n C 3 rfl dX10_goDays_138 rfl ?_
    refine sm_iast C kd_88 dX10_goDays_139 (fun h_27 w_28 => ?_)
    refine sm_aload_n C 1 rfl dX10_goDays_140 rfl ?_
    refine sm_getR C fo_10_18 rfl wd347 kd_79 dX10_goDays_141 (rv_79_18 w_28) (by decide) ?_
    refine sm_iload_n C 3 rfl dX10_goDays_144 rfl ?_
    refine sm_iload_n C 2 rfl dX10_goDays_145 rfl ?_
    refine sm_iast C kd_89 dX10_goDays_146 (fun h_29 w_30 => ?_)
    refine sm_iinc (lv1 := [(1, .int (x1 + 1)), (3, .int s0), (0, .ref (hB G + 79)), (2, .int x2)]) C 2 rfl (iv_1 _) dX10_goDays_147 rfl rfl ?_
    refine sm_goto C dX10_goDays_150 (tgt := 23) rfl ?_
    refine sm_sub [2, 0] rfl ?_
    exact hK14 w_30 (x1 + 1)
set_option maxRecDepth 100000 in
set_option maxHeartbeats 4000000 in
theorem sX10_goDays_77 {G : Gx} {a : HW} (C : Cx G cX10_goDays RX10 4 5 114) (E : Rx G ρW a (none)) {K14 : HW → Int32 → Option HW} (w : HW) (x1 : Int32) (s0 : Int32) (s1 : Int32) (hK14 : ∀ (w' : HW) (x1' : Int32), Sm G a 23 [(0, .ref (hB G + 79)), (1, .int (x1'))] [] w' (K14 w' x1')) : Sm G a 77 [(0, .ref (hB G + 79)), (1, .int x1)] [.int s0, .int s1, .ref (hB G + 87)] w (fX10_goDays_77 w K14 x1 s0 s1) := by
  unfold fX10_goDays_77
  refine sm_iast C kd_87 dX10_goDays_77 (fun h_11 w_12 => ?_)
  refine sm_aload_n C 0 rfl dX10_goDays_78 rfl ?_
  refine sm_getR C fo_10_17 rfl wd356 kd_79 dX10_goDays_79 (rv_79_17 w_12) (by decide) ?_
  refine sm_iload_n C 1 rfl dX10_goDays_82 rfl ?_
  refine sm_iconst C ic_m1 dX10_goDays_83 ?_
  refine sm_iast C kd_88 dX10_goDays_84 (fun h_13 w_14 => ?_)
  refine sm_aload_n C 0 rfl dX10_goDays_85 rfl ?_
  refine sm_getR C fo_10_15 rfl wd344 kd_79 dX10_goDays_86 (rv_79_15 w_14) (by decide) ?_
  refine sm_iload_n C 1 rfl dX10_goDays_89 rfl ?_
  refine sm_iald C kd_86 dX10_goDays_90 (fun h_15 => ?_)
  refine sm_let (fun x2_16 => ?_)
  refine sm_istore_n (lv1 := [(2, .int x2_16), (0, .ref (hB G + 79)), (1, .int x1)]) C dX10_goDays_91 rfl rfl rfl ?_
  refine sm_iload_n C 0 rfl dX10_goDays_92 rfl ?_
  refine sm_if_ge C dX10_goDays_93 (tgt := 99) rfl (fun h_17 => ?_) (fun h_17 => ?_)
  · refine sm_goto C dX10_goDays_96 (tgt := 147) rfl ?_
    refine sm_iinc (lv1 := [(1, .int (x1 + 1)), (2, .int x2_16), (0, .ref (hB G + 79))]) C 2 rfl (iv_1 _) dX10_goDays_147 rfl rfl ?_
    refine sm_goto C dX10_goDays_150 (tgt := 23) rfl ?_
    refine sm_sub [2, 0] rfl ?_
    exact hK14 w_14 (x1 + 1)
  · refine sm_aload_n C 1 rfl dX10_goDays_99 rfl ?_
    refine sm_iload_n C 2 rfl dX10_goDays_100 rfl ?_
    refine sm_cVI (As := [.int x1]) C cfX10_doEat wd357 kd_79 rfl rfl rfl rfl rfl dX10_goDays_101 (fun r h => mX10_doEat  h) (fun r_18 => ?_)
    refine sm_if_eq C dX10_goDays_104 (tgt := 118) rfl (fun h_20 => ?_) (fun h_20 => ?_)
    · refine sm_aload_n C 1 rfl dX10_goDays_107 rfl ?_
      refine sm_cVIW (As := []) C cfX10_drawsWell wd358 kd_79 rfl rfl rfl rfl rfl dX10_goDays_108 (fun r h => mX10_drawsWell  h) (fun r_21 w_22 => ?_)
      refine sm_if_eq C dX10_goDays_111 (tgt := 118) rfl (fun h_23 => ?_) (fun h_23 => ?_)
      · refine sm_iconst C ic_1 dX10_goDays_114 ?_
        refine sm_goto C dX10_goDays_115 (tgt := 119) rfl ?_
        refine sm_sub [1, 2, 0] rfl ?_
        exact sX10_goDays_119 C E w_22 x1 x2_16 1 hK14
      · refine sm_iconst C ic_0 dX10_goDays_118 ?_
        refine sm_sub [1, 2, 0] rfl ?_
        exact sX10_goDays_119 C E w_22 x1 x2_16 0 hK14
    · refine sm_iconst C ic_0 dX10_goDays_118 ?_
      refine sm_sub [1, 2, 0] rfl ?_
      exact sX10_goDays_119 C E w_14 x1 x2_16 0 hK14
set_option maxRecDepth 100000 in
set_option maxHeartbeats 4000000 in
theorem sX10_goDays_23 {G : Gx} {a : HW} (C : Cx G cX10_goDays RX10 4 5 114) (E : Rx G ρW a (none)) : ∀ (n : Nat) (w : HW) (x1 : Int32), Sm G a 23 [(0, .ref (hB G + 79)), (1, .int x1)] [] w (fX10_goDays_23 n w x1) := by
  intro n
  induction n with
  | zero => intro _ _; exact sm_none
  | succ n ih =>
    intro w x1
    rw [fX10_goDays_23]
    refine sm_iload_n C 1 rfl dX10_goDays_23 rfl ?_
    refine sm_aload_n C 0 rfl dX10_goDays_24 rfl ?_
    refine sm_getR C fo_10_1 rfl wd297 kd_79 dX10_goDays_25 (rv_79_1 w) (by decide) ?_
    refine sm_iconst C ic_0 dX10_goDays_28 ?_
    refine sm_iald C kd_80 dX10_goDays_29 (fun h_4 => ?_)
    refine sm_icmp_ge C dX10_goDays_30 (tgt := 153) rfl (fun h_5 => ?_) (fun h_5 => ?_)
    · refine sm_aload_n C 0 rfl dX10_goDays_33 rfl ?_
      refine sm_getR C fo_10_16 rfl wd346 kd_79 dX10_goDays_34 (rv_79_16 w) (by decide) ?_
      refine sm_iload_n C 1 rfl dX10_goDays_37 rfl ?_
      refine sm_iload_n C 1 rfl dX10_goDays_38 rfl ?_
      refine sm_if_ne C dX10_goDays_39 (tgt := 51) rfl (fun h_6 => ?_) (fun h_6 => ?_)
      · refine sm_aload_n C 0 rfl dX10_goDays_42 rfl ?_
        refine sm_getR C fo_10_1 rfl wd297 kd_79 dX10_goDays_43 (rv_79_1 w) (by decide) ?_
        refine sm_iconst C ic_1 dX10_goDays_46 ?_
        refine sm_iald C kd_80 dX10_goDays_47 (fun h_7 => ?_)
        refine sm_goto C dX10_goDays_48 (tgt := 77) rfl ?_
        exact sX10_goDays_77 C E w x1 (gI w 80 (ix 1)) x1 (fun w x1 => ih w x1)
      · refine sm_aload_n C 0 rfl dX10_goDays_51 rfl ?_
        refine sm_getR C fo_10_15 rfl wd344 kd_79 dX10_goDays_52 (rv_79_15 w) (by decide) ?_
        refine sm_iload_n C 1 rfl dX10_goDays_55 rfl ?_
        refine sm_iconst C ic_1 dX10_goDays_56 ?_
        refine sm_isub C dX10_goDays_57 ?_
        refine sm_iald C kd_86 dX10_goDays_58 (fun h_8 => ?_)
        refine sm_iconst C ic_m1 dX10_goDays_59 ?_
        refine sm_icmp_eq C dX10_goDays_60 (tgt := 67) rfl (fun h_9 => ?_) (fun h_9 => ?_)
        · refine sm_iconst C ic_1 dX10_goDays_63 ?_
          refine sm_goto C dX10_goDays_64 (tgt := 77) rfl ?_
          exact sX10_goDays_77 C E w x1 1 x1 (fun w x1 => ih w x1)
        · refine sm_aload_n C 0 rfl dX10_goDays_67 rfl ?_
          refine sm_getR C fo_10_16 rfl wd346 kd_79 dX10_goDays_68 (rv_79_16 w) (by decide) ?_
          refine sm_iload_n C 1 rfl dX10_goDays_71 rfl ?_
          refine sm_iconst C ic_1 dX10_goDays_72 ?_
          refine sm_isub C dX10_goDays_73 ?_
          refine sm_iald C kd_87 dX10_goDays_74 (fun h_10 => ?_)
          refine sm_iconst C ic_1 dX10_goDays_75 ?_
          refine sm_iadd C dX10_goDays_76 ?_
          exact sX10_goDays_77 C E w x1 ((gI w 87 (ix (x1 - 1))) + 1) x1 (fun w x1 => ih w x1)
    · exact sm_vret C E rfl dX10_goDays_153
set_option maxRecDepth 100000 in
set_option maxHeartbeats 4000000 in
theorem sX10_goDays_2 {G : Gx} {a : HW} (C : Cx G cX10_goDays RX10 4 5 114) (E : Rx G ρW a (none)) : ∀ (n : Nat) (w : HW) (x1 : Int32), Sm G a 2 [(0, .ref (hB G + 79)), (1, .int x1)] [] w (fX10_goDays_2 n w x1) := by
  intro n
  induction n with
  | zero => intro _ _; exact sm_none
  | succ n ih =>
    intro w x1
    rw [fX10_goDays_2]
    refine sm_iload_n C 1 rfl dX10_goDays_2 rfl ?_
    refine sm_bipush C bp_8 dX10_goDays_3 ?_
    refine sm_icmp_ge C dX10_goDays_5 (tgt := 21) rfl (fun h_1 => ?_) (fun h_1 => ?_)
    · refine sm_aload_n C 0 rfl dX10_goDays_8 rfl ?_
      refine sm_getR C fo_10_18 rfl wd347 kd_79 dX10_goDays_9 (rv_79_18 w) (by decide) ?_
      refine sm_iload_n C 1 rfl dX10_goDays_12 rfl ?_
      refine sm_iconst C ic_m1 dX10_goDays_13 ?_
      refine sm_iast C kd_89 dX10_goDays_14 (fun h_2 w_3 => ?_)
      refine sm_iinc (lv1 := [(1, .int (x1 + 1)), (0, .ref (hB G + 79))]) C 1 rfl (iv_1 _) dX10_goDays_15 rfl rfl ?_
      refine sm_goto C dX10_goDays_18 (tgt := 2) rfl ?_
      refine sm_sub [1, 0] rfl ?_
      exact ih w_3 (x1 + 1)
    · refine sm_iconst C ic_0 dX10_goDays_21 ?_
      refine sm_istore_n (lv1 := [(1, .int 0), (0, .ref (hB G + 79))]) C dX10_goDays_22 rfl rfl rfl ?_
      refine sm_sub [1, 0] rfl ?_
      exact sX10_goDays_23 C E FU w 0
set_option maxRecDepth 100000 in
set_option maxHeartbeats 4000000 in
theorem mX10_goDays {b : Bx} {w : HW} {a : HW} (h : fX10_goDays w = some a) : Mt b yX10_goDays cX10_goDays 4 (none) 5 114 [.ref (bB b + 79)] w none a := by
  refine Mt.of ρW h (by decide) (Nat.le_of_ble_eq_true rfl) (fun G hG C E => ?_)
  subst hG
  have C : Cx G cX10_goDays RX10 4 5 114 := C
  change Sm G a 0 [(0, .ref (hB G + 79))] [] w _
  unfold fX10_goDays
  refine sm_iconst C ic_0 dX10_goDays_0 ?_
  refine sm_istore_n (lv1 := [(1, .int 0), (0, .ref (hB G + 79))]) C dX10_goDays_1 rfl rfl rfl ?_
  refine sm_sub [1, 0] rfl ?_
  exact sX10_goDays_2 C E FU w 0
/-! X10_asksCamp -/
set_option maxRecDepth 100000 in
set_option maxHeartbeats 4000000 in
theorem mX10_asksCamp {b : Bx} {w : HW} {a : Int32 × HW} (h : fX10_asksCamp w = some a) : Mt b yX10_asksCamp cX10_asksCamp 1 (some .boolean) 6 137 [.ref (bB b + 79)] w (some (.int a.1)) a.2 := by
  refine Mt.of ρIW h (by decide) (Nat.le_of_ble_eq_true rfl) (fun G hG C E => ?_)
  subst hG
  have C : Cx G cX10_asksCamp RX10 1 6 137 := C
  change Sm G a 0 [(0, .ref (hB G + 79))] [] w _
  unfold fX10_asksCamp
  refine sm_aload_n C 0 rfl dX10_asksCamp_0 rfl ?_
  refine sm_cVW (As := []) C cfX10_layAsked wd360 kd_79 rfl rfl rfl rfl rfl dX10_asksCamp_1 (fun r h => mX10_layAsked  h) (fun w_2 => ?_)
  refine sm_aload_n C 0 rfl dX10_asksCamp_4 rfl ?_
  refine sm_cVW (As := []) C cfX10_goDays wd361 kd_79 rfl rfl rfl rfl rfl dX10_asksCamp_5 (fun r h => mX10_goDays  h) (fun w_4 => ?_)
  refine sm_aload_n C 0 rfl dX10_asksCamp_8 rfl ?_
  refine sm_cVI (As := []) C cfX10_isCamp wd299 kd_79 rfl rfl rfl rfl rfl dX10_asksCamp_9 (fun r h => mX10_isCamp  h) (fun r_5 => ?_)
  refine sm_chk (fun h_7 => ?_)
  exact sm_zret C E rfl (zB_nar h_7) dX10_asksCamp_12
/-! X10_asksDay -/
set_option maxRecDepth 100000 in
set_option maxHeartbeats 4000000 in
theorem mX10_asksDay {b : Bx} {w : HW} {x1 : Int32} {a : Int32 × HW} (h : fX10_asksDay w x1 = some a) : Mt b yX10_asksDay cX10_asksDay 2 (some .boolean) 7 157 [.ref (bB b + 79), .int x1] w (some (.int a.1)) a.2 := by
  refine Mt.of ρIW h (by decide) (Nat.le_of_ble_eq_true rfl) (fun G hG C E => ?_)
  subst hG
  have C : Cx G cX10_asksDay RX10 2 7 157 := C
  change Sm G a 0 [(0, .ref (hB G + 79)), (1, .int x1)] [] w _
  unfold fX10_asksDay
  refine sm_aload_n C 0 rfl dX10_asksDay_0 rfl ?_
  refine sm_cVIW (As := []) C cfX10_asksCamp wd362 kd_79 rfl rfl rfl rfl rfl dX10_asksDay_1 (fun r h => mX10_asksCamp  h) (fun r_1 w_2 => ?_)
  refine sm_pop C rfl dX10_asksDay_4 ?_
  refine sm_aload_n C 0 rfl dX10_asksDay_5 rfl ?_
  refine sm_iload_n C 1 rfl dX10_asksDay_6 rfl ?_
  refine sm_i2l C dX10_asksDay_7 ?_
  refine sm_cVI (As := [.long (x1.toInt64)]) C cfX10_isDay wd343 kd_79 rfl rfl rfl rfl rfl dX10_asksDay_8 (fun r h => mX10_isDay  h) (fun r_3 => ?_)
  refine sm_chk (fun h_5 => ?_)
  exact sm_zret C E rfl (zB_nar h_5) dX10_asksDay_11
/-! X10_asksBill -/
set_option maxRecDepth 100000 in
set_option maxHeartbeats 4000000 in
theorem mX10_asksBill {b : Bx} {w : HW} {x1 : Int32} {a : Int32 × HW} (h : fX10_asksBill w x1 = some a) : Mt b yX10_asksBill cX10_asksBill 2 (some .boolean) 7 157 [.ref (bB b + 79), .int x1] w (some (.int a.1)) a.2 := by
  refine Mt.of ρIW h (by decide) (Nat.le_of_ble_eq_true rfl) (fun G hG C E => ?_)
  subst hG
  have C : Cx G cX10_asksBill RX10 2 7 157 := C
  change Sm G a 0 [(0, .ref (hB G + 79)), (1, .int x1)] [] w _
  unfold fX10_asksBill
  refine sm_aload_n C 0 rfl dX10_asksBill_0 rfl ?_
  refine sm_cVIW (As := []) C cfX10_asksCamp wd362 kd_79 rfl rfl rfl rfl rfl dX10_asksBill_1 (fun r h => mX10_asksCamp  h) (fun r_1 w_2 => ?_)
  refine sm_pop C rfl dX10_asksBill_4 ?_
  refine sm_aload_n C 0 rfl dX10_asksBill_5 rfl ?_
  refine sm_iload_n C 1 rfl dX10_asksBill_6 rfl ?_
  refine sm_cVI (As := [.int x1]) C cfX10_isBill wd335 kd_79 rfl rfl rfl rfl rfl dX10_asksBill_7 (fun r h => mX10_isBill  h) (fun r_3 => ?_)
  refine sm_chk (fun h_5 => ?_)
  exact sm_zret C E rfl (zB_nar h_5) dX10_asksBill_10
/-! X10_hunger -/
set_option maxRecDepth 100000 in
set_option maxHeartbeats 4000000 in
theorem mX10_hunger {b : Bx} {w : HW} {x1 : Int32} {a : Int32 × HW} (h : fX10_hunger w x1 = some a) : Mt b yX10_hunger cX10_hunger 2 (some .int) 8 178 [.ref (bB b + 79), .int x1] w (some (.int a.1)) a.2 := by
  refine Mt.of ρIW h (by decide) (Nat.le_of_ble_eq_true rfl) (fun G hG C E => ?_)
  subst hG
  have C : Cx G cX10_hunger RX10 2 8 178 := C
  change Sm G a 0 [(0, .ref (hB G + 79)), (1, .int x1)] [] w _
  unfold fX10_hunger
  refine sm_aload_n C 0 rfl dX10_hunger_0 rfl ?_
  refine sm_iload_n C 1 rfl dX10_hunger_1 rfl ?_
  refine sm_cVIW (As := [.int x1]) C cfX10_asksDay wd363 kd_79 rfl rfl rfl rfl rfl dX10_hunger_2 (fun r h => mX10_asksDay  h) (fun r_1 w_2 => ?_)
  refine sm_if_eq C dX10_hunger_5 (tgt := 17) rfl (fun h_3 => ?_) (fun h_3 => ?_)
  · refine sm_aload_n C 0 rfl dX10_hunger_8 rfl ?_
    refine sm_getR C fo_10_16 rfl wd346 kd_79 dX10_hunger_9 (rv_79_16 w_2) (by decide) ?_
    refine sm_iload_n C 1 rfl dX10_hunger_12 rfl ?_
    refine sm_iald C kd_87 dX10_hunger_13 (fun h_4 => ?_)
    refine sm_goto C dX10_hunger_14 (tgt := 19) rfl ?_
    exact sm_iret C E rfl dX10_hunger_19
  · refine sm_bipush C bp_m2 dX10_hunger_17 ?_
    exact sm_iret C E rfl dX10_hunger_19
/-! X10_eat -/
set_option maxRecDepth 100000 in
set_option maxHeartbeats 4000000 in
theorem sX10_eat_14 {G : Gx} {a : Int32 × HW} (C : Cx G cX10_eat RX10 3 7 157) (E : Rx G ρIW a (some .int)) : ∀ (n : Nat) (w : HW) (x1 : Int32) (x2 : Int32), Sm G a 14 [(0, .ref (hB G + 79)), (1, .int x1), (2, .int x2)] [] w (fX10_eat_14 n w x1 x2) := by
  intro n
  induction n with
  | zero => intro _ _ _; exact sm_none
  | succ n ih =>
    intro w x1 x2
    rw [fX10_eat_14]
    refine sm_iload_n C 2 rfl dX10_eat_14 rfl ?_
    refine sm_aload_n C 0 rfl dX10_eat_15 rfl ?_
    refine sm_getR C fo_10_1 rfl wd297 kd_79 dX10_eat_16 (rv_79_1 w) (by decide) ?_
    refine sm_iconst C ic_0 dX10_eat_19 ?_
    refine sm_iald C kd_80 dX10_eat_20 (fun h_4 => ?_)
    refine sm_icmp_ge C dX10_eat_21 (tgt := 48) rfl (fun h_5 => ?_) (fun h_5 => ?_)
    · refine sm_iload_n C 1 rfl dX10_eat_24 rfl ?_
      refine sm_aload_n C 0 rfl dX10_eat_25 rfl ?_
      refine sm_iload_n C 2 rfl dX10_eat_26 rfl ?_
      refine sm_cVI (As := [.int x2]) C cfX10_doEat wd357 kd_79 rfl rfl rfl rfl rfl dX10_eat_27 (fun r h => mX10_doEat  h) (fun r_6 => ?_)
      refine sm_if_eq C dX10_eat_30 (tgt := 39) rfl (fun h_8 => ?_) (fun h_8 => ?_)
      · refine sm_iconst C ic_1 dX10_eat_33 ?_
        refine sm_iload_n C 2 rfl dX10_eat_34 rfl ?_
        refine sm_ishl C dX10_eat_35 ?_
        refine sm_goto C dX10_eat_36 (tgt := 40) rfl ?_
        refine sm_ior C dX10_eat_40 ?_
        refine sm_let (fun x1_9 => ?_)
        refine sm_istore_n (lv1 := [(1, .int x1_9), (0, .ref (hB G + 79)), (2, .int x2)]) C dX10_eat_41 rfl rfl rfl ?_
        refine sm_iinc (lv1 := [(2, .int (x2 + 1)), (1, .int x1_9), (0, .ref (hB G + 79))]) C 2 rfl (iv_1 _) dX10_eat_42 rfl rfl ?_
        refine sm_goto C dX10_eat_45 (tgt := 14) rfl ?_
        refine sm_sub [2, 1, 0] rfl ?_
        exact ih w x1_9 (x2 + 1)
      · refine sm_iconst C ic_0 dX10_eat_39 ?_
        refine sm_ior C dX10_eat_40 ?_
        refine sm_let (fun x1_10 => ?_)
        refine sm_istore_n (lv1 := [(1, .int x1_10), (0, .ref (hB G + 79)), (2, .int x2)]) C dX10_eat_41 rfl rfl rfl ?_
        refine sm_iinc (lv1 := [(2, .int (x2 + 1)), (1, .int x1_10), (0, .ref (hB G + 79))]) C 2 rfl (iv_1 _) dX10_eat_42 rfl rfl ?_
        refine sm_goto C dX10_eat_45 (tgt := 14) rfl ?_
        refine sm_sub [2, 1, 0] rfl ?_
        exact ih w x1_10 (x2 + 1)
    · refine sm_iload_n C 1 rfl dX10_eat_48 rfl ?_
      exact sm_iret C E rfl dX10_eat_49
set_option maxRecDepth 100000 in
set_option maxHeartbeats 4000000 in
theorem mX10_eat {b : Bx} {w : HW} {a : Int32 × HW} (h : fX10_eat w = some a) : Mt b yX10_eat cX10_eat 3 (some .int) 7 157 [.ref (bB b + 79)] w (some (.int a.1)) a.2 := by
  refine Mt.of ρIW h (by decide) (Nat.le_of_ble_eq_true rfl) (fun G hG C E => ?_)
  subst hG
  have C : Cx G cX10_eat RX10 3 7 157 := C
  change Sm G a 0 [(0, .ref (hB G + 79))] [] w _
  unfold fX10_eat
  refine sm_aload_n C 0 rfl dX10_eat_0 rfl ?_
  refine sm_cVIW (As := []) C cfX10_asksCamp wd362 kd_79 rfl rfl rfl rfl rfl dX10_eat_1 (fun r h => mX10_asksCamp  h) (fun r_1 w_2 => ?_)
  refine sm_if_ne C dX10_eat_4 (tgt := 10) rfl (fun h_3 => ?_) (fun h_3 => ?_)
  · refine sm_bipush C bp_m2 dX10_eat_7 ?_
    exact sm_iret C E rfl dX10_eat_9
  · refine sm_iconst C ic_0 dX10_eat_10 ?_
    refine sm_istore_n (lv1 := [(1, .int 0), (0, .ref (hB G + 79))]) C dX10_eat_11 rfl rfl rfl ?_
    refine sm_iconst C ic_0 dX10_eat_12 ?_
    refine sm_istore_n (lv1 := [(2, .int 0), (1, .int 0), (0, .ref (hB G + 79))]) C dX10_eat_13 rfl rfl rfl ?_
    refine sm_sub [2, 1, 0] rfl ?_
    exact sX10_eat_14 C E FU w_2 0 0
/-! X10_open -/
set_option maxRecDepth 100000 in
set_option maxHeartbeats 4000000 in
theorem sX10_open_84 {G : Gx} {a : Int32 × HW} (C : Cx G cX10_open RX10 6 7 157) (E : Rx G ρIW a (some .int)) {K13 : HW → Int32 → Int32 → Option (Int32 × HW)} {K21 : HW → Int32 → Int32 → Option (Int32 × HW)} (w : HW) (x1 : Int32) (x2 : Int32) (x3 : Int32) (x4 : Int32) (s0 : Int32) (hK13 : ∀ (w' : HW) (x2' : Int32) (x3' : Int32), Sm G a 22 [(0, .ref (hB G + 79)), (1, .int x1), (2, .int (x2')), (3, .int (x3'))] [] w' (K13 w' x2' x3')) (hK21 : ∀ (w' : HW) (x2' : Int32) (x4' : Int32), Sm G a 35 [(0, .ref (hB G + 79)), (1, .int x1), (2, .int (x2')), (3, .int x3), (4, .int (x4'))] [] w' (K21 w' x2' x4')) : Sm G a 84 [(0, .ref (hB G + 79)), (1, .int x1), (2, .int x2), (3, .int x3), (4, .int x4)] [.int s0] w (fX10_open_84 w K13 K21 x1 x2 x3 x4 s0) := by
  unfold fX10_open_84
  refine sm_istore (lv1 := [(5, .int s0), (0, .ref (hB G + 79)), (1, .int x1), (2, .int x2), (3, .int x3), (4, .int x4)]) C dX10_open_84 rfl rfl ?_
  refine sm_iload_n C 3 rfl dX10_open_86 rfl ?_
  refine sm_iload C 0 rfl dX10_open_87 ?_
  refine sm_if_eq C dX10_open_89 (tgt := 113) rfl (fun h_18 => ?_) (fun h_18 => ?_)
  · refine sm_aload_n C 1 rfl dX10_open_92 rfl ?_
    refine sm_iload C 5 rfl dX10_open_93 ?_
    refine sm_iload_n C 4 rfl dX10_open_95 rfl ?_
    refine sm_aload_n C 1 rfl dX10_open_96 rfl ?_
    refine sm_iload_n C 4 rfl dX10_open_97 rfl ?_
    refine sm_cVI (As := [.int x3]) C cfX10_doEat wd357 kd_79 rfl rfl rfl rfl rfl dX10_open_98 (fun r h => mX10_doEat  h) (fun r_19 => ?_)
    refine sm_cVI (As := [.int x4, .int x3, .int r_19]) C cfX10_whyOn wd359 kd_79 rfl rfl rfl rfl rfl dX10_open_101 (fun r h => mX10_whyOn  h) (fun r_21 => ?_)
    refine sm_if_ne C dX10_open_104 (tgt := 113) rfl (fun h_23 => ?_) (fun h_23 => ?_)
    · refine sm_iconst C ic_1 dX10_open_107 ?_
      refine sm_iload_n C 4 rfl dX10_open_108 rfl ?_
      refine sm_ishl C dX10_open_109 ?_
      refine sm_goto C dX10_open_110 (tgt := 114) rfl ?_
      refine sm_ior C dX10_open_114 ?_
      refine sm_let (fun x2_24 => ?_)
      refine sm_istore_n (lv1 := [(2, .int x2_24), (5, .int s0), (0, .ref (hB G + 79)), (1, .int x1), (3, .int x3), (4, .int x4)]) C dX10_open_115 rfl rfl rfl ?_
      refine sm_iinc (lv1 := [(4, .int (x4 + 1)), (2, .int x2_24), (5, .int s0), (0, .ref (hB G + 79)), (1, .int x1), (3, .int x3)]) C 5 rfl (iv_1 _) dX10_open_116 rfl rfl ?_
      refine sm_goto C dX10_open_119 (tgt := 35) rfl ?_
      refine sm_sub [3, 4, 1, 5, 0] rfl ?_
      exact hK21 w x2_24 (x4 + 1)
    · refine sm_iconst C ic_0 dX10_open_113 ?_
      refine sm_ior C dX10_open_114 ?_
      refine sm_let (fun x2_25 => ?_)
      refine sm_istore_n (lv1 := [(2, .int x2_25), (5, .int s0), (0, .ref (hB G + 79)), (1, .int x1), (3, .int x3), (4, .int x4)]) C dX10_open_115 rfl rfl rfl ?_
      refine sm_iinc (lv1 := [(4, .int (x4 + 1)), (2, .int x2_25), (5, .int s0), (0, .ref (hB G + 79)), (1, .int x1), (3, .int x3)]) C 5 rfl (iv_1 _) dX10_open_116 rfl rfl ?_
      refine sm_goto C dX10_open_119 (tgt := 35) rfl ?_
      refine sm_sub [3, 4, 1, 5, 0] rfl ?_
      exact hK21 w x2_25 (x4 + 1)
  · refine sm_iconst C ic_0 dX10_open_113 ?_
    refine sm_ior C dX10_open_114 ?_
    refine sm_let (fun x2_26 => ?_)
    refine sm_istore_n (lv1 := [(2, .int x2_26), (5, .int s0), (0, .ref (hB G + 79)), (1, .int x1), (3, .int x3), (4, .int x4)]) C dX10_open_115 rfl rfl rfl ?_
    refine sm_iinc (lv1 := [(4, .int (x4 + 1)), (2, .int x2_26), (5, .int s0), (0, .ref (hB G + 79)), (1, .int x1), (3, .int x3)]) C 5 rfl (iv_1 _) dX10_open_116 rfl rfl ?_
    refine sm_goto C dX10_open_119 (tgt := 35) rfl ?_
    refine sm_sub [3, 4, 1, 5, 0] rfl ?_
    exact hK21 w x2_26 (x4 + 1)
set_option maxRecDepth 100000 in
set_option maxHeartbeats 4000000 in
theorem sX10_open_35 {G : Gx} {a : Int32 × HW} (C : Cx G cX10_open RX10 6 7 157) (E : Rx G ρIW a (some .int)) {K13 : HW → Int32 → Int32 → Option (Int32 × HW)} {x1 : Int32} {x3 : Int32} (hK13 : ∀ (w' : HW) (x2' : Int32) (x3' : Int32), Sm G a 22 [(0, .ref (hB G + 79)), (1, .int x1), (2, .int (x2')), (3, .int (x3'))] [] w' (K13 w' x2' x3')) : ∀ (n : Nat) (w : HW) (x2 : Int32) (x4 : Int32), Sm G a 35 [(0, .ref (hB G + 79)), (1, .int x1), (2, .int x2), (3, .int x3), (4, .int x4)] [] w (fX10_open_35 K13 x1 x3 n w x2 x4) := by
  intro n
  induction n with
  | zero => intro _ _ _; exact sm_none
  | succ n ih =>
    intro w x2 x4
    rw [fX10_open_35]
    refine sm_iload C 4 rfl dX10_open_35 ?_
    refine sm_aload_n C 0 rfl dX10_open_37 rfl ?_
    refine sm_getR C fo_10_1 rfl wd297 kd_79 dX10_open_38 (rv_79_1 w) (by decide) ?_
    refine sm_iconst C ic_5 dX10_open_41 ?_
    refine sm_iald C kd_80 dX10_open_42 (fun h_9 => ?_)
    refine sm_icmp_ge C dX10_open_43 (tgt := 122) rfl (fun h_10 => ?_) (fun h_10 => ?_)
    · refine sm_aload_n C 0 rfl dX10_open_46 rfl ?_
      refine sm_iload C 4 rfl dX10_open_47 ?_
      refine sm_iconst C ic_0 dX10_open_49 ?_
      refine sm_cVI (As := [.int x4, .int 0]) C cfX10_of wd336 kd_79 rfl rfl rfl rfl rfl dX10_open_50 (fun r h => mX10_of  h) (fun r_11 => ?_)
      refine sm_iload_n C 1 rfl dX10_open_53 rfl ?_
      refine sm_icmp_ne C dX10_open_54 (tgt := 83) rfl (fun h_13 => ?_) (fun h_13 => ?_)
      · refine sm_aload_n C 0 rfl dX10_open_57 rfl ?_
        refine sm_getR C fo_10_19 rfl wd345 kd_79 dX10_open_58 (rv_79_19 w) (by decide) ?_
        refine sm_iload C 4 rfl dX10_open_61 ?_
        refine sm_iald C kd_90 dX10_open_63 (fun h_14 => ?_)
        refine sm_iconst C ic_m1 dX10_open_64 ?_
        refine sm_icmp_eq C dX10_open_65 (tgt := 79) rfl (fun h_15 => ?_) (fun h_15 => ?_)
        · refine sm_aload_n C 0 rfl dX10_open_68 rfl ?_
          refine sm_getR C fo_10_19 rfl wd345 kd_79 dX10_open_69 (rv_79_19 w) (by decide) ?_
          refine sm_iload C 4 rfl dX10_open_72 ?_
          refine sm_iald C kd_90 dX10_open_74 (fun h_16 => ?_)
          refine sm_iload_n C 3 rfl dX10_open_75 rfl ?_
          refine sm_icmp_ne C dX10_open_76 (tgt := 83) rfl (fun h_17 => ?_) (fun h_17 => ?_)
          · refine sm_iconst C ic_1 dX10_open_79 ?_
            refine sm_goto C dX10_open_80 (tgt := 84) rfl ?_
            exact sX10_open_84 C E w x1 x2 x3 x4 1 hK13 (fun w x2 x4 => ih w x2 x4)
          · refine sm_iconst C ic_0 dX10_open_83 ?_
            exact sX10_open_84 C E w x1 x2 x3 x4 0 hK13 (fun w x2 x4 => ih w x2 x4)
        · refine sm_iconst C ic_1 dX10_open_79 ?_
          refine sm_goto C dX10_open_80 (tgt := 84) rfl ?_
          exact sX10_open_84 C E w x1 x2 x3 x4 1 hK13 (fun w x2 x4 => ih w x2 x4)
      · refine sm_iconst C ic_0 dX10_open_83 ?_
        exact sX10_open_84 C E w x1 x2 x3 x4 0 hK13 (fun w x2 x4 => ih w x2 x4)
    · refine sm_iinc (lv1 := [(3, .int (x3 + 1)), (0, .ref (hB G + 79)), (1, .int x1), (2, .int x2), (4, .int x4)]) C 3 rfl (iv_1 _) dX10_open_122 rfl rfl ?_
      refine sm_goto C dX10_open_125 (tgt := 22) rfl ?_
      refine sm_sub [1, 2, 3, 0] rfl ?_
      exact hK13 w x2 (x3 + 1)
set_option maxRecDepth 100000 in
set_option maxHeartbeats 4000000 in
theorem sX10_open_22 {G : Gx} {a : Int32 × HW} (C : Cx G cX10_open RX10 6 7 157) (E : Rx G ρIW a (some .int)) {x1 : Int32} : ∀ (n : Nat) (w : HW) (x2 : Int32) (x3 : Int32), Sm G a 22 [(0, .ref (hB G + 79)), (1, .int x1), (2, .int x2), (3, .int x3)] [] w (fX10_open_22 x1 n w x2 x3) := by
  intro n
  induction n with
  | zero => intro _ _ _; exact sm_none
  | succ n ih =>
    intro w x2 x3
    rw [fX10_open_22]
    refine sm_iload_n C 3 rfl dX10_open_22 rfl ?_
    refine sm_aload_n C 0 rfl dX10_open_23 rfl ?_
    refine sm_getR C fo_10_1 rfl wd297 kd_79 dX10_open_24 (rv_79_1 w) (by decide) ?_
    refine sm_iconst C ic_0 dX10_open_27 ?_
    refine sm_iald C kd_80 dX10_open_28 (fun h_7 => ?_)
    refine sm_icmp_ge C dX10_open_29 (tgt := 128) rfl (fun h_8 => ?_) (fun h_8 => ?_)
    · refine sm_iconst C ic_0 dX10_open_32 ?_
      refine sm_istore (lv1 := [(4, .int 0), (0, .ref (hB G + 79)), (1, .int x1), (2, .int x2), (3, .int x3)]) C dX10_open_33 rfl rfl ?_
      refine sm_sub [1, 2, 3, 4, 0] rfl ?_
      exact sX10_open_35 C E (fun w x2 x3 => ih w x2 x3) FU w x2 0
    · refine sm_iload_n C 2 rfl dX10_open_128 rfl ?_
      exact sm_iret C E rfl dX10_open_129
set_option maxRecDepth 100000 in
set_option maxHeartbeats 4000000 in
theorem mX10_open {b : Bx} {w : HW} {x1 : Int32} {a : Int32 × HW} (h : fX10_open w x1 = some a) : Mt b yX10_open cX10_open 6 (some .int) 7 157 [.ref (bB b + 79), .int x1] w (some (.int a.1)) a.2 := by
  refine Mt.of ρIW h (by decide) (Nat.le_of_ble_eq_true rfl) (fun G hG C E => ?_)
  subst hG
  have C : Cx G cX10_open RX10 6 7 157 := C
  change Sm G a 0 [(0, .ref (hB G + 79)), (1, .int x1)] [] w _
  unfold fX10_open
  refine sm_aload_n C 0 rfl dX10_open_0 rfl ?_
  refine sm_cVIW (As := []) C cfX10_asksCamp wd362 kd_79 rfl rfl rfl rfl rfl dX10_open_1 (fun r h => mX10_asksCamp  h) (fun r_1 w_2 => ?_)
  refine sm_if_eq C dX10_open_4 (tgt := 15) rfl (fun h_3 => ?_) (fun h_3 => ?_)
  · refine sm_aload_n C 0 rfl dX10_open_7 rfl ?_
    refine sm_iload_n C 1 rfl dX10_open_8 rfl ?_
    refine sm_cVI (As := [.int x1]) C cfX10_isSide wd341 kd_79 rfl rfl rfl rfl rfl dX10_open_9 (fun r h => mX10_isSide  h) (fun r_4 => ?_)
    refine sm_if_ne C dX10_open_12 (tgt := 18) rfl (fun h_6 => ?_) (fun h_6 => ?_)
    · refine sm_bipush C bp_m2 dX10_open_15 ?_
      exact sm_iret C E rfl dX10_open_17
    · refine sm_iconst C ic_0 dX10_open_18 ?_
      refine sm_istore_n (lv1 := [(2, .int 0), (0, .ref (hB G + 79)), (1, .int x1)]) C dX10_open_19 rfl rfl rfl ?_
      refine sm_iconst C ic_0 dX10_open_20 ?_
      refine sm_istore_n (lv1 := [(3, .int 0), (2, .int 0), (0, .ref (hB G + 79)), (1, .int x1)]) C dX10_open_21 rfl rfl rfl ?_
      refine sm_sub [2, 3, 1, 0] rfl ?_
      exact sX10_open_22 C E FU w_2 0 0
  · refine sm_bipush C bp_m2 dX10_open_15 ?_
    exact sm_iret C E rfl dX10_open_17
/-! X10_best -/
set_option maxRecDepth 100000 in
set_option maxHeartbeats 4000000 in
theorem sX10_best_64 {G : Gx} {a : Int32 × HW} (C : Cx G cX10_best RX10 5 8 178) (E : Rx G ρIW a (some .int)) {K10 : HW → Int32 → Int32 → Option (Int32 × HW)} (w : HW) (x1 : Int32) (x2 : Int32) (x3 : Int32) (s0 : Int32) (hK10 : ∀ (w' : HW) (x2' : Int32) (x3' : Int32), Sm G a 15 [(0, .ref (hB G + 79)), (1, .int x1), (2, .int (x2')), (3, .int (x3'))] [] w' (K10 w' x2' x3')) : Sm G a 64 [(0, .ref (hB G + 79)), (1, .int x1), (2, .int x2), (3, .int x3)] [.int s0] w (fX10_best_64 w K10 x1 x2 x3 s0) := by
  unfold fX10_best_64
  refine sm_istore (lv1 := [(4, .int s0), (0, .ref (hB G + 79)), (1, .int x1), (2, .int x2), (3, .int x3)]) C dX10_best_64 rfl rfl ?_
  refine sm_iload C 0 rfl dX10_best_66 ?_
  refine sm_if_eq C dX10_best_68 (tgt := 93) rfl (fun h_15 => ?_) (fun h_15 => ?_)
  · refine sm_iload_n C 3 rfl dX10_best_71 rfl ?_
    refine sm_iconst C ic_m1 dX10_best_72 ?_
    refine sm_icmp_eq C dX10_best_73 (tgt := 91) rfl (fun h_16 => ?_) (fun h_16 => ?_)
    · refine sm_aload_n C 1 rfl dX10_best_76 rfl ?_
      refine sm_iload_n C 4 rfl dX10_best_77 rfl ?_
      refine sm_iconst C ic_1 dX10_best_78 ?_
      refine sm_cVI (As := [.int x3, .int 1]) C cfX10_of wd336 kd_79 rfl rfl rfl rfl rfl dX10_best_79 (fun r h => mX10_of  h) (fun r_17 => ?_)
      refine sm_aload_n C 1 rfl dX10_best_82 rfl ?_
      refine sm_iload_n C 3 rfl dX10_best_83 rfl ?_
      refine sm_iconst C ic_1 dX10_best_84 ?_
      refine sm_cVI (As := [.int x2, .int 1]) C cfX10_of wd336 kd_79 rfl rfl rfl rfl rfl dX10_best_85 (fun r h => mX10_of  h) (fun r_19 => ?_)
      refine sm_icmp_le C dX10_best_88 (tgt := 93) rfl (fun h_21 => ?_) (fun h_21 => ?_)
      · refine sm_iload_n C 4 rfl dX10_best_91 rfl ?_
        refine sm_istore_n (lv1 := [(2, .int x3), (4, .int s0), (0, .ref (hB G + 79)), (1, .int x1), (3, .int x3)]) C dX10_best_92 rfl rfl rfl ?_
        refine sm_iinc (lv1 := [(3, .int (x3 + 1)), (2, .int x3), (4, .int s0), (0, .ref (hB G + 79)), (1, .int x1)]) C 4 rfl (iv_1 _) dX10_best_93 rfl rfl ?_
        refine sm_goto C dX10_best_96 (tgt := 15) rfl ?_
        refine sm_sub [3, 4, 1, 0] rfl ?_
        exact hK10 w x3 (x3 + 1)
      · refine sm_iinc (lv1 := [(3, .int (x3 + 1)), (4, .int s0), (0, .ref (hB G + 79)), (1, .int x1), (2, .int x2)]) C 4 rfl (iv_1 _) dX10_best_93 rfl rfl ?_
        refine sm_goto C dX10_best_96 (tgt := 15) rfl ?_
        refine sm_sub [2, 3, 4, 0] rfl ?_
        exact hK10 w x2 (x3 + 1)
    · refine sm_iload_n C 4 rfl dX10_best_91 rfl ?_
      refine sm_istore_n (lv1 := [(2, .int x3), (4, .int s0), (0, .ref (hB G + 79)), (1, .int x1), (3, .int x3)]) C dX10_best_92 rfl rfl rfl ?_
      refine sm_iinc (lv1 := [(3, .int (x3 + 1)), (2, .int x3), (4, .int s0), (0, .ref (hB G + 79)), (1, .int x1)]) C 4 rfl (iv_1 _) dX10_best_93 rfl rfl ?_
      refine sm_goto C dX10_best_96 (tgt := 15) rfl ?_
      refine sm_sub [3, 4, 1, 0] rfl ?_
      exact hK10 w x3 (x3 + 1)
  · refine sm_iinc (lv1 := [(3, .int (x3 + 1)), (4, .int s0), (0, .ref (hB G + 79)), (1, .int x1), (2, .int x2)]) C 4 rfl (iv_1 _) dX10_best_93 rfl rfl ?_
    refine sm_goto C dX10_best_96 (tgt := 15) rfl ?_
    refine sm_sub [2, 3, 4, 0] rfl ?_
    exact hK10 w x2 (x3 + 1)
set_option maxRecDepth 100000 in
set_option maxHeartbeats 4000000 in
theorem sX10_best_45 {G : Gx} {a : Int32 × HW} (C : Cx G cX10_best RX10 5 8 178) (E : Rx G ρIW a (some .int)) {K10 : HW → Int32 → Int32 → Option (Int32 × HW)} (w : HW) (x1 : Int32) (x2 : Int32) (x3 : Int32) (hK10 : ∀ (w' : HW) (x2' : Int32) (x3' : Int32), Sm G a 15 [(0, .ref (hB G + 79)), (1, .int x1), (2, .int (x2')), (3, .int (x3'))] [] w' (K10 w' x2' x3')) : Sm G a 45 [(0, .ref (hB G + 79)), (1, .int x1), (2, .int x2), (3, .int x3)] [] w (fX10_best_45 w K10 x1 x2 x3) := by
  unfold fX10_best_45
  refine sm_aload_n C 0 rfl dX10_best_45 rfl ?_
  refine sm_iload_n C 3 rfl dX10_best_46 rfl ?_
  refine sm_iload_n C 1 rfl dX10_best_47 rfl ?_
  refine sm_aload_n C 0 rfl dX10_best_48 rfl ?_
  refine sm_iload_n C 1 rfl dX10_best_49 rfl ?_
  refine sm_cVI (As := [.int x1]) C cfX10_doEat wd357 kd_79 rfl rfl rfl rfl rfl dX10_best_50 (fun r h => mX10_doEat  h) (fun r_10 => ?_)
  refine sm_cVI (As := [.int x3, .int x1, .int r_10]) C cfX10_whyOn wd359 kd_79 rfl rfl rfl rfl rfl dX10_best_53 (fun r h => mX10_whyOn  h) (fun r_12 => ?_)
  refine sm_if_ne C dX10_best_56 (tgt := 63) rfl (fun h_14 => ?_) (fun h_14 => ?_)
  · refine sm_iconst C ic_1 dX10_best_59 ?_
    refine sm_goto C dX10_best_60 (tgt := 64) rfl ?_
    exact sX10_best_64 C E w x1 x2 x3 1 hK10
  · refine sm_iconst C ic_0 dX10_best_63 ?_
    exact sX10_best_64 C E w x1 x2 x3 0 hK10
set_option maxRecDepth 100000 in
set_option maxHeartbeats 4000000 in
theorem sX10_best_15 {G : Gx} {a : Int32 × HW} (C : Cx G cX10_best RX10 5 8 178) (E : Rx G ρIW a (some .int)) {x1 : Int32} : ∀ (n : Nat) (w : HW) (x2 : Int32) (x3 : Int32), Sm G a 15 [(0, .ref (hB G + 79)), (1, .int x1), (2, .int x2), (3, .int x3)] [] w (fX10_best_15 x1 n w x2 x3) := by
  intro n
  induction n with
  | zero => intro _ _ _; exact sm_none
  | succ n ih =>
    intro w x2 x3
    rw [fX10_best_15]
    refine sm_iload_n C 3 rfl dX10_best_15 rfl ?_
    refine sm_aload_n C 0 rfl dX10_best_16 rfl ?_
    refine sm_getR C fo_10_1 rfl wd297 kd_79 dX10_best_17 (rv_79_1 w) (by decide) ?_
    refine sm_iconst C ic_5 dX10_best_20 ?_
    refine sm_iald C kd_80 dX10_best_21 (fun h_4 => ?_)
    refine sm_icmp_ge C dX10_best_22 (tgt := 99) rfl (fun h_5 => ?_) (fun h_5 => ?_)
    · refine sm_aload_n C 0 rfl dX10_best_25 rfl ?_
      refine sm_getR C fo_10_19 rfl wd345 kd_79 dX10_best_26 (rv_79_19 w) (by decide) ?_
      refine sm_iload_n C 3 rfl dX10_best_29 rfl ?_
      refine sm_iald C kd_90 dX10_best_30 (fun h_6 => ?_)
      refine sm_iconst C ic_m1 dX10_best_31 ?_
      refine sm_icmp_eq C dX10_best_32 (tgt := 45) rfl (fun h_7 => ?_) (fun h_7 => ?_)
      · refine sm_aload_n C 0 rfl dX10_best_35 rfl ?_
        refine sm_getR C fo_10_19 rfl wd345 kd_79 dX10_best_36 (rv_79_19 w) (by decide) ?_
        refine sm_iload_n C 3 rfl dX10_best_39 rfl ?_
        refine sm_iald C kd_90 dX10_best_40 (fun h_8 => ?_)
        refine sm_iload_n C 1 rfl dX10_best_41 rfl ?_
        refine sm_icmp_ne C dX10_best_42 (tgt := 63) rfl (fun h_9 => ?_) (fun h_9 => ?_)
        · exact sX10_best_45 C E w x1 x2 x3 (fun w x2 x3 => ih w x2 x3)
        · refine sm_iconst C ic_0 dX10_best_63 ?_
          exact sX10_best_64 C E w x1 x2 x3 0 (fun w x2 x3 => ih w x2 x3)
      · exact sX10_best_45 C E w x1 x2 x3 (fun w x2 x3 => ih w x2 x3)
    · refine sm_iload_n C 2 rfl dX10_best_99 rfl ?_
      exact sm_iret C E rfl dX10_best_100
set_option maxRecDepth 100000 in
set_option maxHeartbeats 4000000 in
theorem mX10_best {b : Bx} {w : HW} {x1 : Int32} {a : Int32 × HW} (h : fX10_best w x1 = some a) : Mt b yX10_best cX10_best 5 (some .int) 8 178 [.ref (bB b + 79), .int x1] w (some (.int a.1)) a.2 := by
  refine Mt.of ρIW h (by decide) (Nat.le_of_ble_eq_true rfl) (fun G hG C E => ?_)
  subst hG
  have C : Cx G cX10_best RX10 5 8 178 := C
  change Sm G a 0 [(0, .ref (hB G + 79)), (1, .int x1)] [] w _
  unfold fX10_best
  refine sm_aload_n C 0 rfl dX10_best_0 rfl ?_
  refine sm_iload_n C 1 rfl dX10_best_1 rfl ?_
  refine sm_cVIW (As := [.int x1]) C cfX10_asksDay wd363 kd_79 rfl rfl rfl rfl rfl dX10_best_2 (fun r h => mX10_asksDay  h) (fun r_1 w_2 => ?_)
  refine sm_if_ne C dX10_best_5 (tgt := 11) rfl (fun h_3 => ?_) (fun h_3 => ?_)
  · refine sm_bipush C bp_m2 dX10_best_8 ?_
    exact sm_iret C E rfl dX10_best_10
  · refine sm_iconst C ic_m1 dX10_best_11 ?_
    refine sm_istore_n (lv1 := [(2, .int (-1)), (0, .ref (hB G + 79)), (1, .int x1)]) C dX10_best_12 rfl rfl rfl ?_
    refine sm_iconst C ic_0 dX10_best_13 ?_
    refine sm_istore_n (lv1 := [(3, .int 0), (2, .int (-1)), (0, .ref (hB G + 79)), (1, .int x1)]) C dX10_best_14 rfl rfl rfl ?_
    refine sm_sub [2, 3, 1, 0] rfl ?_
    exact sX10_best_15 C E FU w_2 (-1) 0
/-! X10_actsOf -/
set_option maxRecDepth 100000 in
set_option maxHeartbeats 4000000 in
theorem sX10_actsOf_50 {G : Gx} {a : Int32} {w : HW} (C : Cx G cX10_actsOf RX10 4 0 0) (E : Rx G (ρI w) a (some .int)) {K4 : Int32 → Int32 → Option Int32} (x1 : Int32) (x3 : Int32) (s0 : Int32) (s1 : Int32) (s2 : Int32) (hK4 : ∀ (x2' : Int32) (x3' : Int32), Sm G a 4 [(0, .ref (hB G + 79)), (1, .int x1), (2, .int (x2')), (3, .int (x3'))] [] w (K4 x2' x3')) : Sm G a 50 [(0, .ref (hB G + 79)), (1, .int x1), (3, .int x3)] [.int s0, .int s1, .int s2] w (fX10_actsOf_50 w K4 x1 x3 s0 s1 s2) := by
  unfold fX10_actsOf_50
  refine sm_icmp_ne C dX10_actsOf_50 (tgt := 59) rfl (fun h_10 => ?_) (fun h_10 => ?_)
  · refine sm_iconst C ic_1 dX10_actsOf_53 ?_
    refine sm_iload_n C 2 rfl dX10_actsOf_54 rfl ?_
    refine sm_ishl C dX10_actsOf_55 ?_
    refine sm_goto C dX10_actsOf_56 (tgt := 60) rfl ?_
    refine sm_ior C dX10_actsOf_60 ?_
    refine sm_let (fun x2_11 => ?_)
    refine sm_istore_n (lv1 := [(2, .int x2_11), (0, .ref (hB G + 79)), (1, .int x1), (3, .int x3)]) C dX10_actsOf_61 rfl rfl rfl ?_
    refine sm_iinc (lv1 := [(3, .int (x3 + 1)), (2, .int x2_11), (0, .ref (hB G + 79)), (1, .int x1)]) C 3 rfl (iv_1 _) dX10_actsOf_62 rfl rfl ?_
    refine sm_goto C dX10_actsOf_65 (tgt := 4) rfl ?_
    refine sm_sub [2, 3, 1, 0] rfl ?_
    exact hK4 x2_11 (x3 + 1)
  · refine sm_iconst C ic_0 dX10_actsOf_59 ?_
    refine sm_ior C dX10_actsOf_60 ?_
    refine sm_let (fun x2_12 => ?_)
    refine sm_istore_n (lv1 := [(2, .int x2_12), (0, .ref (hB G + 79)), (1, .int x1), (3, .int x3)]) C dX10_actsOf_61 rfl rfl rfl ?_
    refine sm_iinc (lv1 := [(3, .int (x3 + 1)), (2, .int x2_12), (0, .ref (hB G + 79)), (1, .int x1)]) C 3 rfl (iv_1 _) dX10_actsOf_62 rfl rfl ?_
    refine sm_goto C dX10_actsOf_65 (tgt := 4) rfl ?_
    refine sm_sub [2, 3, 1, 0] rfl ?_
    exact hK4 x2_12 (x3 + 1)
set_option maxRecDepth 100000 in
set_option maxHeartbeats 4000000 in
theorem sX10_actsOf_4 {G : Gx} {a : Int32} {w : HW} (C : Cx G cX10_actsOf RX10 4 0 0) (E : Rx G (ρI w) a (some .int)) {x1 : Int32} : ∀ (n : Nat) (x2 : Int32) (x3 : Int32), Sm G a 4 [(0, .ref (hB G + 79)), (1, .int x1), (2, .int x2), (3, .int x3)] [] w (fX10_actsOf_4 w x1 n x2 x3) := by
  intro n
  induction n with
  | zero => intro _ _; exact sm_none
  | succ n ih =>
    intro x2 x3
    rw [fX10_actsOf_4]
    refine sm_iload_n C 3 rfl dX10_actsOf_4 rfl ?_
    refine sm_aload_n C 0 rfl dX10_actsOf_5 rfl ?_
    refine sm_getR C fo_10_1 rfl wd297 kd_79 dX10_actsOf_6 (rv_79_1 w) (by decide) ?_
    refine sm_iconst C ic_0 dX10_actsOf_9 ?_
    refine sm_iald C kd_80 dX10_actsOf_10 (fun h_1 => ?_)
    refine sm_icmp_ge C dX10_actsOf_11 (tgt := 68) rfl (fun h_2 => ?_) (fun h_2 => ?_)
    · refine sm_iload_n C 2 rfl dX10_actsOf_14 rfl ?_
      refine sm_aload_n C 0 rfl dX10_actsOf_15 rfl ?_
      refine sm_getR C fo_10_15 rfl wd344 kd_79 dX10_actsOf_16 (rv_79_15 w) (by decide) ?_
      refine sm_iload_n C 3 rfl dX10_actsOf_19 rfl ?_
      refine sm_iald C kd_86 dX10_actsOf_20 (fun h_3 => ?_)
      refine sm_iconst C ic_m1 dX10_actsOf_21 ?_
      refine sm_icmp_eq C dX10_actsOf_22 (tgt := 59) rfl (fun h_4 => ?_) (fun h_4 => ?_)
      · refine sm_aload_n C 0 rfl dX10_actsOf_25 rfl ?_
        refine sm_getR C fo_10_15 rfl wd344 kd_79 dX10_actsOf_26 (rv_79_15 w) (by decide) ?_
        refine sm_iload_n C 3 rfl dX10_actsOf_29 rfl ?_
        refine sm_iald C kd_86 dX10_actsOf_30 (fun h_5 => ?_)
        refine sm_bipush C bp_m2 dX10_actsOf_31 ?_
        refine sm_icmp_ne C dX10_actsOf_33 (tgt := 40) rfl (fun h_6 => ?_) (fun h_6 => ?_)
        · refine sm_iconst C ic_1 dX10_actsOf_36 ?_
          refine sm_goto C dX10_actsOf_37 (tgt := 41) rfl ?_
          refine sm_iload_n C 1 rfl dX10_actsOf_41 rfl ?_
          refine sm_if_ne C dX10_actsOf_42 (tgt := 49) rfl (fun h_7 => ?_) (fun h_7 => ?_)
          · refine sm_iconst C ic_1 dX10_actsOf_45 ?_
            refine sm_goto C dX10_actsOf_46 (tgt := 50) rfl ?_
            refine sm_sub [0, 1, 3] rfl ?_
            exact sX10_actsOf_50 C E x1 x3 1 1 x2 (fun x2 x3 => ih x2 x3)
          · refine sm_iconst C ic_0 dX10_actsOf_49 ?_
            refine sm_sub [0, 1, 3] rfl ?_
            exact sX10_actsOf_50 C E x1 x3 0 1 x2 (fun x2 x3 => ih x2 x3)
        · refine sm_iconst C ic_0 dX10_actsOf_40 ?_
          refine sm_iload_n C 1 rfl dX10_actsOf_41 rfl ?_
          refine sm_if_ne C dX10_actsOf_42 (tgt := 49) rfl (fun h_8 => ?_) (fun h_8 => ?_)
          · refine sm_iconst C ic_1 dX10_actsOf_45 ?_
            refine sm_goto C dX10_actsOf_46 (tgt := 50) rfl ?_
            refine sm_sub [0, 1, 3] rfl ?_
            exact sX10_actsOf_50 C E x1 x3 1 0 x2 (fun x2 x3 => ih x2 x3)
          · refine sm_iconst C ic_0 dX10_actsOf_49 ?_
            refine sm_sub [0, 1, 3] rfl ?_
            exact sX10_actsOf_50 C E x1 x3 0 0 x2 (fun x2 x3 => ih x2 x3)
      · refine sm_iconst C ic_0 dX10_actsOf_59 ?_
        refine sm_ior C dX10_actsOf_60 ?_
        refine sm_let (fun x2_9 => ?_)
        refine sm_istore_n (lv1 := [(2, .int x2_9), (0, .ref (hB G + 79)), (1, .int x1), (3, .int x3)]) C dX10_actsOf_61 rfl rfl rfl ?_
        refine sm_iinc (lv1 := [(3, .int (x3 + 1)), (2, .int x2_9), (0, .ref (hB G + 79)), (1, .int x1)]) C 3 rfl (iv_1 _) dX10_actsOf_62 rfl rfl ?_
        refine sm_goto C dX10_actsOf_65 (tgt := 4) rfl ?_
        refine sm_sub [2, 3, 1, 0] rfl ?_
        exact ih x2_9 (x3 + 1)
    · refine sm_iload_n C 2 rfl dX10_actsOf_68 rfl ?_
      exact sm_iret C E rfl dX10_actsOf_69
set_option maxRecDepth 100000 in
set_option maxHeartbeats 4000000 in
theorem mX10_actsOf {b : Bx} {w : HW} {x1 : Int32} {a : Int32} (h : fX10_actsOf w x1 = some a) : Mt b yX10_actsOf cX10_actsOf 4 (some .int) 0 0 [.ref (bB b + 79), .int x1] w (some (.int a)) w := by
  refine Mt.of (ρI w) h (by decide) (Nat.le_of_ble_eq_true rfl) (fun G hG C E => ?_)
  subst hG
  have C : Cx G cX10_actsOf RX10 4 0 0 := C
  change Sm G a 0 [(0, .ref (hB G + 79)), (1, .int x1)] [] w _
  unfold fX10_actsOf
  refine sm_iconst C ic_0 dX10_actsOf_0 ?_
  refine sm_istore_n (lv1 := [(2, .int 0), (0, .ref (hB G + 79)), (1, .int x1)]) C dX10_actsOf_1 rfl rfl rfl ?_
  refine sm_iconst C ic_0 dX10_actsOf_2 ?_
  refine sm_istore_n (lv1 := [(3, .int 0), (2, .int 0), (0, .ref (hB G + 79)), (1, .int x1)]) C dX10_actsOf_3 rfl rfl rfl ?_
  refine sm_sub [2, 3, 1, 0] rfl ?_
  exact sX10_actsOf_4 C E FU 0 0
/-! X10_asked -/
set_option maxRecDepth 100000 in
set_option maxHeartbeats 4000000 in
theorem mX10_asked {b : Bx} {w : HW} {a : Int32 × HW} (h : fX10_asked w = some a) : Mt b yX10_asked cX10_asked 1 (some .int) 7 157 [.ref (bB b + 79)] w (some (.int a.1)) a.2 := by
  refine Mt.of ρIW h (by decide) (Nat.le_of_ble_eq_true rfl) (fun G hG C E => ?_)
  subst hG
  have C : Cx G cX10_asked RX10 1 7 157 := C
  change Sm G a 0 [(0, .ref (hB G + 79))] [] w _
  unfold fX10_asked
  refine sm_aload_n C 0 rfl dX10_asked_0 rfl ?_
  refine sm_cVIW (As := []) C cfX10_asksCamp wd362 kd_79 rfl rfl rfl rfl rfl dX10_asked_1 (fun r h => mX10_asksCamp  h) (fun r_1 w_2 => ?_)
  refine sm_if_eq C dX10_asked_4 (tgt := 15) rfl (fun h_3 => ?_) (fun h_3 => ?_)
  · refine sm_aload_n C 0 rfl dX10_asked_7 rfl ?_
    refine sm_iconst C ic_1 dX10_asked_8 ?_
    refine sm_cVI (As := [.int 1]) C cfX10_actsOf wd364 kd_79 rfl rfl rfl rfl rfl dX10_asked_9 (fun r h => mX10_actsOf  h) (fun r_4 => ?_)
    refine sm_goto C dX10_asked_12 (tgt := 17) rfl ?_
    exact sm_iret C E rfl dX10_asked_17
  · refine sm_bipush C bp_m2 dX10_asked_15 ?_
    exact sm_iret C E rfl dX10_asked_17
/-! X10_fattened -/
set_option maxRecDepth 100000 in
set_option maxHeartbeats 4000000 in
theorem mX10_fattened {b : Bx} {w : HW} {a : Int32 × HW} (h : fX10_fattened w = some a) : Mt b yX10_fattened cX10_fattened 1 (some .int) 7 157 [.ref (bB b + 79)] w (some (.int a.1)) a.2 := by
  refine Mt.of ρIW h (by decide) (Nat.le_of_ble_eq_true rfl) (fun G hG C E => ?_)
  subst hG
  have C : Cx G cX10_fattened RX10 1 7 157 := C
  change Sm G a 0 [(0, .ref (hB G + 79))] [] w _
  unfold fX10_fattened
  refine sm_aload_n C 0 rfl dX10_fattened_0 rfl ?_
  refine sm_cVIW (As := []) C cfX10_asksCamp wd362 kd_79 rfl rfl rfl rfl rfl dX10_fattened_1 (fun r h => mX10_asksCamp  h) (fun r_1 w_2 => ?_)
  refine sm_if_eq C dX10_fattened_4 (tgt := 15) rfl (fun h_3 => ?_) (fun h_3 => ?_)
  · refine sm_aload_n C 0 rfl dX10_fattened_7 rfl ?_
    refine sm_iconst C ic_0 dX10_fattened_8 ?_
    refine sm_cVI (As := [.int 0]) C cfX10_actsOf wd364 kd_79 rfl rfl rfl rfl rfl dX10_fattened_9 (fun r h => mX10_actsOf  h) (fun r_4 => ?_)
    refine sm_goto C dX10_fattened_12 (tgt := 17) rfl ?_
    exact sm_iret C E rfl dX10_fattened_17
  · refine sm_bipush C bp_m2 dX10_fattened_15 ?_
    exact sm_iret C E rfl dX10_fattened_17
/-! X10_runOf -/
set_option maxRecDepth 100000 in
set_option maxHeartbeats 4000000 in
theorem sX10_runOf_7 {G : Gx} {a : Int32} {w : HW} (C : Cx G cX10_runOf RX10 5 1 21) (E : Rx G (ρI w) a (some .int)) {x1 : Int32} : ∀ (n : Nat) (x2 : Int32) (x3 : Int32) (x4 : Int32), Sm G a 7 [(0, .ref (hB G + 79)), (1, .int x1), (2, .int x2), (3, .int x3), (4, .int x4)] [] w (fX10_runOf_7 w x1 n x2 x3 x4) := by
  intro n
  induction n with
  | zero => intro _ _ _; exact sm_none
  | succ n ih =>
    intro x2 x3 x4
    rw [fX10_runOf_7]
    refine sm_iload C 4 rfl dX10_runOf_7 ?_
    refine sm_aload_n C 0 rfl dX10_runOf_9 rfl ?_
    refine sm_getR C fo_10_1 rfl wd297 kd_79 dX10_runOf_10 (rv_79_1 w) (by decide) ?_
    refine sm_iconst C ic_0 dX10_runOf_13 ?_
    refine sm_iald C kd_80 dX10_runOf_14 (fun h_1 => ?_)
    refine sm_icmp_ge C dX10_runOf_15 (tgt := 48) rfl (fun h_2 => ?_) (fun h_2 => ?_)
    · refine sm_iload_n C 1 rfl dX10_runOf_18 rfl ?_
      refine sm_iload C 4 rfl dX10_runOf_19 ?_
      refine sm_cSI (As := [.int x1, .int x4]) C cfX10_bit wd337 rfl rfl rfl rfl dX10_runOf_21 (fun r h => mX10_bit  h) (fun r_3 => ?_)
      refine sm_iconst C ic_1 dX10_runOf_24 ?_
      refine sm_icmp_ne C dX10_runOf_25 (tgt := 34) rfl (fun h_5 => ?_) (fun h_5 => ?_)
      · refine sm_iload_n C 3 rfl dX10_runOf_28 rfl ?_
        refine sm_iconst C ic_1 dX10_runOf_29 ?_
        refine sm_iadd C dX10_runOf_30 ?_
        refine sm_goto C dX10_runOf_31 (tgt := 35) rfl ?_
        refine sm_let (fun x3_6 => ?_)
        refine sm_istore_n (lv1 := [(3, .int x3_6), (0, .ref (hB G + 79)), (1, .int x1), (2, .int x2), (4, .int x4)]) C dX10_runOf_35 rfl rfl rfl ?_
        refine sm_iload_n C 3 rfl dX10_runOf_36 rfl ?_
        refine sm_iload_n C 0 rfl dX10_runOf_37 rfl ?_
        refine sm_max C wd365 max_st math_in max_co rfl dX10_runOf_38 ?_
        refine sm_let (fun x2_7 => ?_)
        refine sm_istore_n (lv1 := [(2, .int x2_7), (3, .int x3_6), (0, .ref (hB G + 79)), (1, .int x1), (4, .int x4)]) C dX10_runOf_41 rfl rfl rfl ?_
        refine sm_iinc (lv1 := [(4, .int (x4 + 1)), (2, .int x2_7), (3, .int x3_6), (0, .ref (hB G + 79)), (1, .int x1)]) C 4 rfl (iv_1 _) dX10_runOf_42 rfl rfl ?_
        refine sm_goto C dX10_runOf_45 (tgt := 7) rfl ?_
        refine sm_sub [3, 4, 1, 2, 0] rfl ?_
        exact ih x2_7 x3_6 (x4 + 1)
      · refine sm_iconst C ic_0 dX10_runOf_34 ?_
        refine sm_istore_n (lv1 := [(3, .int 0), (0, .ref (hB G + 79)), (1, .int x1), (2, .int x2), (4, .int x4)]) C dX10_runOf_35 rfl rfl rfl ?_
        refine sm_iload_n C 3 rfl dX10_runOf_36 rfl ?_
        refine sm_iload_n C 0 rfl dX10_runOf_37 rfl ?_
        refine sm_max C wd365 max_st math_in max_co rfl dX10_runOf_38 ?_
        refine sm_let (fun x2_8 => ?_)
        refine sm_istore_n (lv1 := [(2, .int x2_8), (3, .int 0), (0, .ref (hB G + 79)), (1, .int x1), (4, .int x4)]) C dX10_runOf_41 rfl rfl rfl ?_
        refine sm_iinc (lv1 := [(4, .int (x4 + 1)), (2, .int x2_8), (3, .int 0), (0, .ref (hB G + 79)), (1, .int x1)]) C 4 rfl (iv_1 _) dX10_runOf_42 rfl rfl ?_
        refine sm_goto C dX10_runOf_45 (tgt := 7) rfl ?_
        refine sm_sub [3, 4, 1, 2, 0] rfl ?_
        exact ih x2_8 0 (x4 + 1)
    · refine sm_iload_n C 2 rfl dX10_runOf_48 rfl ?_
      exact sm_iret C E rfl dX10_runOf_49
set_option maxRecDepth 100000 in
set_option maxHeartbeats 4000000 in
theorem mX10_runOf {b : Bx} {w : HW} {x1 : Int32} {a : Int32} (h : fX10_runOf w x1 = some a) : Mt b yX10_runOf cX10_runOf 5 (some .int) 1 21 [.ref (bB b + 79), .int x1] w (some (.int a)) w := by
  refine Mt.of (ρI w) h (by decide) (Nat.le_of_ble_eq_true rfl) (fun G hG C E => ?_)
  subst hG
  have C : Cx G cX10_runOf RX10 5 1 21 := C
  change Sm G a 0 [(0, .ref (hB G + 79)), (1, .int x1)] [] w _
  unfold fX10_runOf
  refine sm_iconst C ic_0 dX10_runOf_0 ?_
  refine sm_istore_n (lv1 := [(2, .int 0), (0, .ref (hB G + 79)), (1, .int x1)]) C dX10_runOf_1 rfl rfl rfl ?_
  refine sm_iconst C ic_0 dX10_runOf_2 ?_
  refine sm_istore_n (lv1 := [(3, .int 0), (2, .int 0), (0, .ref (hB G + 79)), (1, .int x1)]) C dX10_runOf_3 rfl rfl rfl ?_
  refine sm_iconst C ic_0 dX10_runOf_4 ?_
  refine sm_istore (lv1 := [(4, .int 0), (3, .int 0), (2, .int 0), (0, .ref (hB G + 79)), (1, .int x1)]) C dX10_runOf_5 rfl rfl ?_
  refine sm_sub [3, 4, 2, 1, 0] rfl ?_
  exact sX10_runOf_7 C E FU 0 0 0
/-! X10_allDays -/
set_option maxRecDepth 100000 in
set_option maxHeartbeats 4000000 in
theorem mX10_allDays {b : Bx} {w : HW} {a : Int32} (h : fX10_allDays w = some a) : Mt b yX10_allDays cX10_allDays 1 (some .int) 0 0 [.ref (bB b + 79)] w (some (.int a)) w := by
  refine Mt.of (ρI w) h (by decide) (Nat.le_of_ble_eq_true rfl) (fun G hG C E => ?_)
  subst hG
  have C : Cx G cX10_allDays RX10 1 0 0 := C
  change Sm G a 0 [(0, .ref (hB G + 79))] [] w _
  unfold fX10_allDays
  refine sm_iconst C ic_1 dX10_allDays_0 ?_
  refine sm_aload_n C 0 rfl dX10_allDays_1 rfl ?_
  refine sm_getR C fo_10_1 rfl wd297 kd_79 dX10_allDays_2 (rv_79_1 w) (by decide) ?_
  refine sm_iconst C ic_0 dX10_allDays_5 ?_
  refine sm_iald C kd_80 dX10_allDays_6 (fun h_1 => ?_)
  refine sm_ishl C dX10_allDays_7 ?_
  refine sm_iconst C ic_1 dX10_allDays_8 ?_
  refine sm_isub C dX10_allDays_9 ?_
  exact sm_iret C E rfl dX10_allDays_10
/-! X10_fast -/
set_option maxRecDepth 100000 in
set_option maxHeartbeats 4000000 in
theorem mX10_fast {b : Bx} {w : HW} {a : Int32 × HW} (h : fX10_fast w = some a) : Mt b yX10_fast cX10_fast 1 (some .int) 7 157 [.ref (bB b + 79)] w (some (.int a.1)) a.2 := by
  refine Mt.of ρIW h (by decide) (Nat.le_of_ble_eq_true rfl) (fun G hG C E => ?_)
  subst hG
  have C : Cx G cX10_fast RX10 1 7 157 := C
  change Sm G a 0 [(0, .ref (hB G + 79))] [] w _
  unfold fX10_fast
  refine sm_aload_n C 0 rfl dX10_fast_0 rfl ?_
  refine sm_cVIW (As := []) C cfX10_asksCamp wd362 kd_79 rfl rfl rfl rfl rfl dX10_fast_1 (fun r h => mX10_asksCamp  h) (fun r_1 w_2 => ?_)
  refine sm_if_eq C dX10_fast_4 (tgt := 32) rfl (fun h_3 => ?_) (fun h_3 => ?_)
  · refine sm_aload_n C 0 rfl dX10_fast_7 rfl ?_
    refine sm_aload_n C 0 rfl dX10_fast_8 rfl ?_
    refine sm_cVI (As := []) C cfX10_allDays wd366 kd_79 rfl rfl rfl rfl rfl dX10_fast_9 (fun r h => mX10_allDays  h) (fun r_4 => ?_)
    refine sm_aload_n C 0 rfl dX10_fast_12 rfl ?_
    refine sm_iconst C ic_0 dX10_fast_13 ?_
    refine sm_cVI (As := [.int 0]) C cfX10_actsOf wd364 kd_79 rfl rfl rfl rfl rfl dX10_fast_14 (fun r h => mX10_actsOf  h) (fun r_6 => ?_)
    refine sm_aload_n C 0 rfl dX10_fast_17 rfl ?_
    refine sm_iconst C ic_1 dX10_fast_18 ?_
    refine sm_cVI (As := [.int 1]) C cfX10_actsOf wd364 kd_79 rfl rfl rfl rfl rfl dX10_fast_19 (fun r h => mX10_actsOf  h) (fun r_8 => ?_)
    refine sm_ior C dX10_fast_22 ?_
    refine sm_iconst C ic_m1 dX10_fast_23 ?_
    refine sm_ixor C dX10_fast_24 ?_
    refine sm_iand C dX10_fast_25 ?_
    refine sm_cVI (As := [.int (r_4 &&& ((r_6 ||| r_8) ^^^ (-1)))]) C cfX10_runOf wd367 kd_79 rfl rfl rfl rfl rfl dX10_fast_26 (fun r h => mX10_runOf  h) (fun r_10 => ?_)
    refine sm_goto C dX10_fast_29 (tgt := 34) rfl ?_
    exact sm_iret C E rfl dX10_fast_34
  · refine sm_bipush C bp_m2 dX10_fast_32 ?_
    exact sm_iret C E rfl dX10_fast_34
/-! X10_first -/
set_option maxRecDepth 100000 in
set_option maxHeartbeats 4000000 in
theorem sX10_first_36 {G : Gx} {a : Int32 × HW} (C : Cx G cX10_first RX10 3 8 178) (E : Rx G ρIW a (some .int)) (w : HW) (x1 : Int32) (s0 : Int32) : Sm G a 36 [(0, .ref (hB G + 79)), (1, .int x1)] [.int s0] w (fX10_first_36 w x1 s0) := by
  unfold fX10_first_36
  refine sm_istore_n (lv1 := [(2, .int s0), (0, .ref (hB G + 79)), (1, .int x1)]) C dX10_first_36 rfl rfl rfl ?_
  refine sm_iload_n C 0 rfl dX10_first_37 rfl ?_
  refine sm_if_eq C dX10_first_38 (tgt := 54) rfl (fun h_9 => ?_) (fun h_9 => ?_)
  · refine sm_iconst C ic_0 dX10_first_41 ?_
    refine sm_aload_n C 1 rfl dX10_first_42 rfl ?_
    refine sm_getR C fo_10_1 rfl wd297 kd_79 dX10_first_43 (rv_79_1 w) (by decide) ?_
    refine sm_iconst C ic_2 dX10_first_46 ?_
    refine sm_iald C kd_80 dX10_first_47 (fun h_10 => ?_)
    refine sm_iload_n C 2 rfl dX10_first_48 rfl ?_
    refine sm_isub C dX10_first_49 ?_
    refine sm_max C wd365 max_st math_in max_co rfl dX10_first_50 ?_
    exact sm_iret C E rfl dX10_first_53
  · refine sm_aload_n C 1 rfl dX10_first_54 rfl ?_
    refine sm_iload_n C 2 rfl dX10_first_55 rfl ?_
    refine sm_cVI (As := [.int x1]) C cfX10_doEat wd357 kd_79 rfl rfl rfl rfl rfl dX10_first_56 (fun r h => mX10_doEat  h) (fun r_11 => ?_)
    refine sm_if_eq C dX10_first_59 (tgt := 66) rfl (fun h_13 => ?_) (fun h_13 => ?_)
    · refine sm_iconst C ic_0 dX10_first_62 ?_
      refine sm_goto C dX10_first_63 (tgt := 67) rfl ?_
      exact sm_iret C E rfl dX10_first_67
    · refine sm_iconst C ic_m1 dX10_first_66 ?_
      exact sm_iret C E rfl dX10_first_67
set_option maxRecDepth 100000 in
set_option maxHeartbeats 4000000 in
theorem mX10_first {b : Bx} {w : HW} {x1 : Int32} {a : Int32 × HW} (h : fX10_first w x1 = some a) : Mt b yX10_first cX10_first 3 (some .int) 8 178 [.ref (bB b + 79), .int x1] w (some (.int a.1)) a.2 := by
  refine Mt.of ρIW h (by decide) (Nat.le_of_ble_eq_true rfl) (fun G hG C E => ?_)
  subst hG
  have C : Cx G cX10_first RX10 3 8 178 := C
  change Sm G a 0 [(0, .ref (hB G + 79)), (1, .int x1)] [] w _
  unfold fX10_first
  refine sm_aload_n C 0 rfl dX10_first_0 rfl ?_
  refine sm_iload_n C 1 rfl dX10_first_1 rfl ?_
  refine sm_cVIW (As := [.int x1]) C cfX10_asksDay wd363 kd_79 rfl rfl rfl rfl rfl dX10_first_2 (fun r h => mX10_asksDay  h) (fun r_1 w_2 => ?_)
  refine sm_if_ne C dX10_first_5 (tgt := 11) rfl (fun h_3 => ?_) (fun h_3 => ?_)
  · refine sm_bipush C bp_m2 dX10_first_8 ?_
    exact sm_iret C E rfl dX10_first_10
  · refine sm_aload_n C 0 rfl dX10_first_11 rfl ?_
    refine sm_iconst C ic_0 dX10_first_12 ?_
    refine sm_cVI (As := [.int 0]) C cfX10_actsOf wd364 kd_79 rfl rfl rfl rfl rfl dX10_first_13 (fun r h => mX10_actsOf  h) (fun r_4 => ?_)
    refine sm_aload_n C 0 rfl dX10_first_16 rfl ?_
    refine sm_iconst C ic_1 dX10_first_17 ?_
    refine sm_cVI (As := [.int 1]) C cfX10_actsOf wd364 kd_79 rfl rfl rfl rfl rfl dX10_first_18 (fun r h => mX10_actsOf  h) (fun r_6 => ?_)
    refine sm_ior C dX10_first_21 ?_
    refine sm_iconst C ic_1 dX10_first_22 ?_
    refine sm_iload_n C 1 rfl dX10_first_23 rfl ?_
    refine sm_ishl C dX10_first_24 ?_
    refine sm_iconst C ic_1 dX10_first_25 ?_
    refine sm_isub C dX10_first_26 ?_
    refine sm_iand C dX10_first_27 ?_
    refine sm_if_ne C dX10_first_28 (tgt := 35) rfl (fun h_8 => ?_) (fun h_8 => ?_)
    · refine sm_iconst C ic_1 dX10_first_31 ?_
      refine sm_goto C dX10_first_32 (tgt := 36) rfl ?_
      exact sX10_first_36 C E w_2 x1 1
    · refine sm_iconst C ic_0 dX10_first_35 ?_
      exact sX10_first_36 C E w_2 x1 0
/-! X10_passed -/
set_option maxRecDepth 100000 in
set_option maxHeartbeats 4000000 in
theorem mX10_passed {b : Bx} {w : HW} {x1 : Int32} {a : Int32 × HW} (h : fX10_passed w x1 = some a) : Mt b yX10_passed cX10_passed 2 (some .int) 8 178 [.ref (bB b + 79), .int x1] w (some (.int a.1)) a.2 := by
  refine Mt.of ρIW h (by decide) (Nat.le_of_ble_eq_true rfl) (fun G hG C E => ?_)
  subst hG
  have C : Cx G cX10_passed RX10 2 8 178 := C
  change Sm G a 0 [(0, .ref (hB G + 79)), (1, .int x1)] [] w _
  unfold fX10_passed
  refine sm_aload_n C 0 rfl dX10_passed_0 rfl ?_
  refine sm_iload_n C 1 rfl dX10_passed_1 rfl ?_
  refine sm_cVIW (As := [.int x1]) C cfX10_asksDay wd363 kd_79 rfl rfl rfl rfl rfl dX10_passed_2 (fun r h => mX10_asksDay  h) (fun r_1 w_2 => ?_)
  refine sm_if_eq C dX10_passed_5 (tgt := 17) rfl (fun h_3 => ?_) (fun h_3 => ?_)
  · refine sm_aload_n C 0 rfl dX10_passed_8 rfl ?_
    refine sm_getR C fo_10_17 rfl wd356 kd_79 dX10_passed_9 (rv_79_17 w_2) (by decide) ?_
    refine sm_iload_n C 1 rfl dX10_passed_12 rfl ?_
    refine sm_iald C kd_88 dX10_passed_13 (fun h_4 => ?_)
    refine sm_goto C dX10_passed_14 (tgt := 19) rfl ?_
    exact sm_iret C E rfl dX10_passed_19
  · refine sm_bipush C bp_m2 dX10_passed_17 ?_
    exact sm_iret C E rfl dX10_passed_19
/-! X10_when -/
set_option maxRecDepth 100000 in
set_option maxHeartbeats 4000000 in
theorem mX10_when {b : Bx} {w : HW} {x1 : Int32} {a : Int32 × HW} (h : fX10_when w x1 = some a) : Mt b yX10_when cX10_when 2 (some .int) 8 178 [.ref (bB b + 79), .int x1] w (some (.int a.1)) a.2 := by
  refine Mt.of ρIW h (by decide) (Nat.le_of_ble_eq_true rfl) (fun G hG C E => ?_)
  subst hG
  have C : Cx G cX10_when RX10 2 8 178 := C
  change Sm G a 0 [(0, .ref (hB G + 79)), (1, .int x1)] [] w _
  unfold fX10_when
  refine sm_aload_n C 0 rfl dX10_when_0 rfl ?_
  refine sm_iload_n C 1 rfl dX10_when_1 rfl ?_
  refine sm_cVIW (As := [.int x1]) C cfX10_asksBill wd368 kd_79 rfl rfl rfl rfl rfl dX10_when_2 (fun r h => mX10_asksBill  h) (fun r_1 w_2 => ?_)
  refine sm_if_eq C dX10_when_5 (tgt := 17) rfl (fun h_3 => ?_) (fun h_3 => ?_)
  · refine sm_aload_n C 0 rfl dX10_when_8 rfl ?_
    refine sm_getR C fo_10_18 rfl wd347 kd_79 dX10_when_9 (rv_79_18 w_2) (by decide) ?_
    refine sm_iload_n C 1 rfl dX10_when_12 rfl ?_
    refine sm_iald C kd_89 dX10_when_13 (fun h_4 => ?_)
    refine sm_goto C dX10_when_14 (tgt := 19) rfl ?_
    exact sm_iret C E rfl dX10_when_19
  · refine sm_bipush C bp_m2 dX10_when_17 ?_
    exact sm_iret C E rfl dX10_when_19
/-! X10_why -/
set_option maxRecDepth 100000 in
set_option maxHeartbeats 4000000 in
theorem mX10_why {b : Bx} {w : HW} {x1 : Int32} {a : Int32 × HW} (h : fX10_why w x1 = some a) : Mt b yX10_why cX10_why 2 (some .int) 8 178 [.ref (bB b + 79), .int x1] w (some (.int a.1)) a.2 := by
  refine Mt.of ρIW h (by decide) (Nat.le_of_ble_eq_true rfl) (fun G hG C E => ?_)
  subst hG
  have C : Cx G cX10_why RX10 2 8 178 := C
  change Sm G a 0 [(0, .ref (hB G + 79)), (1, .int x1)] [] w _
  unfold fX10_why
  refine sm_aload_n C 0 rfl dX10_why_0 rfl ?_
  refine sm_iload_n C 1 rfl dX10_why_1 rfl ?_
  refine sm_cVIW (As := [.int x1]) C cfX10_asksBill wd368 kd_79 rfl rfl rfl rfl rfl dX10_why_2 (fun r h => mX10_asksBill  h) (fun r_1 w_2 => ?_)
  refine sm_if_ne C dX10_why_5 (tgt := 11) rfl (fun h_3 => ?_) (fun h_3 => ?_)
  · refine sm_bipush C bp_m2 dX10_why_8 ?_
    exact sm_iret C E rfl dX10_why_10
  · refine sm_aload_n C 0 rfl dX10_why_11 rfl ?_
    refine sm_getR C fo_10_19 rfl wd345 kd_79 dX10_why_12 (rv_79_19 w_2) (by decide) ?_
    refine sm_iload_n C 1 rfl dX10_why_15 rfl ?_
    refine sm_iald C kd_90 dX10_why_16 (fun h_4 => ?_)
    refine sm_iconst C ic_m1 dX10_why_17 ?_
    refine sm_icmp_ne C dX10_why_18 (tgt := 25) rfl (fun h_5 => ?_) (fun h_5 => ?_)
    · refine sm_iconst C ic_m1 dX10_why_21 ?_
      refine sm_goto C dX10_why_22 (tgt := 46) rfl ?_
      exact sm_iret C E rfl dX10_why_46
    · refine sm_aload_n C 0 rfl dX10_why_25 rfl ?_
      refine sm_iload_n C 1 rfl dX10_why_26 rfl ?_
      refine sm_aload_n C 0 rfl dX10_why_27 rfl ?_
      refine sm_getR C fo_10_19 rfl wd345 kd_79 dX10_why_28 (rv_79_19 w_2) (by decide) ?_
      refine sm_iload_n C 1 rfl dX10_why_31 rfl ?_
      refine sm_iald C kd_90 dX10_why_32 (fun h_6 => ?_)
      refine sm_aload_n C 0 rfl dX10_why_33 rfl ?_
      refine sm_aload_n C 0 rfl dX10_why_34 rfl ?_
      refine sm_getR C fo_10_19 rfl wd345 kd_79 dX10_why_35 (rv_79_19 w_2) (by decide) ?_
      refine sm_iload_n C 1 rfl dX10_why_38 rfl ?_
      refine sm_iald C kd_90 dX10_why_39 (fun h_7 => ?_)
      refine sm_cVI (As := [.int (gI w_2 90 (ix x1))]) C cfX10_doEat wd357 kd_79 rfl rfl rfl rfl rfl dX10_why_40 (fun r h => mX10_doEat  h) (fun r_8 => ?_)
      refine sm_cVI (As := [.int x1, .int (gI w_2 90 (ix x1)), .int r_8]) C cfX10_whyOn wd359 kd_79 rfl rfl rfl rfl rfl dX10_why_43 (fun r h => mX10_whyOn  h) (fun r_10 => ?_)
      exact sm_iret C E rfl dX10_why_46
/-! X10_worth -/
set_option maxRecDepth 100000 in
set_option maxHeartbeats 4000000 in
theorem sX10_worth_22 {G : Gx} {a : Int32 × HW} (C : Cx G cX10_worth RX10 4 7 157) (E : Rx G ρIW a (some .int)) {x1 : Int32} : ∀ (n : Nat) (w : HW) (x2 : Int32) (x3 : Int32), Sm G a 22 [(0, .ref (hB G + 79)), (1, .int x1), (2, .int x2), (3, .int x3)] [] w (fX10_worth_22 x1 n w x2 x3) := by
  intro n
  induction n with
  | zero => intro _ _ _; exact sm_none
  | succ n ih =>
    intro w x2 x3
    rw [fX10_worth_22]
    refine sm_iload_n C 3 rfl dX10_worth_22 rfl ?_
    refine sm_aload_n C 0 rfl dX10_worth_23 rfl ?_
    refine sm_getR C fo_10_1 rfl wd297 kd_79 dX10_worth_24 (rv_79_1 w) (by decide) ?_
    refine sm_iconst C ic_5 dX10_worth_27 ?_
    refine sm_iald C kd_80 dX10_worth_28 (fun h_7 => ?_)
    refine sm_icmp_ge C dX10_worth_29 (tgt := 71) rfl (fun h_8 => ?_) (fun h_8 => ?_)
    · refine sm_iload_n C 2 rfl dX10_worth_32 rfl ?_
      refine sm_aload_n C 0 rfl dX10_worth_33 rfl ?_
      refine sm_iload_n C 3 rfl dX10_worth_34 rfl ?_
      refine sm_iconst C ic_0 dX10_worth_35 ?_
      refine sm_cVI (As := [.int x3, .int 0]) C cfX10_of wd336 kd_79 rfl rfl rfl rfl rfl dX10_worth_36 (fun r h => mX10_of  h) (fun r_9 => ?_)
      refine sm_iload_n C 1 rfl dX10_worth_39 rfl ?_
      refine sm_icmp_ne C dX10_worth_40 (tgt := 62) rfl (fun h_11 => ?_) (fun h_11 => ?_)
      · refine sm_aload_n C 0 rfl dX10_worth_43 rfl ?_
        refine sm_getR C fo_10_18 rfl wd347 kd_79 dX10_worth_44 (rv_79_18 w) (by decide) ?_
        refine sm_iload_n C 3 rfl dX10_worth_47 rfl ?_
        refine sm_iald C kd_89 dX10_worth_48 (fun h_12 => ?_)
        refine sm_iconst C ic_m1 dX10_worth_49 ?_
        refine sm_icmp_eq C dX10_worth_50 (tgt := 62) rfl (fun h_13 => ?_) (fun h_13 => ?_)
        · refine sm_aload_n C 0 rfl dX10_worth_53 rfl ?_
          refine sm_iload_n C 3 rfl dX10_worth_54 rfl ?_
          refine sm_iconst C ic_1 dX10_worth_55 ?_
          refine sm_cVI (As := [.int x3, .int 1]) C cfX10_of wd336 kd_79 rfl rfl rfl rfl rfl dX10_worth_56 (fun r h => mX10_of  h) (fun r_14 => ?_)
          refine sm_goto C dX10_worth_59 (tgt := 63) rfl ?_
          refine sm_iadd C dX10_worth_63 ?_
          refine sm_let (fun x2_16 => ?_)
          refine sm_istore_n (lv1 := [(2, .int x2_16), (0, .ref (hB G + 79)), (1, .int x1), (3, .int x3)]) C dX10_worth_64 rfl rfl rfl ?_
          refine sm_iinc (lv1 := [(3, .int (x3 + 1)), (2, .int x2_16), (0, .ref (hB G + 79)), (1, .int x1)]) C 3 rfl (iv_1 _) dX10_worth_65 rfl rfl ?_
          refine sm_goto C dX10_worth_68 (tgt := 22) rfl ?_
          refine sm_sub [2, 3, 1, 0] rfl ?_
          exact ih w x2_16 (x3 + 1)
        · refine sm_iconst C ic_0 dX10_worth_62 ?_
          refine sm_iadd C dX10_worth_63 ?_
          refine sm_let (fun x2_17 => ?_)
          refine sm_istore_n (lv1 := [(2, .int x2_17), (0, .ref (hB G + 79)), (1, .int x1), (3, .int x3)]) C dX10_worth_64 rfl rfl rfl ?_
          refine sm_iinc (lv1 := [(3, .int (x3 + 1)), (2, .int x2_17), (0, .ref (hB G + 79)), (1, .int x1)]) C 3 rfl (iv_1 _) dX10_worth_65 rfl rfl ?_
          refine sm_goto C dX10_worth_68 (tgt := 22) rfl ?_
          refine sm_sub [2, 3, 1, 0] rfl ?_
          exact ih w x2_17 (x3 + 1)
      · refine sm_iconst C ic_0 dX10_worth_62 ?_
        refine sm_iadd C dX10_worth_63 ?_
        refine sm_let (fun x2_18 => ?_)
        refine sm_istore_n (lv1 := [(2, .int x2_18), (0, .ref (hB G + 79)), (1, .int x1), (3, .int x3)]) C dX10_worth_64 rfl rfl rfl ?_
        refine sm_iinc (lv1 := [(3, .int (x3 + 1)), (2, .int x2_18), (0, .ref (hB G + 79)), (1, .int x1)]) C 3 rfl (iv_1 _) dX10_worth_65 rfl rfl ?_
        refine sm_goto C dX10_worth_68 (tgt := 22) rfl ?_
        refine sm_sub [2, 3, 1, 0] rfl ?_
        exact ih w x2_18 (x3 + 1)
    · refine sm_iload_n C 2 rfl dX10_worth_71 rfl ?_
      exact sm_iret C E rfl dX10_worth_72
set_option maxRecDepth 100000 in
set_option maxHeartbeats 4000000 in
theorem mX10_worth {b : Bx} {w : HW} {x1 : Int32} {a : Int32 × HW} (h : fX10_worth w x1 = some a) : Mt b yX10_worth cX10_worth 4 (some .int) 7 157 [.ref (bB b + 79), .int x1] w (some (.int a.1)) a.2 := by
  refine Mt.of ρIW h (by decide) (Nat.le_of_ble_eq_true rfl) (fun G hG C E => ?_)
  subst hG
  have C : Cx G cX10_worth RX10 4 7 157 := C
  change Sm G a 0 [(0, .ref (hB G + 79)), (1, .int x1)] [] w _
  unfold fX10_worth
  refine sm_aload_n C 0 rfl dX10_worth_0 rfl ?_
  refine sm_cVIW (As := []) C cfX10_asksCamp wd362 kd_79 rfl rfl rfl rfl rfl dX10_worth_1 (fun r h => mX10_asksCamp  h) (fun r_1 w_2 => ?_)
  refine sm_if_eq C dX10_worth_4 (tgt := 15) rfl (fun h_3 => ?_) (fun h_3 => ?_)
  · refine sm_aload_n C 0 rfl dX10_worth_7 rfl ?_
    refine sm_iload_n C 1 rfl dX10_worth_8 rfl ?_
    refine sm_cVI (As := [.int x1]) C cfX10_isSide wd341 kd_79 rfl rfl rfl rfl rfl dX10_worth_9 (fun r h => mX10_isSide  h) (fun r_4 => ?_)
    refine sm_if_ne C dX10_worth_12 (tgt := 18) rfl (fun h_6 => ?_) (fun h_6 => ?_)
    · refine sm_bipush C bp_m2 dX10_worth_15 ?_
      exact sm_iret C E rfl dX10_worth_17
    · refine sm_iconst C ic_0 dX10_worth_18 ?_
      refine sm_istore_n (lv1 := [(2, .int 0), (0, .ref (hB G + 79)), (1, .int x1)]) C dX10_worth_19 rfl rfl rfl ?_
      refine sm_iconst C ic_0 dX10_worth_20 ?_
      refine sm_istore_n (lv1 := [(3, .int 0), (2, .int 0), (0, .ref (hB G + 79)), (1, .int x1)]) C dX10_worth_21 rfl rfl rfl ?_
      refine sm_sub [2, 3, 1, 0] rfl ?_
      exact sX10_worth_22 C E FU w_2 0 0
  · refine sm_bipush C bp_m2 dX10_worth_15 ?_
    exact sm_iret C E rfl dX10_worth_17
/-! X10_state -/
set_option maxRecDepth 100000 in
set_option maxHeartbeats 4000000 in
theorem mX10_state {b : Bx} {w : HW} {x0 : Int32} {x1 : Int32} {x2 : Int32} {a : Int32} (h : fX10_state w x0 x1 x2 = some a) : Mt b yX10_state cX10_state 3 (some .int) 0 0 [.int x0, .int x1, .int x2] w (some (.int a)) w := by
  refine Mt.of (ρI w) h (by decide) (Nat.le_of_ble_eq_true rfl) (fun G hG C E => ?_)
  subst hG
  have C : Cx G cX10_state RX10 3 0 0 := C
  change Sm G a 0 [(0, .int x0), (1, .int x1), (2, .int x2)] [] w _
  unfold fX10_state
  refine sm_iload_n C 0 rfl dX10_state_0 rfl ?_
  refine sm_bipush C bp_10 dX10_state_1 ?_
  refine sm_imul C dX10_state_3 ?_
  refine sm_iload_n C 1 rfl dX10_state_4 rfl ?_
  refine sm_iadd C dX10_state_5 ?_
  refine sm_sipush C sp_256 dX10_state_6 ?_
  refine sm_imul C dX10_state_9 ?_
  refine sm_iload_n C 2 rfl dX10_state_10 rfl ?_
  refine sm_iadd C dX10_state_11 ?_
  exact sm_iret C E rfl dX10_state_12
/-! X10_then -/
set_option maxRecDepth 100000 in
set_option maxHeartbeats 4000000 in
theorem mX10_then {b : Bx} {w : HW} {x1 : Int32} {a : Int32} (h : fX10_then w x1 = some a) : Mt b yX10_then cX10_then 2 (some .int) 1 21 [.ref (bB b + 79), .int x1] w (some (.int a)) w := by
  refine Mt.of (ρI w) h (by decide) (Nat.le_of_ble_eq_true rfl) (fun G hG C E => ?_)
  subst hG
  have C : Cx G cX10_then RX10 2 1 21 := C
  change Sm G a 0 [(0, .ref (hB G + 79)), (1, .int x1)] [] w _
  unfold fX10_then
  refine sm_aload_n C 0 rfl dX10_then_0 rfl ?_
  refine sm_getR C fo_10_1 rfl wd297 kd_79 dX10_then_1 (rv_79_1 w) (by decide) ?_
  refine sm_iconst C ic_2 dX10_then_4 ?_
  refine sm_iald C kd_80 dX10_then_5 (fun h_1 => ?_)
  refine sm_iload_n C 1 rfl dX10_then_6 rfl ?_
  refine sm_iconst C ic_1 dX10_then_7 ?_
  refine sm_iadd C dX10_then_8 ?_
  refine sm_min C wd314 min_st math_in min_co rfl dX10_then_9 ?_
  exact sm_iret C E rfl dX10_then_12
/-! X10_freeDays -/
set_option maxRecDepth 100000 in
set_option maxHeartbeats 4000000 in
theorem mX10_freeDays {b : Bx} {w : HW} {x1 : Int32} {a : Int32} (h : fX10_freeDays w x1 = some a) : Mt b yX10_freeDays cX10_freeDays 3 (some .int) 3 69 [.ref (bB b + 79), .int x1] w (some (.int a)) w := by
  refine Mt.of (ρI w) h (by decide) (Nat.le_of_ble_eq_true rfl) (fun G hG C E => ?_)
  subst hG
  have C : Cx G cX10_freeDays RX10 3 3 69 := C
  change Sm G a 0 [(0, .ref (hB G + 79)), (1, .int x1)] [] w _
  unfold fX10_freeDays
  refine sm_aload_n C 0 rfl dX10_freeDays_0 rfl ?_
  refine sm_iconst C ic_1 dX10_freeDays_1 ?_
  refine sm_iload_n C 1 rfl dX10_freeDays_2 rfl ?_
  refine sm_isub C dX10_freeDays_3 ?_
  refine sm_aload_n C 0 rfl dX10_freeDays_4 rfl ?_
  refine sm_cVI (As := []) C cfX10_allAugurs wd339 kd_79 rfl rfl rfl rfl rfl dX10_freeDays_5 (fun r h => mX10_allAugurs  h) (fun r_1 => ?_)
  refine sm_aload_n C 0 rfl dX10_freeDays_8 rfl ?_
  refine sm_getI C fo_10_29 rfl wd369 kd_79 dX10_freeDays_9 ?_
  refine sm_iconst C ic_m1 dX10_freeDays_12 ?_
  refine sm_ixor C dX10_freeDays_13 ?_
  refine sm_iand C dX10_freeDays_14 ?_
  refine sm_cVI (As := [.int (1 - x1), .int (r_1 &&& ((gI w 79 29) ^^^ (-1)))]) C cfX10_skyBy wd340 kd_79 rfl rfl rfl rfl rfl dX10_freeDays_15 (fun r h => mX10_skyBy  h) (fun r_3 => ?_)
  refine sm_aload_n C 0 rfl dX10_freeDays_18 rfl ?_
  refine sm_getI C fo_10_28 rfl wd370 kd_79 dX10_freeDays_19 ?_
  refine sm_ior C dX10_freeDays_22 ?_
  refine sm_let (fun x2_5 => ?_)
  refine sm_istore_n (lv1 := [(2, .int x2_5), (0, .ref (hB G + 79)), (1, .int x1)]) C dX10_freeDays_23 rfl rfl rfl ?_
  refine sm_iconst C ic_1 dX10_freeDays_24 ?_
  refine sm_aload_n C 1 rfl dX10_freeDays_25 rfl ?_
  refine sm_getR C fo_10_1 rfl wd297 kd_79 dX10_freeDays_26 (rv_79_1 w) (by decide) ?_
  refine sm_iconst C ic_0 dX10_freeDays_29 ?_
  refine sm_iald C kd_80 dX10_freeDays_30 (fun h_6 => ?_)
  refine sm_ishl C dX10_freeDays_31 ?_
  refine sm_iconst C ic_1 dX10_freeDays_32 ?_
  refine sm_isub C dX10_freeDays_33 ?_
  refine sm_iload_n C 0 rfl dX10_freeDays_34 rfl ?_
  refine sm_iconst C ic_m1 dX10_freeDays_35 ?_
  refine sm_ixor C dX10_freeDays_36 ?_
  refine sm_iand C dX10_freeDays_37 ?_
  refine sm_aload_n C 1 rfl dX10_freeDays_38 rfl ?_
  refine sm_getR C fo_10_1 rfl wd297 kd_79 dX10_freeDays_39 (rv_79_1 w) (by decide) ?_
  refine sm_bipush C bp_8 dX10_freeDays_42 ?_
  refine sm_iald C kd_80 dX10_freeDays_44 (fun h_7 => ?_)
  refine sm_aload_n C 1 rfl dX10_freeDays_45 rfl ?_
  refine sm_getI C fo_10_30 rfl wd371 kd_79 dX10_freeDays_46 ?_
  refine sm_iconst C ic_m1 dX10_freeDays_49 ?_
  refine sm_ixor C dX10_freeDays_50 ?_
  refine sm_iand C dX10_freeDays_51 ?_
  refine sm_iconst C ic_m1 dX10_freeDays_52 ?_
  refine sm_ixor C dX10_freeDays_53 ?_
  refine sm_iand C dX10_freeDays_54 ?_
  exact sm_iret C E rfl dX10_freeDays_55
/-! X10_layOwn -/
set_option maxRecDepth 100000 in
set_option maxHeartbeats 4000000 in
theorem sX10_layOwn_32 {G : Gx} {a : HW} (C : Cx G cX10_layOwn RX10 3 4 91) (E : Rx G ρW a (none)) {K5 : HW → Int32 → Option HW} (w : HW) (x1 : Int32) (x2 : Int32) (hK5 : ∀ (w' : HW) (x2' : Int32), Sm G a 7 [(0, .ref (hB G + 79)), (1, .int x1), (2, .int (x2'))] [] w' (K5 w' x2')) : Sm G a 32 [(0, .ref (hB G + 79)), (1, .int x1), (2, .int x2)] [] w (fX10_layOwn_32 w K5 x1 x2) := by
  unfold fX10_layOwn_32
  refine sm_iload_n C 2 rfl dX10_layOwn_32 rfl ?_
  refine sm_aload_n C 0 rfl dX10_layOwn_33 rfl ?_
  refine sm_getI C fo_10_32 rfl wd373 kd_79 dX10_layOwn_34 ?_
  refine sm_icmp_ne C dX10_layOwn_37 (tgt := 43) rfl (fun h_8 => ?_) (fun h_8 => ?_)
  · refine sm_goto C dX10_layOwn_40 (tgt := 82) rfl ?_
    refine sm_iinc (lv1 := [(2, .int (x2 + 1)), (0, .ref (hB G + 79)), (1, .int x1)]) C 2 rfl (iv_1 _) dX10_layOwn_82 rfl rfl ?_
    refine sm_goto C dX10_layOwn_85 (tgt := 7) rfl ?_
    refine sm_sub [1, 2, 0] rfl ?_
    exact hK5 w (x2 + 1)
  · refine sm_aload_n C 0 rfl dX10_layOwn_43 rfl ?_
    refine sm_getR C fo_10_31 rfl wd374 kd_79 dX10_layOwn_44 (rv_79_31 w) (by decide) ?_
    refine sm_aload_n C 0 rfl dX10_layOwn_47 rfl ?_
    refine sm_getI C fo_10_27 rfl wd372 kd_79 dX10_layOwn_48 ?_
    refine sm_aload_n C 0 rfl dX10_layOwn_51 rfl ?_
    refine sm_aload_n C 0 rfl dX10_layOwn_52 rfl ?_
    refine sm_iload_n C 2 rfl dX10_layOwn_53 rfl ?_
    refine sm_iconst C ic_0 dX10_layOwn_54 ?_
    refine sm_cVI (As := [.int x2, .int 0]) C cfX10_of wd336 kd_79 rfl rfl rfl rfl rfl dX10_layOwn_55 (fun r h => mX10_of  h) (fun r_9 => ?_)
    refine sm_cVI (As := [.int r_9]) C cfX10_freeDays wd375 kd_79 rfl rfl rfl rfl rfl dX10_layOwn_58 (fun r h => mX10_freeDays  h) (fun r_11 => ?_)
    refine sm_iast C kd_95 dX10_layOwn_61 (fun h_13 w_14 => ?_)
    refine sm_aload_n C 0 rfl dX10_layOwn_62 rfl ?_
    refine sm_getR C fo_10_26 rfl wd376 kd_79 dX10_layOwn_63 (rv_79_26 w_14) (by decide) ?_
    refine sm_aload_n C 0 rfl dX10_layOwn_66 rfl ?_
    refine sm_getI C fo_10_27 rfl wd372 kd_79 dX10_layOwn_67 ?_
    refine sm_iload_n C 2 rfl dX10_layOwn_70 rfl ?_
    refine sm_iast C kd_94 dX10_layOwn_71 (fun h_15 w_16 => ?_)
    refine sm_aload_n C 0 rfl dX10_layOwn_72 rfl ?_
    refine sm_dup C rfl dX10_layOwn_73 ?_
    refine sm_getI C fo_10_27 rfl wd372 kd_79 dX10_layOwn_74 ?_
    refine sm_iconst C ic_1 dX10_layOwn_77 ?_
    refine sm_iadd C dX10_layOwn_78 ?_
    refine sm_putI C fo_10_27 rfl wd372 kd_79 rfl dX10_layOwn_79 (fun w_17 => ?_)
    refine sm_iinc (lv1 := [(2, .int (x2 + 1)), (0, .ref (hB G + 79)), (1, .int x1)]) C 2 rfl (iv_1 _) dX10_layOwn_82 rfl rfl ?_
    refine sm_goto C dX10_layOwn_85 (tgt := 7) rfl ?_
    refine sm_sub [1, 2, 0] rfl ?_
    exact hK5 w_17 (x2 + 1)
set_option maxRecDepth 100000 in
set_option maxHeartbeats 4000000 in
theorem sX10_layOwn_7 {G : Gx} {a : HW} (C : Cx G cX10_layOwn RX10 3 4 91) (E : Rx G ρW a (none)) {x1 : Int32} : ∀ (n : Nat) (w : HW) (x2 : Int32), Sm G a 7 [(0, .ref (hB G + 79)), (1, .int x1), (2, .int x2)] [] w (fX10_layOwn_7 x1 n w x2) := by
  intro n
  induction n with
  | zero => intro _ _; exact sm_none
  | succ n ih =>
    intro w x2
    rw [fX10_layOwn_7]
    refine sm_iload_n C 2 rfl dX10_layOwn_7 rfl ?_
    refine sm_aload_n C 0 rfl dX10_layOwn_8 rfl ?_
    refine sm_getR C fo_10_1 rfl wd297 kd_79 dX10_layOwn_9 (rv_79_1 w) (by decide) ?_
    refine sm_iconst C ic_5 dX10_layOwn_12 ?_
    refine sm_iald C kd_80 dX10_layOwn_13 (fun h_2 => ?_)
    refine sm_icmp_ge C dX10_layOwn_14 (tgt := 88) rfl (fun h_3 => ?_) (fun h_3 => ?_)
    · refine sm_iload_n C 1 rfl dX10_layOwn_17 rfl ?_
      refine sm_iconst C ic_2 dX10_layOwn_18 ?_
      refine sm_icmp_eq C dX10_layOwn_19 (tgt := 32) rfl (fun h_4 => ?_) (fun h_4 => ?_)
      · refine sm_aload_n C 0 rfl dX10_layOwn_22 rfl ?_
        refine sm_iload_n C 2 rfl dX10_layOwn_23 rfl ?_
        refine sm_iconst C ic_0 dX10_layOwn_24 ?_
        refine sm_cVI (As := [.int x2, .int 0]) C cfX10_of wd336 kd_79 rfl rfl rfl rfl rfl dX10_layOwn_25 (fun r h => mX10_of  h) (fun r_5 => ?_)
        refine sm_iload_n C 1 rfl dX10_layOwn_28 rfl ?_
        refine sm_icmp_ne C dX10_layOwn_29 (tgt := 82) rfl (fun h_7 => ?_) (fun h_7 => ?_)
        · exact sX10_layOwn_32 C E w x1 x2 (fun w x2 => ih w x2)
        · refine sm_iinc (lv1 := [(2, .int (x2 + 1)), (0, .ref (hB G + 79)), (1, .int x1)]) C 2 rfl (iv_1 _) dX10_layOwn_82 rfl rfl ?_
          refine sm_goto C dX10_layOwn_85 (tgt := 7) rfl ?_
          refine sm_sub [1, 2, 0] rfl ?_
          exact ih w (x2 + 1)
      · exact sX10_layOwn_32 C E w x1 x2 (fun w x2 => ih w x2)
    · exact sm_vret C E rfl dX10_layOwn_88
set_option maxRecDepth 100000 in
set_option maxHeartbeats 4000000 in
theorem mX10_layOwn {b : Bx} {w : HW} {x1 : Int32} {a : HW} (h : fX10_layOwn w x1 = some a) : Mt b yX10_layOwn cX10_layOwn 3 (none) 4 91 [.ref (bB b + 79), .int x1] w none a := by
  refine Mt.of ρW h (by decide) (Nat.le_of_ble_eq_true rfl) (fun G hG C E => ?_)
  subst hG
  have C : Cx G cX10_layOwn RX10 3 4 91 := C
  change Sm G a 0 [(0, .ref (hB G + 79)), (1, .int x1)] [] w _
  unfold fX10_layOwn
  refine sm_aload_n C 0 rfl dX10_layOwn_0 rfl ?_
  refine sm_iconst C ic_0 dX10_layOwn_1 ?_
  refine sm_putI C fo_10_27 rfl wd372 kd_79 rfl dX10_layOwn_2 (fun w_1 => ?_)
  refine sm_iconst C ic_0 dX10_layOwn_5 ?_
  refine sm_istore_n (lv1 := [(2, .int 0), (0, .ref (hB G + 79)), (1, .int x1)]) C dX10_layOwn_6 rfl rfl rfl ?_
  refine sm_sub [1, 2, 0] rfl ?_
  exact sX10_layOwn_7 C E FU w_1 0
/-! X10_mayPass -/
set_option maxRecDepth 100000 in
set_option maxHeartbeats 4000000 in
theorem sX10_mayPass_53 {G : Gx} {a : Int32} {w : HW} (C : Cx G cX10_mayPass RX10 5 1 22) (E : Rx G (ρI w) a (some .boolean)) (x2 : Int32) (x4 : Int32) : Sm G a 53 [(2, .int x2), (4, .int x4)] [] w (fX10_mayPass_53 w x2 x4) := by
  unfold fX10_mayPass_53
  refine sm_iload_n C 0 rfl dX10_mayPass_53 rfl ?_
  refine sm_iload C 1 rfl dX10_mayPass_54 ?_
  refine sm_cSI (As := [.int x2, .int x4]) C cfX10_bit wd337 rfl rfl rfl rfl dX10_mayPass_56 (fun r h => mX10_bit  h) (fun r_11 => ?_)
  refine sm_iconst C ic_1 dX10_mayPass_59 ?_
  refine sm_icmp_ne C dX10_mayPass_60 (tgt := 67) rfl (fun h_13 => ?_) (fun h_13 => ?_)
  · refine sm_iconst C ic_1 dX10_mayPass_63 ?_
    refine sm_goto C dX10_mayPass_64 (tgt := 68) rfl ?_
    exact sm_zret C E rfl rfl dX10_mayPass_68
  · refine sm_iconst C ic_0 dX10_mayPass_67 ?_
    exact sm_zret C E rfl rfl dX10_mayPass_68
set_option maxRecDepth 100000 in
set_option maxHeartbeats 4000000 in
theorem sX10_mayPass_33 {G : Gx} {a : Int32} {w : HW} (C : Cx G cX10_mayPass RX10 5 1 22) (E : Rx G (ρI w) a (some .boolean)) {x2 : Int32} {x3 : Int32} : ∀ (n : Nat) (x4 : Int32), Sm G a 33 [(0, .ref (hB G + 79)), (2, .int x2), (3, .int x3), (4, .int x4)] [] w (fX10_mayPass_33 w x2 x3 n x4) := by
  intro n
  induction n with
  | zero => intro _; exact sm_none
  | succ n ih =>
    intro x4
    rw [fX10_mayPass_33]
    refine sm_iload C 3 rfl dX10_mayPass_33 ?_
    refine sm_aload_n C 0 rfl dX10_mayPass_35 rfl ?_
    refine sm_getI C fo_10_27 rfl wd372 kd_79 dX10_mayPass_36 ?_
    refine sm_icmp_ge C dX10_mayPass_39 (tgt := 75) rfl (fun h_8 => ?_) (fun h_8 => ?_)
    · refine sm_aload_n C 0 rfl dX10_mayPass_42 rfl ?_
      refine sm_getR C fo_10_26 rfl wd376 kd_79 dX10_mayPass_43 (rv_79_26 w) (by decide) ?_
      refine sm_iload C 3 rfl dX10_mayPass_46 ?_
      refine sm_iald C kd_94 dX10_mayPass_48 (fun h_9 => ?_)
      refine sm_iload_n C 2 rfl dX10_mayPass_49 rfl ?_
      refine sm_icmp_ne C dX10_mayPass_50 (tgt := 69) rfl (fun h_10 => ?_) (fun h_10 => ?_)
      · refine sm_sub [1, 3] rfl ?_
        exact sX10_mayPass_53 C E x2 x4
      · refine sm_iinc (lv1 := [(4, .int (x4 + 1)), (0, .ref (hB G + 79)), (2, .int x2), (3, .int x3)]) C 3 rfl (iv_1 _) dX10_mayPass_69 rfl rfl ?_
        refine sm_goto C dX10_mayPass_72 (tgt := 33) rfl ?_
        refine sm_sub [1, 2, 3, 0] rfl ?_
        exact ih (x4 + 1)
    · refine sm_iconst C ic_0 dX10_mayPass_75 ?_
      exact sm_zret C E rfl rfl dX10_mayPass_76
set_option maxRecDepth 100000 in
set_option maxHeartbeats 4000000 in
theorem mX10_mayPass {b : Bx} {w : HW} {x1 : Int32} {x2 : Int32} {a : Int32} (h : fX10_mayPass w x1 x2 = some a) : Mt b yX10_mayPass cX10_mayPass 5 (some .boolean) 1 22 [.ref (bB b + 79), .int x1, .int x2] w (some (.int a)) w := by
  refine Mt.of (ρI w) h (by decide) (Nat.le_of_ble_eq_true rfl) (fun G hG C E => ?_)
  subst hG
  have C : Cx G cX10_mayPass RX10 5 1 22 := C
  change Sm G a 0 [(0, .ref (hB G + 79)), (1, .int x1), (2, .int x2)] [] w _
  unfold fX10_mayPass
  refine sm_iload_n C 2 rfl dX10_mayPass_0 rfl ?_
  refine sm_iload_n C 1 rfl dX10_mayPass_1 rfl ?_
  refine sm_cSI (As := [.int x2, .int x1]) C cfX10_bit wd337 rfl rfl rfl rfl dX10_mayPass_2 (fun r h => mX10_bit  h) (fun r_1 => ?_)
  refine sm_iconst C ic_1 dX10_mayPass_5 ?_
  refine sm_icmp_ne C dX10_mayPass_6 (tgt := 11) rfl (fun h_3 => ?_) (fun h_3 => ?_)
  · refine sm_iconst C ic_0 dX10_mayPass_9 ?_
    exact sm_zret C E rfl rfl dX10_mayPass_10
  · refine sm_aload_n C 0 rfl dX10_mayPass_11 rfl ?_
    refine sm_aload_n C 0 rfl dX10_mayPass_12 rfl ?_
    refine sm_getR C fo_10_26 rfl wd376 kd_79 dX10_mayPass_13 (rv_79_26 w) (by decide) ?_
    refine sm_iload_n C 1 rfl dX10_mayPass_16 rfl ?_
    refine sm_iald C kd_94 dX10_mayPass_17 (fun h_4 => ?_)
    refine sm_iconst C ic_2 dX10_mayPass_18 ?_
    refine sm_cVI (As := [.int (gI w 94 (ix x1)), .int 2]) C cfX10_of wd336 kd_79 rfl rfl rfl rfl rfl dX10_mayPass_19 (fun r h => mX10_of  h) (fun r_5 => ?_)
    refine sm_istore_n (lv1 := [(3, .int r_5), (0, .ref (hB G + 79)), (1, .int x1), (2, .int x2)]) C dX10_mayPass_22 rfl rfl rfl ?_
    refine sm_iload_n C 0 rfl dX10_mayPass_23 rfl ?_
    refine sm_iconst C ic_m1 dX10_mayPass_24 ?_
    refine sm_icmp_ne C dX10_mayPass_25 (tgt := 30) rfl (fun h_7 => ?_) (fun h_7 => ?_)
    · refine sm_iconst C ic_1 dX10_mayPass_28 ?_
      exact sm_zret C E rfl rfl dX10_mayPass_29
    · refine sm_iconst C ic_0 dX10_mayPass_30 ?_
      refine sm_istore (lv1 := [(4, .int 0), (3, .int r_5), (0, .ref (hB G + 79)), (1, .int x1), (2, .int x2)]) C dX10_mayPass_31 rfl rfl ?_
      refine sm_sub [2, 4, 1, 0] rfl ?_
      exact sX10_mayPass_33 C E FU 0
