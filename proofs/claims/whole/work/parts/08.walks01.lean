/-! X9_many -/
set_option maxRecDepth 100000 in
set_option maxHeartbeats 4000000 in
theorem mX9_many {b : Bx} {w : HW} {x1 : Int32} {a : Int32 × HW} (h : fX9_many w x1 = some a) : Mt b yX9_many cX9_many 2 (some .int) 4 102 [.ref (bB b + 0), .int x1] w (some (.int a.1)) a.2 := by
  refine Mt.of ρIW h (by decide) (Nat.le_of_ble_eq_true rfl) (fun G hG C E => ?_)
  subst hG
  have C : Cx G cX9_many RX9 2 4 102 := C
  change Sm G a 0 [(0, .ref (hB G + 0)), (1, .int x1)] [] w _
  unfold fX9_many
  refine sm_aload_n C 0 rfl dX9_many_0 rfl ?_
  refine sm_getC C fo_9_10 rfl wd58 kd_0 dX9_many_1 rfl (fun j_1 hj_1 => ?_)
  refine sm_iload_n C 1 rfl dX9_many_4 rfl ?_
  refine sm_cVI (As := [.int x1]) C cfX0_hasSide wd77 (kdC hj_1) rfl rfl rfl rfl rfl dX9_many_5 (fun r h => mX0_hasSide hj_1 h) (fun r_2 => ?_)
  refine sm_if_ne C dX9_many_8 (tgt := 14) rfl (fun h_4 => ?_) (fun h_4 => ?_)
  · refine sm_bipush C bp_m2 dX9_many_11 ?_
    exact sm_iret C E rfl dX9_many_13
  · refine sm_aload_n C 0 rfl dX9_many_14 rfl ?_
    refine sm_getR C fo_9_3 rfl wd169 kd_0 dX9_many_15 (rv_0_3 w) (by decide) ?_
    refine sm_aload_n C 0 rfl dX9_many_18 rfl ?_
    refine sm_getC C fo_9_10 rfl wd58 kd_0 dX9_many_19 rfl (fun j_5 hj_5 => ?_)
    refine sm_cVW (As := [.ref (hB G + j_5)]) C cfX3_billsAlike wd177 kd_11 rfl rfl rfl rfl rfl dX9_many_22 (fun r h => mX3_billsAlike hj_5 h) (fun w_7 => ?_)
    refine sm_aload_n C 0 rfl dX9_many_25 rfl ?_
    refine sm_getR C fo_9_3 rfl wd169 kd_0 dX9_many_26 (rv_0_3 w_7) (by decide) ?_
    refine sm_aload_n C 0 rfl dX9_many_29 rfl ?_
    refine sm_getC C fo_9_10 rfl wd58 kd_0 dX9_many_30 rfl (fun j_8 hj_8 => ?_)
    refine sm_aload_n C 0 rfl dX9_many_33 rfl ?_
    refine sm_getC C fo_9_10 rfl wd58 kd_0 dX9_many_34 rfl (fun j_9 hj_9 => ?_)
    refine sm_iload_n C 1 rfl dX9_many_37 rfl ?_
    refine sm_cVI (As := [.int x1]) C cfX0_billsOf wd138 (kdC hj_9) rfl rfl rfl rfl rfl dX9_many_38 (fun r h => mX0_billsOf hj_9 h) (fun r_10 => ?_)
    refine sm_aload_n C 0 rfl dX9_many_41 rfl ?_
    refine sm_getC C fo_9_10 rfl wd58 kd_0 dX9_many_42 rfl (fun j_12 hj_12 => ?_)
    refine sm_getI C fo_0_5 rfl wd71 (kdC hj_12) dX9_many_45 ?_
    refine sm_sipush C sp_255 dX9_many_48 ?_
    refine sm_iconst C ic_0 dX9_many_51 ?_
    refine sm_cVIW (As := [.ref (hB G + j_8), .int r_10, .int (gI w_7 j_12 5), .int 255, .int 0]) C cfX3_solve wd171 kd_11 rfl rfl rfl rfl rfl dX9_many_52 (fun r h => mX3_solve hj_8 h) (fun r_13 w_14 => ?_)
    exact sm_iret C E rfl dX9_many_55
/-! X0_needsOf -/
set_option maxRecDepth 100000 in
set_option maxHeartbeats 4000000 in
theorem sX0_needsOf_14 {G : Gx} {a : Int32} {w : HW} (C : Cx G cX0_needsOf RX0 5 0 0) (E : Rx G (ρI w) a (some .int)) {k0 : Nat} (hk0 : isC k0 = true) : ∀ (n : Nat) (x2 : Int32) (x3 : Int32) (x4 : Int32), Sm G a 14 [(0, .ref (hB G + k0)), (2, .int x2), (3, .int x3), (4, .int x4)] [] w (fX0_needsOf_14 w k0 n x2 x3 x4) := by
  intro n
  induction n with
  | zero => intro _ _ _; exact sm_none
  | succ n ih =>
    intro x2 x3 x4
    rw [fX0_needsOf_14]
    refine sm_iload C 3 rfl dX0_needsOf_14 ?_
    refine sm_if_lt C dX0_needsOf_16 (tgt := 46) rfl (fun h_4 => ?_) (fun h_4 => ?_)
    · refine sm_iload C 3 rfl dX0_needsOf_19 ?_
      refine sm_iload_n C 2 rfl dX0_needsOf_21 rfl ?_
      refine sm_icmp_ne C dX0_needsOf_22 (tgt := 40) rfl (fun h_5 => ?_) (fun h_5 => ?_)
      · refine sm_iload_n C 1 rfl dX0_needsOf_25 rfl ?_
        refine sm_iconst C ic_1 dX0_needsOf_26 ?_
        refine sm_iload C 3 rfl dX0_needsOf_27 ?_
        refine sm_ishl C dX0_needsOf_29 ?_
        refine sm_ior C dX0_needsOf_30 ?_
        refine sm_let (fun x2_6 => ?_)
        refine sm_istore_n (lv1 := [(2, .int x2_6), (0, .ref (hB G + k0)), (3, .int x3), (4, .int x4)]) C dX0_needsOf_31 rfl rfl rfl ?_
        refine sm_aload_n C 1 rfl dX0_needsOf_32 rfl ?_
        refine sm_getR C fo_0_13 rfl wd178 (kdC hk0) dX0_needsOf_33 (rvC_13 hk0 w) (nzC_6 hk0) ?_
        refine sm_iload C 3 rfl dX0_needsOf_36 ?_
        refine sm_iald C (kdC_6 hk0) dX0_needsOf_38 (fun h_7 => ?_)
        refine sm_let (fun x3_8 => ?_)
        refine sm_istore_n (lv1 := [(3, .int x3_8), (2, .int x2_6), (0, .ref (hB G + k0)), (4, .int x4)]) C dX0_needsOf_39 rfl rfl rfl ?_
        refine sm_iinc (lv1 := [(4, .int (x4 + (-1))), (3, .int x3_8), (2, .int x2_6), (0, .ref (hB G + k0))]) C 3 rfl (iv_m1 _) dX0_needsOf_40 rfl rfl ?_
        refine sm_goto C dX0_needsOf_43 (tgt := 14) rfl ?_
        refine sm_sub [3, 2, 1, 0] rfl ?_
        exact ih x2_6 x3_8 (x4 + (-1))
      · refine sm_iinc (lv1 := [(4, .int (x4 + (-1))), (0, .ref (hB G + k0)), (2, .int x2), (3, .int x3)]) C 3 rfl (iv_m1 _) dX0_needsOf_40 rfl rfl ?_
        refine sm_goto C dX0_needsOf_43 (tgt := 14) rfl ?_
        refine sm_sub [1, 2, 3, 0] rfl ?_
        exact ih x2 x3 (x4 + (-1))
    · refine sm_iload_n C 1 rfl dX0_needsOf_46 rfl ?_
      exact sm_iret C E rfl dX0_needsOf_47
set_option maxRecDepth 100000 in
set_option maxHeartbeats 4000000 in
theorem mX0_needsOf {b : Bx} {w : HW} {k0 : Nat} {x1 : Int32} (hk0 : isC k0 = true) {a : Int32} (h : fX0_needsOf w k0 x1 = some a) : Mt b yX0_needsOf cX0_needsOf 5 (some .int) 0 0 [.ref (bB b + k0), .int x1] w (some (.int a)) w := by
  refine Mt.of (ρI w) h (by decide) (Nat.le_of_ble_eq_true rfl) (fun G hG C E => ?_)
  subst hG
  have C : Cx G cX0_needsOf RX0 5 0 0 := C
  change Sm G a 0 [(0, .ref (hB G + k0)), (1, .int x1)] [] w _
  unfold fX0_needsOf
  refine sm_iconst C ic_0 dX0_needsOf_0 ?_
  refine sm_istore_n (lv1 := [(2, .int 0), (0, .ref (hB G + k0)), (1, .int x1)]) C dX0_needsOf_1 rfl rfl rfl ?_
  refine sm_aload_n C 1 rfl dX0_needsOf_2 rfl ?_
  refine sm_getR C fo_0_13 rfl wd178 (kdC hk0) dX0_needsOf_3 (rvC_13 hk0 w) (nzC_6 hk0) ?_
  refine sm_iload_n C 2 rfl dX0_needsOf_6 rfl ?_
  refine sm_iald C (kdC_6 hk0) dX0_needsOf_7 (fun h_1 => ?_)
  refine sm_let (fun x3_2 => ?_)
  refine sm_istore_n (lv1 := [(3, .int x3_2), (2, .int 0), (0, .ref (hB G + k0)), (1, .int x1)]) C dX0_needsOf_8 rfl rfl rfl ?_
  refine sm_iload_n C 3 rfl dX0_needsOf_9 rfl ?_
  refine sm_iconst C ic_1 dX0_needsOf_10 ?_
  refine sm_isub C dX0_needsOf_11 ?_
  refine sm_let (fun x4_3 => ?_)
  refine sm_istore (lv1 := [(4, .int x4_3), (3, .int x3_2), (2, .int 0), (0, .ref (hB G + k0)), (1, .int x1)]) C dX0_needsOf_12 rfl rfl ?_
  refine sm_sub [3, 2, 1, 0] rfl ?_
  exact sX0_needsOf_14 C E hk0 FU 0 x3_2 x4_3
/-! X1_lengthOf -/
set_option maxRecDepth 100000 in
set_option maxHeartbeats 4000000 in
theorem mX1_lengthOf {b : Bx} {w : HW} {k1 : Nat} {x2 : Int32} (hk1 : isC k1 = true) {a : Int32} (h : fX1_lengthOf w k1 x2 = some a) : Mt b yX1_lengthOf cX1_lengthOf 5 (some .int) 1 28 [.ref (bB b + 17), .ref (bB b + k1), .int x2] w (some (.int a)) w := by
  refine Mt.of (ρI w) h (by decide) (Nat.le_of_ble_eq_true rfl) (fun G hG C E => ?_)
  subst hG
  have C : Cx G cX1_lengthOf RX1 5 1 28 := C
  change Sm G a 0 [(0, .ref (hB G + 17)), (1, .ref (hB G + k1)), (2, .int x2)] [] w _
  unfold fX1_lengthOf
  refine sm_aload_n C 1 rfl dX1_lengthOf_0 rfl ?_
  refine sm_iload_n C 2 rfl dX1_lengthOf_1 rfl ?_
  refine sm_cVI (As := [.int x2]) C cfX0_needsOf wd179 (kdC hk1) rfl rfl rfl rfl rfl dX1_lengthOf_2 (fun r h => mX0_needsOf hk1 h) (fun r_1 => ?_)
  refine sm_istore_n (lv1 := [(3, .int r_1), (0, .ref (hB G + 17)), (1, .ref (hB G + k1)), (2, .int x2)]) C dX1_lengthOf_5 rfl rfl rfl ?_
  refine sm_aload_n C 2 rfl dX1_lengthOf_6 rfl ?_
  refine sm_aload_n C 2 rfl dX1_lengthOf_7 rfl ?_
  refine sm_getR C fo_0_11 rfl wd180 (kdC hk1) dX1_lengthOf_8 (rvC_11 hk1 w) (nzC_4 hk1) ?_
  refine sm_iload_n C 3 rfl dX1_lengthOf_11 rfl ?_
  refine sm_iald C (kdC_4 hk1) dX1_lengthOf_12 (fun h_3 => ?_)
  refine sm_cVI (As := [.int (gI w (k1 + 4) (ix x2))]) C cfX0_billsOf wd181 (kdC hk1) rfl rfl rfl rfl rfl dX1_lengthOf_13 (fun r h => mX0_billsOf hk1 h) (fun r_4 => ?_)
  refine sm_istore (lv1 := [(4, .int r_4), (3, .int r_1), (0, .ref (hB G + 17)), (1, .ref (hB G + k1)), (2, .int x2)]) C dX1_lengthOf_16 rfl rfl ?_
  refine sm_iload_n C 1 rfl dX1_lengthOf_18 rfl ?_
  refine sm_iload C 0 rfl dX1_lengthOf_19 ?_
  refine sm_iand C dX1_lengthOf_21 ?_
  refine sm_iload_n C 1 rfl dX1_lengthOf_22 rfl ?_
  refine sm_icmp_ne C dX1_lengthOf_23 (tgt := 35) rfl (fun h_6 => ?_) (fun h_6 => ?_)
  · refine sm_iload_n C 1 rfl dX1_lengthOf_26 rfl ?_
    refine sm_cSI (As := [.int r_1]) C cfJ6_bitCount_0f7a4 wd182 rfl rfl rfl rfl dX1_lengthOf_27 (fun r h => mJ6_bitCount_0f7a4  h) (fun r_7 => ?_)
    refine sm_iconst C ic_1 dX1_lengthOf_30 ?_
    refine sm_iadd C dX1_lengthOf_31 ?_
    refine sm_goto C dX1_lengthOf_32 (tgt := 36) rfl ?_
    exact sm_iret C E rfl dX1_lengthOf_36
  · refine sm_iconst C ic_0 dX1_lengthOf_35 ?_
    exact sm_iret C E rfl dX1_lengthOf_36
/-! X1_dayOfPass -/
set_option maxRecDepth 100000 in
set_option maxHeartbeats 4000000 in
theorem sX1_dayOfPass_12 {G : Gx} {a : Int32} {w : HW} (C : Cx G cX1_dayOfPass RX1 7 2 41) (E : Rx G (ρI w) a (some .int)) {k1 : Nat} (hk1 : isC k1 = true) {x2 : Int32} {x3 : Int32} : ∀ (n : Nat) (x4 : Int32) (x5 : Int32) (x6 : Int32), Sm G a 12 [(1, .ref (hB G + k1)), (2, .int x2), (3, .int x3), (4, .int x4), (5, .int x5), (6, .int x6)] [] w (fX1_dayOfPass_12 w k1 x2 x3 n x4 x5 x6) := by
  intro n
  induction n with
  | zero => intro _ _ _; exact sm_none
  | succ n ih =>
    intro x4 x5 x6
    rw [fX1_dayOfPass_12]
    refine sm_iload C 5 rfl dX1_dayOfPass_12 ?_
    refine sm_aload_n C 0 rfl dX1_dayOfPass_14 rfl ?_
    refine sm_getI C fo_0_1 rfl wd184 (kdC hk1) dX1_dayOfPass_15 ?_
    refine sm_icmp_ge C dX1_dayOfPass_18 (tgt := 64) rfl (fun h_3 => ?_) (fun h_3 => ?_)
    · refine sm_iload C 5 rfl dX1_dayOfPass_21 ?_
      refine sm_iload C 3 rfl dX1_dayOfPass_23 ?_
      refine sm_icmp_lt C dX1_dayOfPass_25 (tgt := 58) rfl (fun h_4 => ?_) (fun h_4 => ?_)
      · refine sm_iload_n C 1 rfl dX1_dayOfPass_28 rfl ?_
        refine sm_iload C 5 rfl dX1_dayOfPass_29 ?_
        refine sm_cNI (As := [.int x2, .int x6]) C cfX9_holds 13 rfl rfl rfl rfl rfl dX1_dayOfPass_31 (fun r h => mX9_holds  h) (fun r_5 => ?_)
        refine sm_if_eq C dX1_dayOfPass_34 (tgt := 58) rfl (fun h_7 => ?_) (fun h_7 => ?_)
        · refine sm_iinc (lv1 := [(5, .int (x5 + 1)), (1, .ref (hB G + k1)), (2, .int x2), (3, .int x3), (4, .int x4), (6, .int x6)]) C 4 rfl (iv_1 _) dX1_dayOfPass_37 rfl rfl ?_
          refine sm_iload C 5 rfl dX1_dayOfPass_40 ?_
          refine sm_aload_n C 1 rfl dX1_dayOfPass_42 rfl ?_
          refine sm_getI C fo_0_3 rfl wd185 (kdC hk1) dX1_dayOfPass_43 ?_
          refine sm_iadd C dX1_dayOfPass_46 ?_
          refine sm_let (fun x4_8 => ?_)
          refine sm_istore (lv1 := [(4, .int x4_8), (5, .int (x5 + 1)), (1, .ref (hB G + k1)), (2, .int x2), (3, .int x3), (6, .int x6)]) C dX1_dayOfPass_47 rfl rfl ?_
          refine sm_iload C 1 rfl dX1_dayOfPass_49 ?_
          refine sm_iload_n C 4 rfl dX1_dayOfPass_51 rfl ?_
          refine sm_icmp_ne C dX1_dayOfPass_52 (tgt := 58) rfl (fun h_9 => ?_) (fun h_9 => ?_)
          · refine sm_iload C 5 rfl dX1_dayOfPass_55 ?_
            exact sm_iret C E rfl dX1_dayOfPass_57
          · refine sm_iinc (lv1 := [(6, .int (x6 + 1)), (4, .int x4_8), (5, .int (x5 + 1)), (1, .ref (hB G + k1)), (2, .int x2), (3, .int x3)]) C 5 rfl (iv_1 _) dX1_dayOfPass_58 rfl rfl ?_
            refine sm_goto C dX1_dayOfPass_61 (tgt := 12) rfl ?_
            refine sm_sub [3, 4, 5, 1, 2, 0] rfl ?_
            exact ih x4_8 (x5 + 1) (x6 + 1)
        · refine sm_iinc (lv1 := [(6, .int (x6 + 1)), (1, .ref (hB G + k1)), (2, .int x2), (3, .int x3), (4, .int x4), (5, .int x5)]) C 5 rfl (iv_1 _) dX1_dayOfPass_58 rfl rfl ?_
          refine sm_goto C dX1_dayOfPass_61 (tgt := 12) rfl ?_
          refine sm_sub [1, 2, 3, 4, 5, 0] rfl ?_
          exact ih x4 x5 (x6 + 1)
      · refine sm_iinc (lv1 := [(6, .int (x6 + 1)), (1, .ref (hB G + k1)), (2, .int x2), (3, .int x3), (4, .int x4), (5, .int x5)]) C 5 rfl (iv_1 _) dX1_dayOfPass_58 rfl rfl ?_
        refine sm_goto C dX1_dayOfPass_61 (tgt := 12) rfl ?_
        refine sm_sub [1, 2, 3, 4, 5, 0] rfl ?_
        exact ih x4 x5 (x6 + 1)
    · refine sm_iconst C ic_m1 dX1_dayOfPass_64 ?_
      exact sm_iret C E rfl dX1_dayOfPass_65
set_option maxRecDepth 100000 in
set_option maxHeartbeats 4000000 in
theorem mX1_dayOfPass {b : Bx} {w : HW} {k1 : Nat} {x2 : Int32} {x3 : Int32} (hk1 : isC k1 = true) {a : Int32} (h : fX1_dayOfPass w k1 x2 x3 = some a) : Mt b yX1_dayOfPass cX1_dayOfPass 7 (some .int) 2 41 [.ref (bB b + 17), .ref (bB b + k1), .int x2, .int x3] w (some (.int a)) w := by
  refine Mt.of (ρI w) h (by decide) (Nat.le_of_ble_eq_true rfl) (fun G hG C E => ?_)
  subst hG
  have C : Cx G cX1_dayOfPass RX1 7 2 41 := C
  change Sm G a 0 [(0, .ref (hB G + 17)), (1, .ref (hB G + k1)), (2, .int x2), (3, .int x3)] [] w _
  unfold fX1_dayOfPass
  refine sm_aload_n C 1 rfl dX1_dayOfPass_0 rfl ?_
  refine sm_cVI (As := []) C cfX0_firstHungryDay wd183 (kdC hk1) rfl rfl rfl rfl rfl dX1_dayOfPass_1 (fun r h => mX0_firstHungryDay hk1 h) (fun r_1 => ?_)
  refine sm_istore (lv1 := [(4, .int r_1), (0, .ref (hB G + 17)), (1, .ref (hB G + k1)), (2, .int x2), (3, .int x3)]) C dX1_dayOfPass_4 rfl rfl ?_
  refine sm_iconst C ic_0 dX1_dayOfPass_6 ?_
  refine sm_istore (lv1 := [(5, .int 0), (4, .int r_1), (0, .ref (hB G + 17)), (1, .ref (hB G + k1)), (2, .int x2), (3, .int x3)]) C dX1_dayOfPass_7 rfl rfl ?_
  refine sm_iconst C ic_0 dX1_dayOfPass_9 ?_
  refine sm_istore (lv1 := [(6, .int 0), (5, .int 0), (4, .int r_1), (0, .ref (hB G + 17)), (1, .ref (hB G + k1)), (2, .int x2), (3, .int x3)]) C dX1_dayOfPass_10 rfl rfl ?_
  refine sm_sub [4, 5, 6, 2, 1, 0] rfl ?_
  exact sX1_dayOfPass_12 C E hk1 FU r_1 0 0
/-! X1_soonestDay -/
set_option maxRecDepth 100000 in
set_option maxHeartbeats 4000000 in
theorem mX1_soonestDay {b : Bx} {w : HW} {k1 : Nat} {x2 : Int32} (hk1 : isC k1 = true) {a : Int32} (h : fX1_soonestDay w k1 x2 = some a) : Mt b yX1_soonestDay cX1_soonestDay 4 (some .int) 3 67 [.ref (bB b + 17), .ref (bB b + k1), .int x2] w (some (.int a)) w := by
  refine Mt.of (ρI w) h (by decide) (Nat.le_of_ble_eq_true rfl) (fun G hG C E => ?_)
  subst hG
  have C : Cx G cX1_soonestDay RX1 4 3 67 := C
  change Sm G a 0 [(0, .ref (hB G + 17)), (1, .ref (hB G + k1)), (2, .int x2)] [] w _
  unfold fX1_soonestDay
  refine sm_aload_n C 0 rfl dX1_soonestDay_0 rfl ?_
  refine sm_aload_n C 1 rfl dX1_soonestDay_1 rfl ?_
  refine sm_iload_n C 2 rfl dX1_soonestDay_2 rfl ?_
  refine sm_cVI (As := [.ref (hB G + k1), .int x2]) C cfX1_lengthOf wd186 kd_17 rfl rfl rfl rfl rfl dX1_soonestDay_3 (fun r h => mX1_lengthOf hk1 h) (fun r_1 => ?_)
  refine sm_istore_n (lv1 := [(3, .int r_1), (0, .ref (hB G + 17)), (1, .ref (hB G + k1)), (2, .int x2)]) C dX1_soonestDay_6 rfl rfl rfl ?_
  refine sm_iload_n C 0 rfl dX1_soonestDay_7 rfl ?_
  refine sm_if_ne C dX1_soonestDay_8 (tgt := 15) rfl (fun h_3 => ?_) (fun h_3 => ?_)
  · refine sm_iconst C ic_m1 dX1_soonestDay_11 ?_
    refine sm_goto C dX1_soonestDay_12 (tgt := 31) rfl ?_
    exact sm_iret C E rfl dX1_soonestDay_31
  · refine sm_aload_n C 1 rfl dX1_soonestDay_15 rfl ?_
    refine sm_aload_n C 2 rfl dX1_soonestDay_16 rfl ?_
    refine sm_aload_n C 2 rfl dX1_soonestDay_17 rfl ?_
    refine sm_aload_n C 2 rfl dX1_soonestDay_18 rfl ?_
    refine sm_getR C fo_0_11 rfl wd180 (kdC hk1) dX1_soonestDay_19 (rvC_11 hk1 w) (nzC_4 hk1) ?_
    refine sm_iload_n C 3 rfl dX1_soonestDay_22 rfl ?_
    refine sm_iald C (kdC_4 hk1) dX1_soonestDay_23 (fun h_4 => ?_)
    refine sm_cVI (As := [.int (gI w (k1 + 4) (ix x2))]) C cfX0_clearDays wd187 (kdC hk1) rfl rfl rfl rfl rfl dX1_soonestDay_24 (fun r h => mX0_clearDays hk1 h) (fun r_5 => ?_)
    refine sm_iload_n C 0 rfl dX1_soonestDay_27 rfl ?_
    refine sm_cVI (As := [.ref (hB G + k1), .int r_5, .int r_1]) C cfX1_dayOfPass wd188 kd_17 rfl rfl rfl rfl rfl dX1_soonestDay_28 (fun r h => mX1_dayOfPass hk1 h) (fun r_7 => ?_)
    exact sm_iret C E rfl dX1_soonestDay_31
/-! X9_soonest -/
set_option maxRecDepth 100000 in
set_option maxHeartbeats 4000000 in
theorem mX9_soonest {b : Bx} {w : HW} {x1 : Int32} {a : Int32} (h : fX9_soonest w x1 = some a) : Mt b yX9_soonest cX9_soonest 2 (some .int) 4 90 [.ref (bB b + 0), .int x1] w (some (.int a)) w := by
  refine Mt.of (ρI w) h (by decide) (Nat.le_of_ble_eq_true rfl) (fun G hG C E => ?_)
  subst hG
  have C : Cx G cX9_soonest RX9 2 4 90 := C
  change Sm G a 0 [(0, .ref (hB G + 0)), (1, .int x1)] [] w _
  unfold fX9_soonest
  refine sm_aload_n C 0 rfl dX9_soonest_0 rfl ?_
  refine sm_getC C fo_9_10 rfl wd58 kd_0 dX9_soonest_1 rfl (fun j_1 hj_1 => ?_)
  refine sm_iload_n C 1 rfl dX9_soonest_4 rfl ?_
  refine sm_cVI (As := [.int x1]) C cfX0_hasBill wd66 (kdC hj_1) rfl rfl rfl rfl rfl dX9_soonest_5 (fun r h => mX0_hasBill hj_1 h) (fun r_2 => ?_)
  refine sm_if_ne C dX9_soonest_8 (tgt := 14) rfl (fun h_4 => ?_) (fun h_4 => ?_)
  · refine sm_bipush C bp_m2 dX9_soonest_11 ?_
    exact sm_iret C E rfl dX9_soonest_13
  · refine sm_aload_n C 0 rfl dX9_soonest_14 rfl ?_
    refine sm_getR C fo_9_4 rfl wd189 kd_0 dX9_soonest_15 (rv_0_4 w) (by decide) ?_
    refine sm_aload_n C 0 rfl dX9_soonest_18 rfl ?_
    refine sm_getC C fo_9_10 rfl wd58 kd_0 dX9_soonest_19 rfl (fun j_5 hj_5 => ?_)
    refine sm_iload_n C 1 rfl dX9_soonest_22 rfl ?_
    refine sm_cVI (As := [.ref (hB G + j_5), .int x1]) C cfX1_soonestDay wd190 kd_17 rfl rfl rfl rfl rfl dX9_soonest_23 (fun r h => mX1_soonestDay hj_5 h) (fun r_6 => ?_)
    exact sm_iret C E rfl dX9_soonest_26
/-! X1_latestDay -/
set_option maxRecDepth 100000 in
set_option maxHeartbeats 4000000 in
theorem sX1_latestDay_32 {G : Gx} {a : Int32} {w : HW} (C : Cx G cX1_latestDay RX1 7 4 90) (E : Rx G (ρI w) a (some .int)) {k1 : Nat} (hk1 : isC k1 = true) {x4 : Int32} : ∀ (n : Nat) (x5 : Int32) (x6 : Int32), Sm G a 32 [(1, .ref (hB G + k1)), (4, .int x4), (5, .int x5), (6, .int x6)] [] w (fX1_latestDay_32 w k1 x4 n x5 x6) := by
  intro n
  induction n with
  | zero => intro _ _; exact sm_none
  | succ n ih =>
    intro x5 x6
    rw [fX1_latestDay_32]
    refine sm_iload C 3 rfl dX1_latestDay_32 ?_
    refine sm_aload_n C 0 rfl dX1_latestDay_34 rfl ?_
    refine sm_getI C fo_0_1 rfl wd184 (kdC hk1) dX1_latestDay_35 ?_
    refine sm_icmp_ge C dX1_latestDay_38 (tgt := 61) rfl (fun h_7 => ?_) (fun h_7 => ?_)
    · refine sm_iload C 1 rfl dX1_latestDay_41 ?_
      refine sm_iload C 3 rfl dX1_latestDay_43 ?_
      refine sm_cNI (As := [.int x4, .int x6]) C cfX9_holds 13 rfl rfl rfl rfl rfl dX1_latestDay_45 (fun r h => mX9_holds  h) (fun r_8 => ?_)
      refine sm_if_eq C dX1_latestDay_48 (tgt := 55) rfl (fun h_10 => ?_) (fun h_10 => ?_)
      · refine sm_iload C 3 rfl dX1_latestDay_51 ?_
        refine sm_istore (lv1 := [(5, .int x6), (1, .ref (hB G + k1)), (4, .int x4), (6, .int x6)]) C dX1_latestDay_53 rfl rfl ?_
        refine sm_iinc (lv1 := [(6, .int (x6 + 1)), (5, .int x6), (1, .ref (hB G + k1)), (4, .int x4)]) C 3 rfl (iv_1 _) dX1_latestDay_55 rfl rfl ?_
        refine sm_goto C dX1_latestDay_58 (tgt := 32) rfl ?_
        refine sm_sub [2, 3, 1, 0] rfl ?_
        exact ih x6 (x6 + 1)
      · refine sm_iinc (lv1 := [(6, .int (x6 + 1)), (1, .ref (hB G + k1)), (4, .int x4), (5, .int x5)]) C 3 rfl (iv_1 _) dX1_latestDay_55 rfl rfl ?_
        refine sm_goto C dX1_latestDay_58 (tgt := 32) rfl ?_
        refine sm_sub [1, 2, 3, 0] rfl ?_
        exact ih x5 (x6 + 1)
    · refine sm_iload C 2 rfl dX1_latestDay_61 ?_
      exact sm_iret C E rfl dX1_latestDay_63
set_option maxRecDepth 100000 in
set_option maxHeartbeats 4000000 in
theorem mX1_latestDay {b : Bx} {w : HW} {k1 : Nat} {x2 : Int32} (hk1 : isC k1 = true) {a : Int32} (h : fX1_latestDay w k1 x2 = some a) : Mt b yX1_latestDay cX1_latestDay 7 (some .int) 4 90 [.ref (bB b + 17), .ref (bB b + k1), .int x2] w (some (.int a)) w := by
  refine Mt.of (ρI w) h (by decide) (Nat.le_of_ble_eq_true rfl) (fun G hG C E => ?_)
  subst hG
  have C : Cx G cX1_latestDay RX1 7 4 90 := C
  change Sm G a 0 [(0, .ref (hB G + 17)), (1, .ref (hB G + k1)), (2, .int x2)] [] w _
  unfold fX1_latestDay
  refine sm_aload_n C 0 rfl dX1_latestDay_0 rfl ?_
  refine sm_aload_n C 1 rfl dX1_latestDay_1 rfl ?_
  refine sm_iload_n C 2 rfl dX1_latestDay_2 rfl ?_
  refine sm_cVI (As := [.ref (hB G + k1), .int x2]) C cfX1_soonestDay wd191 kd_17 rfl rfl rfl rfl rfl dX1_latestDay_3 (fun r h => mX1_soonestDay hk1 h) (fun r_1 => ?_)
  refine sm_istore_n (lv1 := [(3, .int r_1), (0, .ref (hB G + 17)), (1, .ref (hB G + k1)), (2, .int x2)]) C dX1_latestDay_6 rfl rfl rfl ?_
  refine sm_iload_n C 0 rfl dX1_latestDay_7 rfl ?_
  refine sm_iconst C ic_m1 dX1_latestDay_8 ?_
  refine sm_icmp_ne C dX1_latestDay_9 (tgt := 14) rfl (fun h_3 => ?_) (fun h_3 => ?_)
  · refine sm_iconst C ic_m1 dX1_latestDay_12 ?_
    exact sm_iret C E rfl dX1_latestDay_13
  · refine sm_aload_n C 2 rfl dX1_latestDay_14 rfl ?_
    refine sm_aload_n C 2 rfl dX1_latestDay_15 rfl ?_
    refine sm_getR C fo_0_11 rfl wd180 (kdC hk1) dX1_latestDay_16 (rvC_11 hk1 w) (nzC_4 hk1) ?_
    refine sm_iload_n C 3 rfl dX1_latestDay_19 rfl ?_
    refine sm_iald C (kdC_4 hk1) dX1_latestDay_20 (fun h_4 => ?_)
    refine sm_cVI (As := [.int (gI w (k1 + 4) (ix x2))]) C cfX0_clearDays wd187 (kdC hk1) rfl rfl rfl rfl rfl dX1_latestDay_21 (fun r h => mX0_clearDays hk1 h) (fun r_5 => ?_)
    refine sm_istore (lv1 := [(4, .int r_5), (3, .int r_1), (0, .ref (hB G + 17)), (1, .ref (hB G + k1)), (2, .int x2)]) C dX1_latestDay_24 rfl rfl ?_
    refine sm_iload_n C 1 rfl dX1_latestDay_26 rfl ?_
    refine sm_istore (lv1 := [(5, .int r_1), (4, .int r_5), (3, .int r_1), (0, .ref (hB G + 17)), (1, .ref (hB G + k1)), (2, .int x2)]) C dX1_latestDay_27 rfl rfl ?_
    refine sm_iload_n C 2 rfl dX1_latestDay_29 rfl ?_
    refine sm_istore (lv1 := [(6, .int r_1), (5, .int r_1), (4, .int r_5), (3, .int r_1), (0, .ref (hB G + 17)), (1, .ref (hB G + k1)), (2, .int x2)]) C dX1_latestDay_30 rfl rfl ?_
    refine sm_sub [5, 2, 1, 0] rfl ?_
    exact sX1_latestDay_32 C E hk1 FU r_1 r_1
/-! X9_latest -/
set_option maxRecDepth 100000 in
set_option maxHeartbeats 4000000 in
theorem mX9_latest {b : Bx} {w : HW} {x1 : Int32} {a : Int32} (h : fX9_latest w x1 = some a) : Mt b yX9_latest cX9_latest 2 (some .int) 5 116 [.ref (bB b + 0), .int x1] w (some (.int a)) w := by
  refine Mt.of (ρI w) h (by decide) (Nat.le_of_ble_eq_true rfl) (fun G hG C E => ?_)
  subst hG
  have C : Cx G cX9_latest RX9 2 5 116 := C
  change Sm G a 0 [(0, .ref (hB G + 0)), (1, .int x1)] [] w _
  unfold fX9_latest
  refine sm_aload_n C 0 rfl dX9_latest_0 rfl ?_
  refine sm_getC C fo_9_10 rfl wd58 kd_0 dX9_latest_1 rfl (fun j_1 hj_1 => ?_)
  refine sm_iload_n C 1 rfl dX9_latest_4 rfl ?_
  refine sm_cVI (As := [.int x1]) C cfX0_hasBill wd66 (kdC hj_1) rfl rfl rfl rfl rfl dX9_latest_5 (fun r h => mX0_hasBill hj_1 h) (fun r_2 => ?_)
  refine sm_if_ne C dX9_latest_8 (tgt := 14) rfl (fun h_4 => ?_) (fun h_4 => ?_)
  · refine sm_bipush C bp_m2 dX9_latest_11 ?_
    exact sm_iret C E rfl dX9_latest_13
  · refine sm_aload_n C 0 rfl dX9_latest_14 rfl ?_
    refine sm_getR C fo_9_4 rfl wd189 kd_0 dX9_latest_15 (rv_0_4 w) (by decide) ?_
    refine sm_aload_n C 0 rfl dX9_latest_18 rfl ?_
    refine sm_getC C fo_9_10 rfl wd58 kd_0 dX9_latest_19 rfl (fun j_5 hj_5 => ?_)
    refine sm_iload_n C 1 rfl dX9_latest_22 rfl ?_
    refine sm_cVI (As := [.ref (hB G + j_5), .int x1]) C cfX1_latestDay wd192 kd_17 rfl rfl rfl rfl rfl dX9_latest_23 (fun r h => mX1_latestDay hj_5 h) (fun r_6 => ?_)
    exact sm_iret C E rfl dX9_latest_26
/-! X9_deepest -/
set_option maxRecDepth 100000 in
set_option maxHeartbeats 4000000 in
theorem sX9_deepest_19 {G : Gx} {a : Int32} {w : HW} (C : Cx G cX9_deepest RX9 5 1 28) (E : Rx G (ρI w) a (some .int)) : ∀ (n : Nat) (x1 : Int32) (x2 : Int32) (x3 : Int32), Sm G a 19 [(0, .ref (hB G + 0)), (1, .int x1), (2, .int x2), (3, .int x3)] [] w (fX9_deepest_19 w n x1 x2 x3) := by
  intro n
  induction n with
  | zero => intro _ _ _; exact sm_none
  | succ n ih =>
    intro x1 x2 x3
    rw [fX9_deepest_19]
    refine sm_iload_n C 3 rfl dX9_deepest_19 rfl ?_
    refine sm_aload_n C 0 rfl dX9_deepest_20 rfl ?_
    refine sm_getC C fo_9_10 rfl wd58 kd_0 dX9_deepest_21 rfl (fun j_5 hj_5 => ?_)
    refine sm_getI C fo_0_10 rfl wd120 (kdC hj_5) dX9_deepest_24 ?_
    refine sm_icmp_ge C dX9_deepest_27 (tgt := 60) rfl (fun h_6 => ?_) (fun h_6 => ?_)
    · refine sm_aload_n C 0 rfl dX9_deepest_30 rfl ?_
      refine sm_getC C fo_9_10 rfl wd58 kd_0 dX9_deepest_31 rfl (fun j_7 hj_7 => ?_)
      refine sm_iload_n C 3 rfl dX9_deepest_34 rfl ?_
      refine sm_cVI (As := [.int x3]) C cfX0_needsOf wd193 (kdC hj_7) rfl rfl rfl rfl rfl dX9_deepest_35 (fun r h => mX0_needsOf hj_7 h) (fun r_8 => ?_)
      refine sm_cSI (As := [.int r_8]) C cfJ6_bitCount_0f7a4 wd194 rfl rfl rfl rfl dX9_deepest_38 (fun r h => mJ6_bitCount_0f7a4  h) (fun r_10 => ?_)
      refine sm_istore (lv1 := [(4, .int r_10), (0, .ref (hB G + 0)), (1, .int x1), (2, .int x2), (3, .int x3)]) C dX9_deepest_41 rfl rfl ?_
      refine sm_iload C 0 rfl dX9_deepest_43 ?_
      refine sm_iload_n C 3 rfl dX9_deepest_45 rfl ?_
      refine sm_icmp_le C dX9_deepest_46 (tgt := 54) rfl (fun h_12 => ?_) (fun h_12 => ?_)
      · refine sm_iload C 0 rfl dX9_deepest_49 ?_
        refine sm_istore_n (lv1 := [(2, .int r_10), (4, .int r_10), (0, .ref (hB G + 0)), (1, .int x1), (3, .int x3)]) C dX9_deepest_51 rfl rfl rfl ?_
        refine sm_iload_n C 4 rfl dX9_deepest_52 rfl ?_
        refine sm_istore_n (lv1 := [(1, .int x3), (2, .int r_10), (4, .int r_10), (0, .ref (hB G + 0)), (3, .int x3)]) C dX9_deepest_53 rfl rfl rfl ?_
        refine sm_iinc (lv1 := [(3, .int (x3 + 1)), (1, .int x3), (2, .int r_10), (4, .int r_10), (0, .ref (hB G + 0))]) C 4 rfl (iv_1 _) dX9_deepest_54 rfl rfl ?_
        refine sm_goto C dX9_deepest_57 (tgt := 19) rfl ?_
        refine sm_sub [4, 1, 2, 0] rfl ?_
        exact ih x3 r_10 (x3 + 1)
      · refine sm_iinc (lv1 := [(3, .int (x3 + 1)), (4, .int r_10), (0, .ref (hB G + 0)), (1, .int x1), (2, .int x2)]) C 4 rfl (iv_1 _) dX9_deepest_54 rfl rfl ?_
        refine sm_goto C dX9_deepest_57 (tgt := 19) rfl ?_
        refine sm_sub [2, 3, 4, 0] rfl ?_
        exact ih x1 x2 (x3 + 1)
    · refine sm_iload_n C 1 rfl dX9_deepest_60 rfl ?_
      exact sm_iret C E rfl dX9_deepest_61
set_option maxRecDepth 100000 in
set_option maxHeartbeats 4000000 in
theorem mX9_deepest {b : Bx} {w : HW} {a : Int32} (h : fX9_deepest w = some a) : Mt b yX9_deepest cX9_deepest 5 (some .int) 1 28 [.ref (bB b + 0)] w (some (.int a)) w := by
  refine Mt.of (ρI w) h (by decide) (Nat.le_of_ble_eq_true rfl) (fun G hG C E => ?_)
  subst hG
  have C : Cx G cX9_deepest RX9 5 1 28 := C
  change Sm G a 0 [(0, .ref (hB G + 0))] [] w _
  unfold fX9_deepest
  refine sm_aload_n C 0 rfl dX9_deepest_0 rfl ?_
  refine sm_getC C fo_9_10 rfl wd58 kd_0 dX9_deepest_1 rfl (fun j_1 hj_1 => ?_)
  refine sm_cVI (As := []) C cfX0_isTold wd70 (kdC hj_1) rfl rfl rfl rfl rfl dX9_deepest_4 (fun r h => mX0_isTold hj_1 h) (fun r_2 => ?_)
  refine sm_if_ne C dX9_deepest_7 (tgt := 13) rfl (fun h_4 => ?_) (fun h_4 => ?_)
  · refine sm_bipush C bp_m2 dX9_deepest_10 ?_
    exact sm_iret C E rfl dX9_deepest_12
  · refine sm_iconst C ic_m1 dX9_deepest_13 ?_
    refine sm_istore_n (lv1 := [(1, .int (-1)), (0, .ref (hB G + 0))]) C dX9_deepest_14 rfl rfl rfl ?_
    refine sm_iconst C ic_0 dX9_deepest_15 ?_
    refine sm_istore_n (lv1 := [(2, .int 0), (1, .int (-1)), (0, .ref (hB G + 0))]) C dX9_deepest_16 rfl rfl rfl ?_
    refine sm_iconst C ic_0 dX9_deepest_17 ?_
    refine sm_istore_n (lv1 := [(3, .int 0), (2, .int 0), (1, .int (-1)), (0, .ref (hB G + 0))]) C dX9_deepest_18 rfl rfl rfl ?_
    refine sm_sub [3, 2, 1, 0] rfl ?_
    exact sX9_deepest_19 C E FU (-1) 0 0
/-! X9_worthWithout -/
set_option maxRecDepth 100000 in
set_option maxHeartbeats 4000000 in
theorem mX9_worthWithout {b : Bx} {w : HW} {x1 : Int32} {a : Int32 × HW} (h : fX9_worthWithout w x1 = some a) : Mt b yX9_worthWithout cX9_worthWithout 3 (some .int) 5 126 [.ref (bB b + 0), .int x1] w (some (.int a.1)) a.2 := by
  refine Mt.of ρIW h (by decide) (Nat.le_of_ble_eq_true rfl) (fun G hG C E => ?_)
  subst hG
  have C : Cx G cX9_worthWithout RX9 3 5 126 := C
  change Sm G a 0 [(0, .ref (hB G + 0)), (1, .int x1)] [] w _
  unfold fX9_worthWithout
  refine sm_aload_n C 0 rfl dX9_worthWithout_0 rfl ?_
  refine sm_getC C fo_9_10 rfl wd58 kd_0 dX9_worthWithout_1 rfl (fun j_1 hj_1 => ?_)
  refine sm_aload_n C 0 rfl dX9_worthWithout_4 rfl ?_
  refine sm_getC C fo_9_10 rfl wd58 kd_0 dX9_worthWithout_5 rfl (fun j_2 hj_2 => ?_)
  refine sm_getR C fo_0_11 rfl wd67 (kdC hj_2) dX9_worthWithout_8 (rvC_11 hj_2 w) (nzC_4 hj_2) ?_
  refine sm_iload_n C 1 rfl dX9_worthWithout_11 rfl ?_
  refine sm_iald C (kdC_4 hj_2) dX9_worthWithout_12 (fun h_3 => ?_)
  refine sm_cVI (As := [.int (gI w (j_2 + 4) (ix x1))]) C cfX0_billsOf wd138 (kdC hj_1) rfl rfl rfl rfl rfl dX9_worthWithout_13 (fun r h => mX0_billsOf hj_1 h) (fun r_4 => ?_)
  refine sm_iconst C ic_1 dX9_worthWithout_16 ?_
  refine sm_iload_n C 1 rfl dX9_worthWithout_17 rfl ?_
  refine sm_ishl C dX9_worthWithout_18 ?_
  refine sm_iconst C ic_m1 dX9_worthWithout_19 ?_
  refine sm_ixor C dX9_worthWithout_20 ?_
  refine sm_iand C dX9_worthWithout_21 ?_
  refine sm_let (fun x2_6 => ?_)
  refine sm_istore_n (lv1 := [(2, .int x2_6), (0, .ref (hB G + 0)), (1, .int x1)]) C dX9_worthWithout_22 rfl rfl rfl ?_
  refine sm_aload_n C 1 rfl dX9_worthWithout_23 rfl ?_
  refine sm_iload_n C 0 rfl dX9_worthWithout_24 rfl ?_
  refine sm_aload_n C 1 rfl dX9_worthWithout_25 rfl ?_
  refine sm_getC C fo_9_10 rfl wd58 kd_0 dX9_worthWithout_26 rfl (fun j_7 hj_7 => ?_)
  refine sm_getI C fo_0_5 rfl wd71 (kdC hj_7) dX9_worthWithout_29 ?_
  refine sm_sipush C sp_255 dX9_worthWithout_32 ?_
  refine sm_iconst C ic_0 dX9_worthWithout_35 ?_
  refine sm_cVIW (As := [.int x2_6, .int (gI w j_7 5), .int 255, .int 0]) C cfX9_worthOfPlans wd172 kd_0 rfl rfl rfl rfl rfl dX9_worthWithout_36 (fun r h => mX9_worthOfPlans  h) (fun r_8 w_9 => ?_)
  exact sm_iret C E rfl dX9_worthWithout_39
/-! X9_without -/
set_option maxRecDepth 100000 in
set_option maxHeartbeats 4000000 in
theorem mX9_without {b : Bx} {w : HW} {x1 : Int32} {a : Int32 × HW} (h : fX9_without w x1 = some a) : Mt b yX9_without cX9_without 2 (some .int) 6 148 [.ref (bB b + 0), .int x1] w (some (.int a.1)) a.2 := by
  refine Mt.of ρIW h (by decide) (Nat.le_of_ble_eq_true rfl) (fun G hG C E => ?_)
  subst hG
  have C : Cx G cX9_without RX9 2 6 148 := C
  change Sm G a 0 [(0, .ref (hB G + 0)), (1, .int x1)] [] w _
  unfold fX9_without
  refine sm_aload_n C 0 rfl dX9_without_0 rfl ?_
  refine sm_getC C fo_9_10 rfl wd58 kd_0 dX9_without_1 rfl (fun j_1 hj_1 => ?_)
  refine sm_iload_n C 1 rfl dX9_without_4 rfl ?_
  refine sm_cVI (As := [.int x1]) C cfX0_hasBill wd66 (kdC hj_1) rfl rfl rfl rfl rfl dX9_without_5 (fun r h => mX0_hasBill hj_1 h) (fun r_2 => ?_)
  refine sm_if_eq C dX9_without_8 (tgt := 19) rfl (fun h_4 => ?_) (fun h_4 => ?_)
  · refine sm_aload_n C 0 rfl dX9_without_11 rfl ?_
    refine sm_iload_n C 1 rfl dX9_without_12 rfl ?_
    refine sm_cVIW (As := [.int x1]) C cfX9_worthWithout wd195 kd_0 rfl rfl rfl rfl rfl dX9_without_13 (fun r h => mX9_worthWithout  h) (fun r_5 w_6 => ?_)
    refine sm_goto C dX9_without_16 (tgt := 21) rfl ?_
    exact sm_iret C E rfl dX9_without_21
  · refine sm_bipush C bp_m2 dX9_without_19 ?_
    exact sm_iret C E rfl dX9_without_21
/-! X9_value -/
set_option maxRecDepth 100000 in
set_option maxHeartbeats 4000000 in
theorem mX9_value {b : Bx} {w : HW} {x1 : Int32} {a : Int32 × HW} (h : fX9_value w x1 = some a) : Mt b yX9_value cX9_value 2 (some .int) 6 148 [.ref (bB b + 0), .int x1] w (some (.int a.1)) a.2 := by
  refine Mt.of ρIW h (by decide) (Nat.le_of_ble_eq_true rfl) (fun G hG C E => ?_)
  subst hG
  have C : Cx G cX9_value RX9 2 6 148 := C
  change Sm G a 0 [(0, .ref (hB G + 0)), (1, .int x1)] [] w _
  unfold fX9_value
  refine sm_aload_n C 0 rfl dX9_value_0 rfl ?_
  refine sm_getC C fo_9_10 rfl wd58 kd_0 dX9_value_1 rfl (fun j_1 hj_1 => ?_)
  refine sm_iload_n C 1 rfl dX9_value_4 rfl ?_
  refine sm_cVI (As := [.int x1]) C cfX0_hasBill wd66 (kdC hj_1) rfl rfl rfl rfl rfl dX9_value_5 (fun r h => mX0_hasBill hj_1 h) (fun r_2 => ?_)
  refine sm_if_ne C dX9_value_8 (tgt := 14) rfl (fun h_4 => ?_) (fun h_4 => ?_)
  · refine sm_bipush C bp_m2 dX9_value_11 ?_
    exact sm_iret C E rfl dX9_value_13
  · refine sm_aload_n C 0 rfl dX9_value_14 rfl ?_
    refine sm_aload_n C 0 rfl dX9_value_15 rfl ?_
    refine sm_getC C fo_9_10 rfl wd58 kd_0 dX9_value_16 rfl (fun j_5 hj_5 => ?_)
    refine sm_getR C fo_0_11 rfl wd67 (kdC hj_5) dX9_value_19 (rvC_11 hj_5 w) (nzC_4 hj_5) ?_
    refine sm_iload_n C 1 rfl dX9_value_22 rfl ?_
    refine sm_iald C (kdC_4 hj_5) dX9_value_23 (fun h_6 => ?_)
    refine sm_cVIW (As := [.int (gI w (j_5 + 4) (ix x1))]) C cfX9_worthOfPlan wd173 kd_0 rfl rfl rfl rfl rfl dX9_value_24 (fun r h => mX9_worthOfPlan  h) (fun r_7 w_8 => ?_)
    refine sm_aload_n C 0 rfl dX9_value_27 rfl ?_
    refine sm_iload_n C 1 rfl dX9_value_28 rfl ?_
    refine sm_cVIW (As := [.int x1]) C cfX9_worthWithout wd195 kd_0 rfl rfl rfl rfl rfl dX9_value_29 (fun r h => mX9_worthWithout  h) (fun r_9 w_10 => ?_)
    refine sm_isub C dX9_value_32 ?_
    exact sm_iret C E rfl dX9_value_33
/-! X0_allBills -/
set_option maxRecDepth 100000 in
set_option maxHeartbeats 4000000 in
theorem mX0_allBills {b : Bx} {w : HW} {k0 : Nat} (hk0 : isC k0 = true) {a : Int32} (h : fX0_allBills w k0 = some a) : Mt b yX0_allBills cX0_allBills 1 (some .int) 0 0 [.ref (bB b + k0)] w (some (.int a)) w := by
  refine Mt.of (ρI w) h (by decide) (Nat.le_of_ble_eq_true rfl) (fun G hG C E => ?_)
  subst hG
  have C : Cx G cX0_allBills RX0 1 0 0 := C
  change Sm G a 0 [(0, .ref (hB G + k0))] [] w _
  unfold fX0_allBills
  refine sm_iconst C ic_1 dX0_allBills_0 ?_
  refine sm_aload_n C 0 rfl dX0_allBills_1 rfl ?_
  refine sm_getI C fo_0_10 rfl wd12 (kdC hk0) dX0_allBills_2 ?_
  refine sm_ishl C dX0_allBills_5 ?_
  refine sm_iconst C ic_1 dX0_allBills_6 ?_
  refine sm_isub C dX0_allBills_7 ?_
  exact sm_iret C E rfl dX0_allBills_8
/-! X9_together -/
set_option maxRecDepth 100000 in
set_option maxHeartbeats 4000000 in
theorem mX9_together {b : Bx} {w : HW} {a : Int32 × HW} (h : fX9_together w = some a) : Mt b yX9_together cX9_together 1 (some .int) 5 126 [.ref (bB b + 0)] w (some (.int a.1)) a.2 := by
  refine Mt.of ρIW h (by decide) (Nat.le_of_ble_eq_true rfl) (fun G hG C E => ?_)
  subst hG
  have C : Cx G cX9_together RX9 1 5 126 := C
  change Sm G a 0 [(0, .ref (hB G + 0))] [] w _
  unfold fX9_together
  refine sm_aload_n C 0 rfl dX9_together_0 rfl ?_
  refine sm_getC C fo_9_10 rfl wd58 kd_0 dX9_together_1 rfl (fun j_1 hj_1 => ?_)
  refine sm_cVI (As := []) C cfX0_isTold wd70 (kdC hj_1) rfl rfl rfl rfl rfl dX9_together_4 (fun r h => mX0_isTold hj_1 h) (fun r_2 => ?_)
  refine sm_if_eq C dX9_together_7 (tgt := 35) rfl (fun h_4 => ?_) (fun h_4 => ?_)
  · refine sm_aload_n C 0 rfl dX9_together_10 rfl ?_
    refine sm_aload_n C 0 rfl dX9_together_11 rfl ?_
    refine sm_getC C fo_9_10 rfl wd58 kd_0 dX9_together_12 rfl (fun j_5 hj_5 => ?_)
    refine sm_cVI (As := []) C cfX0_allBills wd196 (kdC hj_5) rfl rfl rfl rfl rfl dX9_together_15 (fun r h => mX0_allBills hj_5 h) (fun r_6 => ?_)
    refine sm_aload_n C 0 rfl dX9_together_18 rfl ?_
    refine sm_getC C fo_9_10 rfl wd58 kd_0 dX9_together_19 rfl (fun j_8 hj_8 => ?_)
    refine sm_getI C fo_0_5 rfl wd71 (kdC hj_8) dX9_together_22 ?_
    refine sm_sipush C sp_255 dX9_together_25 ?_
    refine sm_iconst C ic_0 dX9_together_28 ?_
    refine sm_cVIW (As := [.int r_6, .int (gI w j_8 5), .int 255, .int 0]) C cfX9_worthOfPlans wd172 kd_0 rfl rfl rfl rfl rfl dX9_together_29 (fun r h => mX9_worthOfPlans  h) (fun r_9 w_10 => ?_)
    refine sm_goto C dX9_together_32 (tgt := 37) rfl ?_
    exact sm_iret C E rfl dX9_together_37
  · refine sm_bipush C bp_m2 dX9_together_35 ?_
    exact sm_iret C E rfl dX9_together_37
/-! X1_leastCost -/
set_option maxRecDepth 100000 in
set_option maxHeartbeats 4000000 in
theorem sX1_leastCost_185 {G : Gx} {a : Int32 × HW} (C : Cx G cX1_leastCost RX1 10 3 65) (E : Rx G ρIW a (some .int)) (w : HW) (k1 : Nat) (hk1 : isC k1 = true) (x3 : Int32) : Sm G a 185 [(0, .ref (hB G + 17)), (1, .ref (hB G + k1)), (3, .int x3)] [] w (fX1_leastCost_185 w k1 x3) := by
  unfold fX1_leastCost_185
  refine sm_aload_n C 0 rfl dX1_leastCost_185 rfl ?_
  refine sm_getR C fo_1_0 rfl wd197 kd_17 dX1_leastCost_186 (rv_17_0 w) (by decide) ?_
  refine sm_iload_n C 2 rfl dX1_leastCost_189 rfl ?_
  refine sm_bipush C bp_15 dX1_leastCost_190 ?_
  refine sm_imul C dX1_leastCost_192 ?_
  refine sm_aload_n C 1 rfl dX1_leastCost_193 rfl ?_
  refine sm_cVI (As := []) C cfX0_firstHungryDay wd183 (kdC hk1) rfl rfl rfl rfl rfl dX1_leastCost_194 (fun r h => mX0_firstHungryDay hk1 h) (fun r_24 => ?_)
  refine sm_iadd C dX1_leastCost_197 ?_
  refine sm_iald C kd_18 dX1_leastCost_198 (fun h_26 => ?_)
  exact sm_iret C E rfl dX1_leastCost_199
set_option maxRecDepth 100000 in
set_option maxHeartbeats 4000000 in
theorem sX1_leastCost_161 {G : Gx} {a : Int32 × HW} (C : Cx G cX1_leastCost RX1 10 3 65) (E : Rx G ρIW a (some .int)) {K30 : HW → Int32 → Option (Int32 × HW)} {K50 : HW → Int32 → Option (Int32 × HW)} (w : HW) (k1 : Nat) (hk1 : isC k1 = true) (x3 : Int32) (x4 : Int32) (x5 : Int32) (x6 : Int32) (x7 : Int32) (x8 : Int32) (hK30 : ∀ (w' : HW) (x5' : Int32), Sm G a 53 [(0, .ref (hB G + 17)), (1, .ref (hB G + k1)), (3, .int x3), (4, .int x4), (5, .int (x5'))] [] w' (K30 w' x5')) (hK50 : ∀ (w' : HW) (x7' : Int32), Sm G a 87 [(0, .ref (hB G + 17)), (1, .ref (hB G + k1)), (3, .int x3), (4, .int x4), (5, .int x5), (6, .int x6), (7, .int (x7'))] [] w' (K50 w' x7')) : Sm G a 161 [(0, .ref (hB G + 17)), (1, .ref (hB G + k1)), (3, .int x3), (4, .int x4), (5, .int x5), (6, .int x6), (7, .int x7), (8, .int x8)] [] w (fX1_leastCost_161 w K30 K50 k1 x3 x4 x5 x6 x7 x8) := by
  unfold fX1_leastCost_161
  refine sm_aload_n C 0 rfl dX1_leastCost_161 rfl ?_
  refine sm_getR C fo_1_0 rfl wd197 kd_17 dX1_leastCost_162 (rv_17_0 w) (by decide) ?_
  refine sm_iload C 5 rfl dX1_leastCost_165 ?_
  refine sm_iload C 6 rfl dX1_leastCost_167 ?_
  refine sm_iadd C dX1_leastCost_169 ?_
  refine sm_iload C 7 rfl dX1_leastCost_170 ?_
  refine sm_iast C kd_18 dX1_leastCost_172 (fun h_27 w_28 => ?_)
  refine sm_iinc (lv1 := [(7, .int (x7 + (-1))), (0, .ref (hB G + 17)), (1, .ref (hB G + k1)), (3, .int x3), (4, .int x4), (5, .int x5), (6, .int x6), (8, .int x8)]) C 6 rfl (iv_m1 _) dX1_leastCost_173 rfl rfl ?_
  refine sm_goto C dX1_leastCost_176 (tgt := 87) rfl ?_
  refine sm_sub [1, 2, 3, 4, 5, 6, 0] rfl ?_
  exact hK50 w_28 (x7 + (-1))
set_option maxRecDepth 100000 in
set_option maxHeartbeats 4000000 in
theorem sX1_leastCost_87 {G : Gx} {a : Int32 × HW} (C : Cx G cX1_leastCost RX1 10 3 65) (E : Rx G ρIW a (some .int)) {K30 : HW → Int32 → Option (Int32 × HW)} {k1 : Nat} (hk1 : isC k1 = true) {x3 : Int32} {x4 : Int32} {x5 : Int32} {x6 : Int32} (hK30 : ∀ (w' : HW) (x5' : Int32), Sm G a 53 [(0, .ref (hB G + 17)), (1, .ref (hB G + k1)), (3, .int x3), (4, .int x4), (5, .int (x5'))] [] w' (K30 w' x5')) : ∀ (n : Nat) (w : HW) (x7 : Int32), Sm G a 87 [(0, .ref (hB G + 17)), (1, .ref (hB G + k1)), (3, .int x3), (4, .int x4), (5, .int x5), (6, .int x6), (7, .int x7)] [] w (fX1_leastCost_87 K30 k1 x3 x4 x5 x6 n w x7) := by
  intro n
  induction n with
  | zero => intro _ _; exact sm_none
  | succ n ih =>
    intro w x7
    rw [fX1_leastCost_87]
    refine sm_iload C 6 rfl dX1_leastCost_87 ?_
    refine sm_if_lt C dX1_leastCost_89 (tgt := 179) rfl (fun h_15 => ?_) (fun h_15 => ?_)
    · refine sm_aload_n C 0 rfl dX1_leastCost_92 rfl ?_
      refine sm_getR C fo_1_0 rfl wd197 kd_17 dX1_leastCost_93 (rv_17_0 w) (by decide) ?_
      refine sm_iload C 5 rfl dX1_leastCost_96 ?_
      refine sm_iload C 6 rfl dX1_leastCost_98 ?_
      refine sm_iadd C dX1_leastCost_100 ?_
      refine sm_iconst C ic_1 dX1_leastCost_101 ?_
      refine sm_iadd C dX1_leastCost_102 ?_
      refine sm_iald C kd_18 dX1_leastCost_103 (fun h_16 => ?_)
      refine sm_let (fun x8_17 => ?_)
      refine sm_istore (lv1 := [(8, .int x8_17), (0, .ref (hB G + 17)), (1, .ref (hB G + k1)), (3, .int x3), (4, .int x4), (5, .int x5), (6, .int x6), (7, .int x7)]) C dX1_leastCost_104 rfl rfl ?_
      refine sm_iload C 4 rfl dX1_leastCost_106 ?_
      refine sm_iload C 7 rfl dX1_leastCost_108 ?_
      refine sm_cNI (As := [.int x4, .int x7]) C cfX9_holds 13 rfl rfl rfl rfl rfl dX1_leastCost_110 (fun r h => mX9_holds  h) (fun r_18 => ?_)
      refine sm_if_eq C dX1_leastCost_113 (tgt := 161) rfl (fun h_20 => ?_) (fun h_20 => ?_)
      · refine sm_aload_n C 1 rfl dX1_leastCost_116 rfl ?_
        refine sm_getR C fo_1_0 rfl wd197 kd_17 dX1_leastCost_117 (rv_17_0 w) (by decide) ?_
        refine sm_iload C 6 rfl dX1_leastCost_120 ?_
        refine sm_bipush C bp_15 dX1_leastCost_122 ?_
        refine sm_isub C dX1_leastCost_124 ?_
        refine sm_aload_n C 2 rfl dX1_leastCost_125 rfl ?_
        refine sm_getI C fo_0_1 rfl wd184 (kdC hk1) dX1_leastCost_126 ?_
        refine sm_iload C 7 rfl dX1_leastCost_129 ?_
        refine sm_aload_n C 2 rfl dX1_leastCost_131 rfl ?_
        refine sm_getI C fo_0_3 rfl wd185 (kdC hk1) dX1_leastCost_132 ?_
        refine sm_iadd C dX1_leastCost_135 ?_
        refine sm_min C wd199 min_st math_in min_co rfl dX1_leastCost_136 ?_
        refine sm_iadd C dX1_leastCost_139 ?_
        refine sm_iald C kd_18 dX1_leastCost_140 (fun h_21 => ?_)
        refine sm_let (fun x9_22 => ?_)
        refine sm_istore (lv1 := [(9, .int x9_22), (8, .int x8_17), (0, .ref (hB G + 17)), (1, .ref (hB G + k1)), (3, .int x3), (4, .int x4), (5, .int x5), (6, .int x6), (7, .int x7)]) C dX1_leastCost_141 rfl rfl ?_
        refine sm_iload C 0 rfl dX1_leastCost_143 ?_
        refine sm_iload C 1 rfl dX1_leastCost_145 ?_
        refine sm_sipush C sp_16384 dX1_leastCost_147 ?_
        refine sm_iconst C ic_1 dX1_leastCost_150 ?_
        refine sm_iload C 8 rfl dX1_leastCost_151 ?_
        refine sm_ishl C dX1_leastCost_153 ?_
        refine sm_ior C dX1_leastCost_154 ?_
        refine sm_iadd C dX1_leastCost_155 ?_
        refine sm_min C wd199 min_st math_in min_co rfl dX1_leastCost_156 ?_
        refine sm_let (fun x8_23 => ?_)
        refine sm_istore (lv1 := [(8, .int x8_23), (9, .int x9_22), (0, .ref (hB G + 17)), (1, .ref (hB G + k1)), (3, .int x3), (4, .int x4), (5, .int x5), (6, .int x6), (7, .int x7)]) C dX1_leastCost_159 rfl rfl ?_
        refine sm_sub [2, 3, 4, 5, 6, 7, 8, 0] rfl ?_
        exact sX1_leastCost_161 C E w k1 hk1 x3 x4 x5 x6 x7 x8_23 hK30 (fun w x7 => ih w x7)
      · refine sm_sub [1, 2, 3, 4, 5, 6, 7, 0] rfl ?_
        exact sX1_leastCost_161 C E w k1 hk1 x3 x4 x5 x6 x7 x8_17 hK30 (fun w x7 => ih w x7)
    · refine sm_iinc (lv1 := [(5, .int (x5 + 1)), (0, .ref (hB G + 17)), (1, .ref (hB G + k1)), (3, .int x3), (4, .int x4), (6, .int x6), (7, .int x7)]) C 4 rfl (iv_1 _) dX1_leastCost_179 rfl rfl ?_
      refine sm_goto C dX1_leastCost_182 (tgt := 53) rfl ?_
      refine sm_sub [1, 2, 3, 4, 0] rfl ?_
      exact hK30 w (x5 + 1)
set_option maxRecDepth 100000 in
set_option maxHeartbeats 4000000 in
theorem sX1_leastCost_53 {G : Gx} {a : Int32 × HW} (C : Cx G cX1_leastCost RX1 10 3 65) (E : Rx G ρIW a (some .int)) {k1 : Nat} (hk1 : isC k1 = true) {x3 : Int32} {x4 : Int32} : ∀ (n : Nat) (w : HW) (x5 : Int32), Sm G a 53 [(0, .ref (hB G + 17)), (1, .ref (hB G + k1)), (3, .int x3), (4, .int x4), (5, .int x5)] [] w (fX1_leastCost_53 k1 x3 x4 n w x5) := by
  intro n
  induction n with
  | zero => intro _ _; exact sm_none
  | succ n ih =>
    intro w x5
    rw [fX1_leastCost_53]
    refine sm_iload C 4 rfl dX1_leastCost_53 ?_
    refine sm_iload_n C 2 rfl dX1_leastCost_55 rfl ?_
    refine sm_icmp_gt C dX1_leastCost_56 (tgt := 185) rfl (fun h_10 => ?_) (fun h_10 => ?_)
    · refine sm_iload C 4 rfl dX1_leastCost_59 ?_
      refine sm_bipush C bp_15 dX1_leastCost_61 ?_
      refine sm_imul C dX1_leastCost_63 ?_
      refine sm_let (fun x6_11 => ?_)
      refine sm_istore (lv1 := [(6, .int x6_11), (0, .ref (hB G + 17)), (1, .ref (hB G + k1)), (3, .int x3), (4, .int x4), (5, .int x5)]) C dX1_leastCost_64 rfl rfl ?_
      refine sm_aload_n C 1 rfl dX1_leastCost_66 rfl ?_
      refine sm_getR C fo_1_0 rfl wd197 kd_17 dX1_leastCost_67 (rv_17_0 w) (by decide) ?_
      refine sm_iload C 0 rfl dX1_leastCost_70 ?_
      refine sm_aload_n C 2 rfl dX1_leastCost_72 rfl ?_
      refine sm_getI C fo_0_1 rfl wd184 (kdC hk1) dX1_leastCost_73 ?_
      refine sm_iadd C dX1_leastCost_76 ?_
      refine sm_iconst C ic_0 dX1_leastCost_77 ?_
      refine sm_iast C kd_18 dX1_leastCost_78 (fun h_12 w_13 => ?_)
      refine sm_aload_n C 2 rfl dX1_leastCost_79 rfl ?_
      refine sm_getI C fo_0_1 rfl wd184 (kdC hk1) dX1_leastCost_80 ?_
      refine sm_iconst C ic_1 dX1_leastCost_83 ?_
      refine sm_isub C dX1_leastCost_84 ?_
      refine sm_let (fun x7_14 => ?_)
      refine sm_istore (lv1 := [(7, .int x7_14), (6, .int x6_11), (0, .ref (hB G + 17)), (1, .ref (hB G + k1)), (3, .int x3), (4, .int x4), (5, .int x5)]) C dX1_leastCost_85 rfl rfl ?_
      refine sm_sub [2, 3, 4, 5, 6, 1, 0] rfl ?_
      exact sX1_leastCost_87 C E hk1 (fun w x5 => ih w x5) FU w_13 x7_14
    · refine sm_sub [0, 1, 2] rfl ?_
      exact sX1_leastCost_185 C E w k1 hk1 x3
set_option maxRecDepth 100000 in
set_option maxHeartbeats 4000000 in
theorem sX1_leastCost_28 {G : Gx} {a : Int32 × HW} (C : Cx G cX1_leastCost RX1 10 3 65) (E : Rx G ρIW a (some .int)) {k1 : Nat} (hk1 : isC k1 = true) {x3 : Int32} {x4 : Int32} : ∀ (n : Nat) (w : HW) (x5 : Int32), Sm G a 28 [(0, .ref (hB G + 17)), (1, .ref (hB G + k1)), (3, .int x3), (4, .int x4), (5, .int x5)] [] w (fX1_leastCost_28 k1 x3 x4 n w x5) := by
  intro n
  induction n with
  | zero => intro _ _; exact sm_none
  | succ n ih =>
    intro w x5
    rw [fX1_leastCost_28]
    refine sm_iload C 4 rfl dX1_leastCost_28 ?_
    refine sm_bipush C bp_15 dX1_leastCost_30 ?_
    refine sm_icmp_ge C dX1_leastCost_32 (tgt := 50) rfl (fun h_7 => ?_) (fun h_7 => ?_)
    · refine sm_aload_n C 0 rfl dX1_leastCost_35 rfl ?_
      refine sm_getR C fo_1_0 rfl wd197 kd_17 dX1_leastCost_36 (rv_17_0 w) (by decide) ?_
      refine sm_iload C 4 rfl dX1_leastCost_39 ?_
      refine sm_ldc C wd198 dX1_leastCost_41 ?_
      refine sm_iast C kd_18 dX1_leastCost_43 (fun h_8 w_9 => ?_)
      refine sm_iinc (lv1 := [(5, .int (x5 + 1)), (0, .ref (hB G + 17)), (1, .ref (hB G + k1)), (3, .int x3), (4, .int x4)]) C 4 rfl (iv_1 _) dX1_leastCost_44 rfl rfl ?_
      refine sm_goto C dX1_leastCost_47 (tgt := 28) rfl ?_
      refine sm_sub [1, 2, 3, 4, 0] rfl ?_
      exact ih w_9 (x5 + 1)
    · refine sm_iconst C ic_1 dX1_leastCost_50 ?_
      refine sm_istore (lv1 := [(5, .int 1), (0, .ref (hB G + 17)), (1, .ref (hB G + k1)), (3, .int x3), (4, .int x4)]) C dX1_leastCost_51 rfl rfl ?_
      refine sm_sub [1, 2, 3, 4, 0] rfl ?_
      exact sX1_leastCost_53 C E hk1 FU w 1
set_option maxRecDepth 100000 in
set_option maxHeartbeats 4000000 in
theorem mX1_leastCost {b : Bx} {w : HW} {k1 : Nat} {x2 : Int32} (hk1 : isC k1 = true) {a : Int32 × HW} (h : fX1_leastCost w k1 x2 = some a) : Mt b yX1_leastCost cX1_leastCost 10 (some .int) 3 65 [.ref (bB b + 17), .ref (bB b + k1), .int x2] w (some (.int a.1)) a.2 := by
  refine Mt.of ρIW h (by decide) (Nat.le_of_ble_eq_true rfl) (fun G hG C E => ?_)
  subst hG
  have C : Cx G cX1_leastCost RX1 10 3 65 := C
  change Sm G a 0 [(0, .ref (hB G + 17)), (1, .ref (hB G + k1)), (2, .int x2)] [] w _
  unfold fX1_leastCost
  refine sm_aload_n C 0 rfl dX1_leastCost_0 rfl ?_
  refine sm_aload_n C 1 rfl dX1_leastCost_1 rfl ?_
  refine sm_iload_n C 2 rfl dX1_leastCost_2 rfl ?_
  refine sm_cVI (As := [.ref (hB G + k1), .int x2]) C cfX1_lengthOf wd186 kd_17 rfl rfl rfl rfl rfl dX1_leastCost_3 (fun r h => mX1_lengthOf hk1 h) (fun r_1 => ?_)
  refine sm_istore_n (lv1 := [(3, .int r_1), (0, .ref (hB G + 17)), (1, .ref (hB G + k1)), (2, .int x2)]) C dX1_leastCost_6 rfl rfl rfl ?_
  refine sm_iload_n C 0 rfl dX1_leastCost_7 rfl ?_
  refine sm_if_ne C dX1_leastCost_8 (tgt := 13) rfl (fun h_3 => ?_) (fun h_3 => ?_)
  · refine sm_iconst C ic_0 dX1_leastCost_11 ?_
    exact sm_iret C E rfl dX1_leastCost_12
  · refine sm_aload_n C 2 rfl dX1_leastCost_13 rfl ?_
    refine sm_aload_n C 2 rfl dX1_leastCost_14 rfl ?_
    refine sm_getR C fo_0_11 rfl wd180 (kdC hk1) dX1_leastCost_15 (rvC_11 hk1 w) (nzC_4 hk1) ?_
    refine sm_iload_n C 3 rfl dX1_leastCost_18 rfl ?_
    refine sm_iald C (kdC_4 hk1) dX1_leastCost_19 (fun h_4 => ?_)
    refine sm_cVI (As := [.int (gI w (k1 + 4) (ix x2))]) C cfX0_clearDays wd187 (kdC hk1) rfl rfl rfl rfl rfl dX1_leastCost_20 (fun r h => mX0_clearDays hk1 h) (fun r_5 => ?_)
    refine sm_istore (lv1 := [(4, .int r_5), (3, .int r_1), (0, .ref (hB G + 17)), (1, .ref (hB G + k1)), (2, .int x2)]) C dX1_leastCost_23 rfl rfl ?_
    refine sm_iconst C ic_0 dX1_leastCost_25 ?_
    refine sm_istore (lv1 := [(5, .int 0), (4, .int r_5), (3, .int r_1), (0, .ref (hB G + 17)), (1, .ref (hB G + k1)), (2, .int x2)]) C dX1_leastCost_26 rfl rfl ?_
    refine sm_sub [3, 4, 2, 1, 0] rfl ?_
    exact sX1_leastCost_28 C E hk1 FU w 0
/-! X1_fewestToStop -/
set_option maxRecDepth 100000 in
set_option maxHeartbeats 4000000 in
theorem mX1_fewestToStop {b : Bx} {w : HW} {k1 : Nat} {x2 : Int32} (hk1 : isC k1 = true) {a : Int32 × HW} (h : fX1_fewestToStop w k1 x2 = some a) : Mt b yX1_fewestToStop cX1_fewestToStop 3 (some .int) 4 94 [.ref (bB b + 17), .ref (bB b + k1), .int x2] w (some (.int a.1)) a.2 := by
  refine Mt.of ρIW h (by decide) (Nat.le_of_ble_eq_true rfl) (fun G hG C E => ?_)
  subst hG
  have C : Cx G cX1_fewestToStop RX1 3 4 94 := C
  change Sm G a 0 [(0, .ref (hB G + 17)), (1, .ref (hB G + k1)), (2, .int x2)] [] w _
  unfold fX1_fewestToStop
  refine sm_aload_n C 0 rfl dX1_fewestToStop_0 rfl ?_
  refine sm_aload_n C 1 rfl dX1_fewestToStop_1 rfl ?_
  refine sm_iload_n C 2 rfl dX1_fewestToStop_2 rfl ?_
  refine sm_cVIW (As := [.ref (hB G + k1), .int x2]) C cfX1_leastCost wd200 kd_17 rfl rfl rfl rfl rfl dX1_fewestToStop_3 (fun r h => mX1_leastCost hk1 h) (fun r_1 w_2 => ?_)
  refine sm_bipush C bp_14 dX1_fewestToStop_6 ?_
  refine sm_ishr C dX1_fewestToStop_8 ?_
  exact sm_iret C E rfl dX1_fewestToStop_9
/-! X9_stop -/
set_option maxRecDepth 100000 in
set_option maxHeartbeats 4000000 in
theorem mX9_stop {b : Bx} {w : HW} {x1 : Int32} {a : Int32 × HW} (h : fX9_stop w x1 = some a) : Mt b yX9_stop cX9_stop 2 (some .int) 5 116 [.ref (bB b + 0), .int x1] w (some (.int a.1)) a.2 := by
  refine Mt.of ρIW h (by decide) (Nat.le_of_ble_eq_true rfl) (fun G hG C E => ?_)
  subst hG
  have C : Cx G cX9_stop RX9 2 5 116 := C
  change Sm G a 0 [(0, .ref (hB G + 0)), (1, .int x1)] [] w _
  unfold fX9_stop
  refine sm_aload_n C 0 rfl dX9_stop_0 rfl ?_
  refine sm_getC C fo_9_10 rfl wd58 kd_0 dX9_stop_1 rfl (fun j_1 hj_1 => ?_)
  refine sm_iload_n C 1 rfl dX9_stop_4 rfl ?_
  refine sm_cVI (As := [.int x1]) C cfX0_hasBill wd66 (kdC hj_1) rfl rfl rfl rfl rfl dX9_stop_5 (fun r h => mX0_hasBill hj_1 h) (fun r_2 => ?_)
  refine sm_if_eq C dX9_stop_8 (tgt := 26) rfl (fun h_4 => ?_) (fun h_4 => ?_)
  · refine sm_aload_n C 0 rfl dX9_stop_11 rfl ?_
    refine sm_getR C fo_9_4 rfl wd189 kd_0 dX9_stop_12 (rv_0_4 w) (by decide) ?_
    refine sm_aload_n C 0 rfl dX9_stop_15 rfl ?_
    refine sm_getC C fo_9_10 rfl wd58 kd_0 dX9_stop_16 rfl (fun j_5 hj_5 => ?_)
    refine sm_iload_n C 1 rfl dX9_stop_19 rfl ?_
    refine sm_cVIW (As := [.ref (hB G + j_5), .int x1]) C cfX1_fewestToStop wd201 kd_17 rfl rfl rfl rfl rfl dX9_stop_20 (fun r h => mX1_fewestToStop hj_5 h) (fun r_6 w_7 => ?_)
    refine sm_goto C dX9_stop_23 (tgt := 28) rfl ?_
    exact sm_iret C E rfl dX9_stop_28
  · refine sm_bipush C bp_m2 dX9_stop_26 ?_
    exact sm_iret C E rfl dX9_stop_28
/-! X1_daysToStop -/
set_option maxRecDepth 100000 in
set_option maxHeartbeats 4000000 in
theorem mX1_daysToStop {b : Bx} {w : HW} {k1 : Nat} {x2 : Int32} (hk1 : isC k1 = true) {a : Int32 × HW} (h : fX1_daysToStop w k1 x2 = some a) : Mt b yX1_daysToStop cX1_daysToStop 3 (some .int) 4 94 [.ref (bB b + 17), .ref (bB b + k1), .int x2] w (some (.int a.1)) a.2 := by
  refine Mt.of ρIW h (by decide) (Nat.le_of_ble_eq_true rfl) (fun G hG C E => ?_)
  subst hG
  have C : Cx G cX1_daysToStop RX1 3 4 94 := C
  change Sm G a 0 [(0, .ref (hB G + 17)), (1, .ref (hB G + k1)), (2, .int x2)] [] w _
  unfold fX1_daysToStop
  refine sm_aload_n C 0 rfl dX1_daysToStop_0 rfl ?_
  refine sm_aload_n C 1 rfl dX1_daysToStop_1 rfl ?_
  refine sm_iload_n C 2 rfl dX1_daysToStop_2 rfl ?_
  refine sm_cVIW (As := [.ref (hB G + k1), .int x2]) C cfX1_leastCost wd200 kd_17 rfl rfl rfl rfl rfl dX1_daysToStop_3 (fun r h => mX1_leastCost hk1 h) (fun r_1 w_2 => ?_)
  refine sm_sipush C sp_16383 dX1_daysToStop_6 ?_
  refine sm_iand C dX1_daysToStop_9 ?_
  exact sm_iret C E rfl dX1_daysToStop_10
/-! X9_stops -/
set_option maxRecDepth 100000 in
set_option maxHeartbeats 4000000 in
theorem mX9_stops {b : Bx} {w : HW} {x1 : Int32} {a : Int32 × HW} (h : fX9_stops w x1 = some a) : Mt b yX9_stops cX9_stops 2 (some .int) 5 116 [.ref (bB b + 0), .int x1] w (some (.int a.1)) a.2 := by
  refine Mt.of ρIW h (by decide) (Nat.le_of_ble_eq_true rfl) (fun G hG C E => ?_)
  subst hG
  have C : Cx G cX9_stops RX9 2 5 116 := C
  change Sm G a 0 [(0, .ref (hB G + 0)), (1, .int x1)] [] w _
  unfold fX9_stops
  refine sm_aload_n C 0 rfl dX9_stops_0 rfl ?_
  refine sm_getC C fo_9_10 rfl wd58 kd_0 dX9_stops_1 rfl (fun j_1 hj_1 => ?_)
  refine sm_iload_n C 1 rfl dX9_stops_4 rfl ?_
  refine sm_cVI (As := [.int x1]) C cfX0_hasBill wd66 (kdC hj_1) rfl rfl rfl rfl rfl dX9_stops_5 (fun r h => mX0_hasBill hj_1 h) (fun r_2 => ?_)
  refine sm_if_eq C dX9_stops_8 (tgt := 26) rfl (fun h_4 => ?_) (fun h_4 => ?_)
  · refine sm_aload_n C 0 rfl dX9_stops_11 rfl ?_
    refine sm_getR C fo_9_4 rfl wd189 kd_0 dX9_stops_12 (rv_0_4 w) (by decide) ?_
    refine sm_aload_n C 0 rfl dX9_stops_15 rfl ?_
    refine sm_getC C fo_9_10 rfl wd58 kd_0 dX9_stops_16 rfl (fun j_5 hj_5 => ?_)
    refine sm_iload_n C 1 rfl dX9_stops_19 rfl ?_
    refine sm_cVIW (As := [.ref (hB G + j_5), .int x1]) C cfX1_daysToStop wd202 kd_17 rfl rfl rfl rfl rfl dX9_stops_20 (fun r h => mX1_daysToStop hj_5 h) (fun r_6 w_7 => ?_)
    refine sm_goto C dX9_stops_23 (tgt := 28) rfl ?_
    exact sm_iret C E rfl dX9_stops_28
  · refine sm_bipush C bp_m2 dX9_stops_26 ?_
    exact sm_iret C E rfl dX9_stops_28
/-! X3_daysOfFirstPlan -/
set_option maxRecDepth 100000 in
set_option maxHeartbeats 4000000 in
theorem sX3_daysOfFirstPlan_4 {G : Gx} {a : Int32} {w : HW} (C : Cx G cX3_daysOfFirstPlan RX3 3 3 73) (E : Rx G (ρI w) a (some .int)) : ∀ (n : Nat) (x1 : Int32) (x2 : Int32), Sm G a 4 [(0, .ref (hB G + 11)), (1, .int x1), (2, .int x2)] [] w (fX3_daysOfFirstPlan_4 w n x1 x2) := by
  intro n
  induction n with
  | zero => intro _ _; exact sm_none
  | succ n ih =>
    intro x1 x2
    rw [fX3_daysOfFirstPlan_4]
    refine sm_iload_n C 2 rfl dX3_daysOfFirstPlan_4 rfl ?_
    refine sm_aload_n C 0 rfl dX3_daysOfFirstPlan_5 rfl ?_
    refine sm_getI C fo_3_6 rfl wd149 kd_11 dX3_daysOfFirstPlan_6 ?_
    refine sm_icmp_ge C dX3_daysOfFirstPlan_9 (tgt := 33) rfl (fun h_1 => ?_) (fun h_1 => ?_)
    · refine sm_aload_n C 0 rfl dX3_daysOfFirstPlan_12 rfl ?_
      refine sm_iload_n C 2 rfl dX3_daysOfFirstPlan_13 rfl ?_
      refine sm_cVI (As := [.int x2]) C cfX3_billInFirstPlan wd203 kd_11 rfl rfl rfl rfl rfl dX3_daysOfFirstPlan_14 (fun r h => mX3_billInFirstPlan  h) (fun r_2 => ?_)
      refine sm_iconst C ic_m1 dX3_daysOfFirstPlan_17 ?_
      refine sm_icmp_eq C dX3_daysOfFirstPlan_18 (tgt := 27) rfl (fun h_4 => ?_) (fun h_4 => ?_)
      · refine sm_iload_n C 1 rfl dX3_daysOfFirstPlan_21 rfl ?_
        refine sm_iconst C ic_1 dX3_daysOfFirstPlan_22 ?_
        refine sm_iload_n C 2 rfl dX3_daysOfFirstPlan_23 rfl ?_
        refine sm_ishl C dX3_daysOfFirstPlan_24 ?_
        refine sm_ior C dX3_daysOfFirstPlan_25 ?_
        refine sm_let (fun x1_5 => ?_)
        refine sm_istore_n (lv1 := [(1, .int x1_5), (0, .ref (hB G + 11)), (2, .int x2)]) C dX3_daysOfFirstPlan_26 rfl rfl rfl ?_
        refine sm_iinc (lv1 := [(2, .int (x2 + 1)), (1, .int x1_5), (0, .ref (hB G + 11))]) C 2 rfl (iv_1 _) dX3_daysOfFirstPlan_27 rfl rfl ?_
        refine sm_goto C dX3_daysOfFirstPlan_30 (tgt := 4) rfl ?_
        refine sm_sub [2, 1, 0] rfl ?_
        exact ih x1_5 (x2 + 1)
      · refine sm_iinc (lv1 := [(2, .int (x2 + 1)), (0, .ref (hB G + 11)), (1, .int x1)]) C 2 rfl (iv_1 _) dX3_daysOfFirstPlan_27 rfl rfl ?_
        refine sm_goto C dX3_daysOfFirstPlan_30 (tgt := 4) rfl ?_
        refine sm_sub [1, 2, 0] rfl ?_
        exact ih x1 (x2 + 1)
    · refine sm_iload_n C 1 rfl dX3_daysOfFirstPlan_33 rfl ?_
      exact sm_iret C E rfl dX3_daysOfFirstPlan_34
set_option maxRecDepth 100000 in
set_option maxHeartbeats 4000000 in
theorem mX3_daysOfFirstPlan {b : Bx} {w : HW} {a : Int32} (h : fX3_daysOfFirstPlan w = some a) : Mt b yX3_daysOfFirstPlan cX3_daysOfFirstPlan 3 (some .int) 3 73 [.ref (bB b + 11)] w (some (.int a)) w := by
  refine Mt.of (ρI w) h (by decide) (Nat.le_of_ble_eq_true rfl) (fun G hG C E => ?_)
  subst hG
  have C : Cx G cX3_daysOfFirstPlan RX3 3 3 73 := C
  change Sm G a 0 [(0, .ref (hB G + 11))] [] w _
  unfold fX3_daysOfFirstPlan
  refine sm_iconst C ic_0 dX3_daysOfFirstPlan_0 ?_
  refine sm_istore_n (lv1 := [(1, .int 0), (0, .ref (hB G + 11))]) C dX3_daysOfFirstPlan_1 rfl rfl rfl ?_
  refine sm_iconst C ic_0 dX3_daysOfFirstPlan_2 ?_
  refine sm_istore_n (lv1 := [(2, .int 0), (1, .int 0), (0, .ref (hB G + 11))]) C dX3_daysOfFirstPlan_3 rfl rfl rfl ?_
  refine sm_sub [2, 1, 0] rfl ?_
  exact sX3_daysOfFirstPlan_4 C E FU 0 0
/-! X9_spoilingDay -/
set_option maxRecDepth 100000 in
set_option maxHeartbeats 4000000 in
theorem sX9_spoilingDay_20 {G : Gx} {a : Int32 × HW} (C : Cx G cX9_spoilingDay RX9 7 6 147) (E : Rx G ρIW a (some .int)) {x1 : Int32} {x4 : Int32} : ∀ (n : Nat) (w : HW) (x2 : Int32) (x3 : Int32) (x5 : Int32), Sm G a 20 [(0, .ref (hB G + 0)), (1, .int x1), (2, .int x2), (3, .int x3), (4, .int x4), (5, .int x5)] [] w (fX9_spoilingDay_20 x1 x4 n w x2 x3 x5) := by
  intro n
  induction n with
  | zero => intro _ _ _ _; exact sm_none
  | succ n ih =>
    intro w x2 x3 x5
    rw [fX9_spoilingDay_20]
    refine sm_iload C 5 rfl dX9_spoilingDay_20 ?_
    refine sm_aload_n C 0 rfl dX9_spoilingDay_22 rfl ?_
    refine sm_getC C fo_9_10 rfl wd58 kd_0 dX9_spoilingDay_23 rfl (fun j_5 hj_5 => ?_)
    refine sm_getI C fo_0_1 rfl wd118 (kdC hj_5) dX9_spoilingDay_26 ?_
    refine sm_icmp_ge C dX9_spoilingDay_29 (tgt := 91) rfl (fun h_6 => ?_) (fun h_6 => ?_)
    · refine sm_iload C 4 rfl dX9_spoilingDay_32 ?_
      refine sm_iload C 5 rfl dX9_spoilingDay_34 ?_
      refine sm_cSI (As := [.int x4, .int x5]) C cfX9_holds wd126 rfl rfl rfl rfl dX9_spoilingDay_36 (fun r h => mX9_holds  h) (fun r_7 => ?_)
      refine sm_if_ne C dX9_spoilingDay_39 (tgt := 45) rfl (fun h_9 => ?_) (fun h_9 => ?_)
      · refine sm_goto C dX9_spoilingDay_42 (tgt := 85) rfl ?_
        refine sm_iinc (lv1 := [(5, .int (x5 + 1)), (0, .ref (hB G + 0)), (1, .int x1), (2, .int x2), (3, .int x3), (4, .int x4)]) C 5 rfl (iv_1 _) dX9_spoilingDay_85 rfl rfl ?_
        refine sm_goto C dX9_spoilingDay_88 (tgt := 20) rfl ?_
        refine sm_sub [1, 2, 3, 4, 5, 0] rfl ?_
        exact ih w x2 x3 (x5 + 1)
      · refine sm_aload_n C 0 rfl dX9_spoilingDay_45 rfl ?_
        refine sm_aload_n C 0 rfl dX9_spoilingDay_46 rfl ?_
        refine sm_getC C fo_9_10 rfl wd58 kd_0 dX9_spoilingDay_47 rfl (fun j_10 hj_10 => ?_)
        refine sm_iload_n C 1 rfl dX9_spoilingDay_50 rfl ?_
        refine sm_cVI (As := [.int x1]) C cfX0_billsOf wd138 (kdC hj_10) rfl rfl rfl rfl rfl dX9_spoilingDay_51 (fun r h => mX0_billsOf hj_10 h) (fun r_11 => ?_)
        refine sm_aload_n C 0 rfl dX9_spoilingDay_54 rfl ?_
        refine sm_getC C fo_9_10 rfl wd58 kd_0 dX9_spoilingDay_55 rfl (fun j_13 hj_13 => ?_)
        refine sm_getI C fo_0_5 rfl wd71 (kdC hj_13) dX9_spoilingDay_58 ?_
        refine sm_sipush C sp_255 dX9_spoilingDay_61 ?_
        refine sm_iconst C ic_1 dX9_spoilingDay_64 ?_
        refine sm_iload C 5 rfl dX9_spoilingDay_65 ?_
        refine sm_ishl C dX9_spoilingDay_67 ?_
        refine sm_cVIW (As := [.int r_11, .int (gI w j_13 5), .int 255, .int (iSl 1 x5)]) C cfX9_worthOfPlans wd172 kd_0 rfl rfl rfl rfl rfl dX9_spoilingDay_68 (fun r h => mX9_worthOfPlans  h) (fun r_14 w_15 => ?_)
        refine sm_istore (lv1 := [(6, .int r_14), (0, .ref (hB G + 0)), (1, .int x1), (2, .int x2), (3, .int x3), (4, .int x4), (5, .int x5)]) C dX9_spoilingDay_71 rfl rfl ?_
        refine sm_iload C 0 rfl dX9_spoilingDay_73 ?_
        refine sm_iload_n C 4 rfl dX9_spoilingDay_75 rfl ?_
        refine sm_icmp_ge C dX9_spoilingDay_76 (tgt := 85) rfl (fun h_16 => ?_) (fun h_16 => ?_)
        · refine sm_iload C 0 rfl dX9_spoilingDay_79 ?_
          refine sm_istore_n (lv1 := [(3, .int r_14), (6, .int r_14), (0, .ref (hB G + 0)), (1, .int x1), (2, .int x2), (4, .int x4), (5, .int x5)]) C dX9_spoilingDay_81 rfl rfl rfl ?_
          refine sm_iload C 6 rfl dX9_spoilingDay_82 ?_
          refine sm_istore_n (lv1 := [(2, .int x5), (3, .int r_14), (6, .int r_14), (0, .ref (hB G + 0)), (1, .int x1), (4, .int x4), (5, .int x5)]) C dX9_spoilingDay_84 rfl rfl rfl ?_
          refine sm_iinc (lv1 := [(5, .int (x5 + 1)), (2, .int x5), (3, .int r_14), (6, .int r_14), (0, .ref (hB G + 0)), (1, .int x1), (4, .int x4)]) C 6 rfl (iv_1 _) dX9_spoilingDay_85 rfl rfl ?_
          refine sm_goto C dX9_spoilingDay_88 (tgt := 20) rfl ?_
          refine sm_sub [4, 5, 1, 2, 6, 0] rfl ?_
          exact ih w_15 x5 r_14 (x5 + 1)
        · refine sm_iinc (lv1 := [(5, .int (x5 + 1)), (6, .int r_14), (0, .ref (hB G + 0)), (1, .int x1), (2, .int x2), (3, .int x3), (4, .int x4)]) C 6 rfl (iv_1 _) dX9_spoilingDay_85 rfl rfl ?_
          refine sm_goto C dX9_spoilingDay_88 (tgt := 20) rfl ?_
          refine sm_sub [2, 3, 4, 5, 6, 0] rfl ?_
          exact ih w_15 x2 x3 (x5 + 1)
    · refine sm_iload_n C 2 rfl dX9_spoilingDay_91 rfl ?_
      exact sm_iret C E rfl dX9_spoilingDay_92
set_option maxRecDepth 100000 in
set_option maxHeartbeats 4000000 in
theorem mX9_spoilingDay {b : Bx} {w : HW} {x1 : Int32} {a : Int32 × HW} (h : fX9_spoilingDay w x1 = some a) : Mt b yX9_spoilingDay cX9_spoilingDay 7 (some .int) 6 147 [.ref (bB b + 0), .int x1] w (some (.int a.1)) a.2 := by
  refine Mt.of ρIW h (by decide) (Nat.le_of_ble_eq_true rfl) (fun G hG C E => ?_)
  subst hG
  have C : Cx G cX9_spoilingDay RX9 7 6 147 := C
  change Sm G a 0 [(0, .ref (hB G + 0)), (1, .int x1)] [] w _
  unfold fX9_spoilingDay
  refine sm_iconst C ic_m1 dX9_spoilingDay_0 ?_
  refine sm_istore_n (lv1 := [(2, .int (-1)), (0, .ref (hB G + 0)), (1, .int x1)]) C dX9_spoilingDay_1 rfl rfl rfl ?_
  refine sm_aload_n C 1 rfl dX9_spoilingDay_2 rfl ?_
  refine sm_iload_n C 2 rfl dX9_spoilingDay_3 rfl ?_
  refine sm_cVIW (As := [.int x1]) C cfX9_worthOfPlan wd173 kd_0 rfl rfl rfl rfl rfl dX9_spoilingDay_4 (fun r h => mX9_worthOfPlan  h) (fun r_1 w_2 => ?_)
  refine sm_istore_n (lv1 := [(3, .int r_1), (2, .int (-1)), (0, .ref (hB G + 0)), (1, .int x1)]) C dX9_spoilingDay_7 rfl rfl rfl ?_
  refine sm_aload_n C 2 rfl dX9_spoilingDay_8 rfl ?_
  refine sm_getR C fo_9_3 rfl wd169 kd_0 dX9_spoilingDay_9 (rv_0_3 w_2) (by decide) ?_
  refine sm_cVI (As := []) C cfX3_daysOfFirstPlan wd204 kd_11 rfl rfl rfl rfl rfl dX9_spoilingDay_12 (fun r h => mX3_daysOfFirstPlan  h) (fun r_3 => ?_)
  refine sm_istore (lv1 := [(4, .int r_3), (3, .int r_1), (2, .int (-1)), (0, .ref (hB G + 0)), (1, .int x1)]) C dX9_spoilingDay_15 rfl rfl ?_
  refine sm_iconst C ic_0 dX9_spoilingDay_17 ?_
  refine sm_istore (lv1 := [(5, .int 0), (4, .int r_3), (3, .int r_1), (2, .int (-1)), (0, .ref (hB G + 0)), (1, .int x1)]) C dX9_spoilingDay_18 rfl rfl ?_
  refine sm_sub [4, 5, 3, 2, 1, 0] rfl ?_
  exact sX9_spoilingDay_20 C E FU w_2 (-1) r_1 0
/-! X9_spoil -/
set_option maxRecDepth 100000 in
set_option maxHeartbeats 4000000 in
theorem mX9_spoil {b : Bx} {w : HW} {x1 : Int32} {a : Int32 × HW} (h : fX9_spoil w x1 = some a) : Mt b yX9_spoil cX9_spoil 2 (some .int) 7 173 [.ref (bB b + 0), .int x1] w (some (.int a.1)) a.2 := by
  refine Mt.of ρIW h (by decide) (Nat.le_of_ble_eq_true rfl) (fun G hG C E => ?_)
  subst hG
  have C : Cx G cX9_spoil RX9 2 7 173 := C
  change Sm G a 0 [(0, .ref (hB G + 0)), (1, .int x1)] [] w _
  unfold fX9_spoil
  refine sm_aload_n C 0 rfl dX9_spoil_0 rfl ?_
  refine sm_getC C fo_9_10 rfl wd58 kd_0 dX9_spoil_1 rfl (fun j_1 hj_1 => ?_)
  refine sm_iload_n C 1 rfl dX9_spoil_4 rfl ?_
  refine sm_cVI (As := [.int x1]) C cfX0_hasSide wd77 (kdC hj_1) rfl rfl rfl rfl rfl dX9_spoil_5 (fun r h => mX0_hasSide hj_1 h) (fun r_2 => ?_)
  refine sm_if_eq C dX9_spoil_8 (tgt := 19) rfl (fun h_4 => ?_) (fun h_4 => ?_)
  · refine sm_aload_n C 0 rfl dX9_spoil_11 rfl ?_
    refine sm_iload_n C 1 rfl dX9_spoil_12 rfl ?_
    refine sm_cVIW (As := [.int x1]) C cfX9_spoilingDay wd205 kd_0 rfl rfl rfl rfl rfl dX9_spoil_13 (fun r h => mX9_spoilingDay  h) (fun r_5 w_6 => ?_)
    refine sm_goto C dX9_spoil_16 (tgt := 21) rfl ?_
    exact sm_iret C E rfl dX9_spoil_21
  · refine sm_bipush C bp_m2 dX9_spoil_19 ?_
    exact sm_iret C E rfl dX9_spoil_21
/-! X9_spoilt -/
set_option maxRecDepth 100000 in
set_option maxHeartbeats 4000000 in
theorem mX9_spoilt {b : Bx} {w : HW} {x1 : Int32} {a : Int32 × HW} (h : fX9_spoilt w x1 = some a) : Mt b yX9_spoilt cX9_spoilt 3 (some .int) 7 173 [.ref (bB b + 0), .int x1] w (some (.int a.1)) a.2 := by
  refine Mt.of ρIW h (by decide) (Nat.le_of_ble_eq_true rfl) (fun G hG C E => ?_)
  subst hG
  have C : Cx G cX9_spoilt RX9 3 7 173 := C
  change Sm G a 0 [(0, .ref (hB G + 0)), (1, .int x1)] [] w _
  unfold fX9_spoilt
  refine sm_aload_n C 0 rfl dX9_spoilt_0 rfl ?_
  refine sm_getC C fo_9_10 rfl wd58 kd_0 dX9_spoilt_1 rfl (fun j_1 hj_1 => ?_)
  refine sm_iload_n C 1 rfl dX9_spoilt_4 rfl ?_
  refine sm_cVI (As := [.int x1]) C cfX0_hasSide wd77 (kdC hj_1) rfl rfl rfl rfl rfl dX9_spoilt_5 (fun r h => mX0_hasSide hj_1 h) (fun r_2 => ?_)
  refine sm_if_ne C dX9_spoilt_8 (tgt := 14) rfl (fun h_4 => ?_) (fun h_4 => ?_)
  · refine sm_bipush C bp_m2 dX9_spoilt_11 ?_
    exact sm_iret C E rfl dX9_spoilt_13
  · refine sm_aload_n C 0 rfl dX9_spoilt_14 rfl ?_
    refine sm_iload_n C 1 rfl dX9_spoilt_15 rfl ?_
    refine sm_cVIW (As := [.int x1]) C cfX9_spoilingDay wd205 kd_0 rfl rfl rfl rfl rfl dX9_spoilt_16 (fun r h => mX9_spoilingDay  h) (fun r_5 w_6 => ?_)
    refine sm_istore_n (lv1 := [(2, .int r_5), (0, .ref (hB G + 0)), (1, .int x1)]) C dX9_spoilt_19 rfl rfl rfl ?_
    refine sm_aload_n C 1 rfl dX9_spoilt_20 rfl ?_
    refine sm_aload_n C 1 rfl dX9_spoilt_21 rfl ?_
    refine sm_getC C fo_9_10 rfl wd58 kd_0 dX9_spoilt_22 rfl (fun j_7 hj_7 => ?_)
    refine sm_iload_n C 2 rfl dX9_spoilt_25 rfl ?_
    refine sm_cVI (As := [.int x1]) C cfX0_billsOf wd138 (kdC hj_7) rfl rfl rfl rfl rfl dX9_spoilt_26 (fun r h => mX0_billsOf hj_7 h) (fun r_8 => ?_)
    refine sm_aload_n C 1 rfl dX9_spoilt_29 rfl ?_
    refine sm_getC C fo_9_10 rfl wd58 kd_0 dX9_spoilt_30 rfl (fun j_10 hj_10 => ?_)
    refine sm_getI C fo_0_5 rfl wd71 (kdC hj_10) dX9_spoilt_33 ?_
    refine sm_sipush C sp_255 dX9_spoilt_36 ?_
    refine sm_iload_n C 0 rfl dX9_spoilt_39 rfl ?_
    refine sm_iconst C ic_m1 dX9_spoilt_40 ?_
    refine sm_icmp_ne C dX9_spoilt_41 (tgt := 48) rfl (fun h_11 => ?_) (fun h_11 => ?_)
    · refine sm_iconst C ic_0 dX9_spoilt_44 ?_
      refine sm_goto C dX9_spoilt_45 (tgt := 51) rfl ?_
      refine sm_cVIW (As := [.int r_8, .int (gI w_6 j_10 5), .int 255, .int 0]) C cfX9_worthOfPlans wd172 kd_0 rfl rfl rfl rfl rfl dX9_spoilt_51 (fun r h => mX9_worthOfPlans  h) (fun r_12 w_13 => ?_)
      exact sm_iret C E rfl dX9_spoilt_54
    · refine sm_iconst C ic_1 dX9_spoilt_48 ?_
      refine sm_iload_n C 0 rfl dX9_spoilt_49 rfl ?_
      refine sm_ishl C dX9_spoilt_50 ?_
      refine sm_cVIW (As := [.int r_8, .int (gI w_6 j_10 5), .int 255, .int (iSl 1 r_5)]) C cfX9_worthOfPlans wd172 kd_0 rfl rfl rfl rfl rfl dX9_spoilt_51 (fun r h => mX9_worthOfPlans  h) (fun r_14 w_15 => ?_)
      exact sm_iret C E rfl dX9_spoilt_54
/-! X9_bribe -/
set_option maxRecDepth 100000 in
set_option maxHeartbeats 4000000 in
theorem sX9_bribe_25 {G : Gx} {a : Int32 × HW} (C : Cx G cX9_bribe RX9 6 6 147) (E : Rx G ρIW a (some .int)) {x1 : Int32} : ∀ (n : Nat) (w : HW) (x2 : Int32) (x3 : Int32) (x4 : Int32), Sm G a 25 [(0, .ref (hB G + 0)), (1, .int x1), (2, .int x2), (3, .int x3), (4, .int x4)] [] w (fX9_bribe_25 x1 n w x2 x3 x4) := by
  intro n
  induction n with
  | zero => intro _ _ _ _; exact sm_none
  | succ n ih =>
    intro w x2 x3 x4
    rw [fX9_bribe_25]
    refine sm_iload C 4 rfl dX9_bribe_25 ?_
    refine sm_aload_n C 0 rfl dX9_bribe_27 rfl ?_
    refine sm_getC C fo_9_10 rfl wd58 kd_0 dX9_bribe_28 rfl (fun j_7 hj_7 => ?_)
    refine sm_getI C fo_0_6 rfl wd206 (kdC hj_7) dX9_bribe_31 ?_
    refine sm_icmp_ge C dX9_bribe_34 (tgt := 104) rfl (fun h_8 => ?_) (fun h_8 => ?_)
    · refine sm_aload_n C 0 rfl dX9_bribe_37 rfl ?_
      refine sm_getC C fo_9_10 rfl wd58 kd_0 dX9_bribe_38 rfl (fun j_9 hj_9 => ?_)
      refine sm_getR C fo_0_7 rfl wd63 (kdC hj_9) dX9_bribe_41 (rvC_7 hj_9 w) (nzC_1 hj_9) ?_
      refine sm_iload C 4 rfl dX9_bribe_44 ?_
      refine sm_iald C (kdC_1 hj_9) dX9_bribe_46 (fun h_10 => ?_)
      refine sm_iload_n C 1 rfl dX9_bribe_47 rfl ?_
      refine sm_icmp_ne C dX9_bribe_48 (tgt := 54) rfl (fun h_11 => ?_) (fun h_11 => ?_)
      · refine sm_goto C dX9_bribe_51 (tgt := 98) rfl ?_
        refine sm_iinc (lv1 := [(4, .int (x4 + 1)), (0, .ref (hB G + 0)), (1, .int x1), (2, .int x2), (3, .int x3)]) C 4 rfl (iv_1 _) dX9_bribe_98 rfl rfl ?_
        refine sm_goto C dX9_bribe_101 (tgt := 25) rfl ?_
        refine sm_sub [1, 2, 3, 4, 0] rfl ?_
        exact ih w x2 x3 (x4 + 1)
      · refine sm_aload_n C 0 rfl dX9_bribe_54 rfl ?_
        refine sm_aload_n C 0 rfl dX9_bribe_55 rfl ?_
        refine sm_getC C fo_9_10 rfl wd58 kd_0 dX9_bribe_56 rfl (fun j_12 hj_12 => ?_)
        refine sm_iload_n C 1 rfl dX9_bribe_59 rfl ?_
        refine sm_cVI (As := [.int x1]) C cfX0_billsOf wd138 (kdC hj_12) rfl rfl rfl rfl rfl dX9_bribe_60 (fun r h => mX0_billsOf hj_12 h) (fun r_13 => ?_)
        refine sm_aload_n C 0 rfl dX9_bribe_63 rfl ?_
        refine sm_getC C fo_9_10 rfl wd58 kd_0 dX9_bribe_64 rfl (fun j_15 hj_15 => ?_)
        refine sm_getI C fo_0_5 rfl wd71 (kdC hj_15) dX9_bribe_67 ?_
        refine sm_sipush C sp_255 dX9_bribe_70 ?_
        refine sm_iconst C ic_1 dX9_bribe_73 ?_
        refine sm_iload C 4 rfl dX9_bribe_74 ?_
        refine sm_ishl C dX9_bribe_76 ?_
        refine sm_iconst C ic_m1 dX9_bribe_77 ?_
        refine sm_ixor C dX9_bribe_78 ?_
        refine sm_iand C dX9_bribe_79 ?_
        refine sm_iconst C ic_0 dX9_bribe_80 ?_
        refine sm_cVIW (As := [.int r_13, .int (gI w j_15 5), .int (255 &&& ((iSl 1 x4) ^^^ (-1))), .int 0]) C cfX9_worthOfPlans wd172 kd_0 rfl rfl rfl rfl rfl dX9_bribe_81 (fun r h => mX9_worthOfPlans  h) (fun r_16 w_17 => ?_)
        refine sm_istore (lv1 := [(5, .int r_16), (0, .ref (hB G + 0)), (1, .int x1), (2, .int x2), (3, .int x3), (4, .int x4)]) C dX9_bribe_84 rfl rfl ?_
        refine sm_iload C 0 rfl dX9_bribe_86 ?_
        refine sm_iload_n C 4 rfl dX9_bribe_88 rfl ?_
        refine sm_icmp_le C dX9_bribe_89 (tgt := 98) rfl (fun h_18 => ?_) (fun h_18 => ?_)
        · refine sm_iload C 0 rfl dX9_bribe_92 ?_
          refine sm_istore_n (lv1 := [(3, .int r_16), (5, .int r_16), (0, .ref (hB G + 0)), (1, .int x1), (2, .int x2), (4, .int x4)]) C dX9_bribe_94 rfl rfl rfl ?_
          refine sm_iload C 5 rfl dX9_bribe_95 ?_
          refine sm_istore_n (lv1 := [(2, .int x4), (3, .int r_16), (5, .int r_16), (0, .ref (hB G + 0)), (1, .int x1), (4, .int x4)]) C dX9_bribe_97 rfl rfl rfl ?_
          refine sm_iinc (lv1 := [(4, .int (x4 + 1)), (2, .int x4), (3, .int r_16), (5, .int r_16), (0, .ref (hB G + 0)), (1, .int x1)]) C 5 rfl (iv_1 _) dX9_bribe_98 rfl rfl ?_
          refine sm_goto C dX9_bribe_101 (tgt := 25) rfl ?_
          refine sm_sub [4, 5, 1, 2, 0] rfl ?_
          exact ih w_17 x4 r_16 (x4 + 1)
        · refine sm_iinc (lv1 := [(4, .int (x4 + 1)), (5, .int r_16), (0, .ref (hB G + 0)), (1, .int x1), (2, .int x2), (3, .int x3)]) C 5 rfl (iv_1 _) dX9_bribe_98 rfl rfl ?_
          refine sm_goto C dX9_bribe_101 (tgt := 25) rfl ?_
          refine sm_sub [2, 3, 4, 5, 0] rfl ?_
          exact ih w_17 x2 x3 (x4 + 1)
    · refine sm_iload_n C 2 rfl dX9_bribe_104 rfl ?_
      exact sm_iret C E rfl dX9_bribe_105
set_option maxRecDepth 100000 in
set_option maxHeartbeats 4000000 in
theorem mX9_bribe {b : Bx} {w : HW} {x1 : Int32} {a : Int32 × HW} (h : fX9_bribe w x1 = some a) : Mt b yX9_bribe cX9_bribe 6 (some .int) 6 147 [.ref (bB b + 0), .int x1] w (some (.int a.1)) a.2 := by
  refine Mt.of ρIW h (by decide) (Nat.le_of_ble_eq_true rfl) (fun G hG C E => ?_)
  subst hG
  have C : Cx G cX9_bribe RX9 6 6 147 := C
  change Sm G a 0 [(0, .ref (hB G + 0)), (1, .int x1)] [] w _
  unfold fX9_bribe
  refine sm_aload_n C 0 rfl dX9_bribe_0 rfl ?_
  refine sm_getC C fo_9_10 rfl wd58 kd_0 dX9_bribe_1 rfl (fun j_1 hj_1 => ?_)
  refine sm_iload_n C 1 rfl dX9_bribe_4 rfl ?_
  refine sm_cVI (As := [.int x1]) C cfX0_hasSide wd77 (kdC hj_1) rfl rfl rfl rfl rfl dX9_bribe_5 (fun r h => mX0_hasSide hj_1 h) (fun r_2 => ?_)
  refine sm_if_ne C dX9_bribe_8 (tgt := 14) rfl (fun h_4 => ?_) (fun h_4 => ?_)
  · refine sm_bipush C bp_m2 dX9_bribe_11 ?_
    exact sm_iret C E rfl dX9_bribe_13
  · refine sm_iconst C ic_m1 dX9_bribe_14 ?_
    refine sm_istore_n (lv1 := [(2, .int (-1)), (0, .ref (hB G + 0)), (1, .int x1)]) C dX9_bribe_15 rfl rfl rfl ?_
    refine sm_aload_n C 1 rfl dX9_bribe_16 rfl ?_
    refine sm_iload_n C 2 rfl dX9_bribe_17 rfl ?_
    refine sm_cVIW (As := [.int x1]) C cfX9_worthOfPlan wd173 kd_0 rfl rfl rfl rfl rfl dX9_bribe_18 (fun r h => mX9_worthOfPlan  h) (fun r_5 w_6 => ?_)
    refine sm_istore_n (lv1 := [(3, .int r_5), (2, .int (-1)), (0, .ref (hB G + 0)), (1, .int x1)]) C dX9_bribe_21 rfl rfl rfl ?_
    refine sm_iconst C ic_0 dX9_bribe_22 ?_
    refine sm_istore (lv1 := [(4, .int 0), (3, .int r_5), (2, .int (-1)), (0, .ref (hB G + 0)), (1, .int x1)]) C dX9_bribe_23 rfl rfl ?_
    refine sm_sub [3, 4, 2, 1, 0] rfl ?_
    exact sX9_bribe_25 C E FU w_6 (-1) r_5 0
/-! X9_unmark -/
set_option maxRecDepth 100000 in
set_option maxHeartbeats 4000000 in
theorem sX9_unmark_25 {G : Gx} {a : Int32 × HW} (C : Cx G cX9_unmark RX9 6 6 147) (E : Rx G ρIW a (some .int)) {x1 : Int32} : ∀ (n : Nat) (w : HW) (x2 : Int32) (x3 : Int32) (x4 : Int32), Sm G a 25 [(0, .ref (hB G + 0)), (1, .int x1), (2, .int x2), (3, .int x3), (4, .int x4)] [] w (fX9_unmark_25 x1 n w x2 x3 x4) := by
  intro n
  induction n with
  | zero => intro _ _ _ _; exact sm_none
  | succ n ih =>
    intro w x2 x3 x4
    rw [fX9_unmark_25]
    refine sm_iload C 4 rfl dX9_unmark_25 ?_
    refine sm_aload_n C 0 rfl dX9_unmark_27 rfl ?_
    refine sm_getC C fo_9_10 rfl wd58 kd_0 dX9_unmark_28 rfl (fun j_7 hj_7 => ?_)
    refine sm_getI C fo_0_1 rfl wd118 (kdC hj_7) dX9_unmark_31 ?_
    refine sm_icmp_ge C dX9_unmark_34 (tgt := 105) rfl (fun h_8 => ?_) (fun h_8 => ?_)
    · refine sm_aload_n C 0 rfl dX9_unmark_37 rfl ?_
      refine sm_getC C fo_9_10 rfl wd58 kd_0 dX9_unmark_38 rfl (fun j_9 hj_9 => ?_)
      refine sm_getI C fo_0_5 rfl wd71 (kdC hj_9) dX9_unmark_41 ?_
      refine sm_iload C 4 rfl dX9_unmark_44 ?_
      refine sm_cSI (As := [.int (gI w j_9 5), .int x4]) C cfX9_holds wd126 rfl rfl rfl rfl dX9_unmark_46 (fun r h => mX9_holds  h) (fun r_10 => ?_)
      refine sm_if_ne C dX9_unmark_49 (tgt := 55) rfl (fun h_12 => ?_) (fun h_12 => ?_)
      · refine sm_goto C dX9_unmark_52 (tgt := 99) rfl ?_
        refine sm_iinc (lv1 := [(4, .int (x4 + 1)), (0, .ref (hB G + 0)), (1, .int x1), (2, .int x2), (3, .int x3)]) C 4 rfl (iv_1 _) dX9_unmark_99 rfl rfl ?_
        refine sm_goto C dX9_unmark_102 (tgt := 25) rfl ?_
        refine sm_sub [1, 2, 3, 4, 0] rfl ?_
        exact ih w x2 x3 (x4 + 1)
      · refine sm_aload_n C 0 rfl dX9_unmark_55 rfl ?_
        refine sm_aload_n C 0 rfl dX9_unmark_56 rfl ?_
        refine sm_getC C fo_9_10 rfl wd58 kd_0 dX9_unmark_57 rfl (fun j_13 hj_13 => ?_)
        refine sm_iload_n C 1 rfl dX9_unmark_60 rfl ?_
        refine sm_cVI (As := [.int x1]) C cfX0_billsOf wd138 (kdC hj_13) rfl rfl rfl rfl rfl dX9_unmark_61 (fun r h => mX0_billsOf hj_13 h) (fun r_14 => ?_)
        refine sm_aload_n C 0 rfl dX9_unmark_64 rfl ?_
        refine sm_getC C fo_9_10 rfl wd58 kd_0 dX9_unmark_65 rfl (fun j_16 hj_16 => ?_)
        refine sm_getI C fo_0_5 rfl wd71 (kdC hj_16) dX9_unmark_68 ?_
        refine sm_iconst C ic_1 dX9_unmark_71 ?_
        refine sm_iload C 4 rfl dX9_unmark_72 ?_
        refine sm_ishl C dX9_unmark_74 ?_
        refine sm_iconst C ic_m1 dX9_unmark_75 ?_
        refine sm_ixor C dX9_unmark_76 ?_
        refine sm_iand C dX9_unmark_77 ?_
        refine sm_sipush C sp_255 dX9_unmark_78 ?_
        refine sm_iconst C ic_0 dX9_unmark_81 ?_
        refine sm_cVIW (As := [.int r_14, .int ((gI w j_16 5) &&& ((iSl 1 x4) ^^^ (-1))), .int 255, .int 0]) C cfX9_worthOfPlans wd172 kd_0 rfl rfl rfl rfl rfl dX9_unmark_82 (fun r h => mX9_worthOfPlans  h) (fun r_17 w_18 => ?_)
        refine sm_istore (lv1 := [(5, .int r_17), (0, .ref (hB G + 0)), (1, .int x1), (2, .int x2), (3, .int x3), (4, .int x4)]) C dX9_unmark_85 rfl rfl ?_
        refine sm_iload C 0 rfl dX9_unmark_87 ?_
        refine sm_iload_n C 4 rfl dX9_unmark_89 rfl ?_
        refine sm_icmp_le C dX9_unmark_90 (tgt := 99) rfl (fun h_19 => ?_) (fun h_19 => ?_)
        · refine sm_iload C 0 rfl dX9_unmark_93 ?_
          refine sm_istore_n (lv1 := [(3, .int r_17), (5, .int r_17), (0, .ref (hB G + 0)), (1, .int x1), (2, .int x2), (4, .int x4)]) C dX9_unmark_95 rfl rfl rfl ?_
          refine sm_iload C 5 rfl dX9_unmark_96 ?_
          refine sm_istore_n (lv1 := [(2, .int x4), (3, .int r_17), (5, .int r_17), (0, .ref (hB G + 0)), (1, .int x1), (4, .int x4)]) C dX9_unmark_98 rfl rfl rfl ?_
          refine sm_iinc (lv1 := [(4, .int (x4 + 1)), (2, .int x4), (3, .int r_17), (5, .int r_17), (0, .ref (hB G + 0)), (1, .int x1)]) C 5 rfl (iv_1 _) dX9_unmark_99 rfl rfl ?_
          refine sm_goto C dX9_unmark_102 (tgt := 25) rfl ?_
          refine sm_sub [4, 5, 1, 2, 0] rfl ?_
          exact ih w_18 x4 r_17 (x4 + 1)
        · refine sm_iinc (lv1 := [(4, .int (x4 + 1)), (5, .int r_17), (0, .ref (hB G + 0)), (1, .int x1), (2, .int x2), (3, .int x3)]) C 5 rfl (iv_1 _) dX9_unmark_99 rfl rfl ?_
          refine sm_goto C dX9_unmark_102 (tgt := 25) rfl ?_
          refine sm_sub [2, 3, 4, 5, 0] rfl ?_
          exact ih w_18 x2 x3 (x4 + 1)
    · refine sm_iload_n C 2 rfl dX9_unmark_105 rfl ?_
      exact sm_iret C E rfl dX9_unmark_106
set_option maxRecDepth 100000 in
set_option maxHeartbeats 4000000 in
theorem mX9_unmark {b : Bx} {w : HW} {x1 : Int32} {a : Int32 × HW} (h : fX9_unmark w x1 = some a) : Mt b yX9_unmark cX9_unmark 6 (some .int) 6 147 [.ref (bB b + 0), .int x1] w (some (.int a.1)) a.2 := by
  refine Mt.of ρIW h (by decide) (Nat.le_of_ble_eq_true rfl) (fun G hG C E => ?_)
  subst hG
  have C : Cx G cX9_unmark RX9 6 6 147 := C
  change Sm G a 0 [(0, .ref (hB G + 0)), (1, .int x1)] [] w _
  unfold fX9_unmark
  refine sm_aload_n C 0 rfl dX9_unmark_0 rfl ?_
  refine sm_getC C fo_9_10 rfl wd58 kd_0 dX9_unmark_1 rfl (fun j_1 hj_1 => ?_)
  refine sm_iload_n C 1 rfl dX9_unmark_4 rfl ?_
  refine sm_cVI (As := [.int x1]) C cfX0_hasSide wd77 (kdC hj_1) rfl rfl rfl rfl rfl dX9_unmark_5 (fun r h => mX0_hasSide hj_1 h) (fun r_2 => ?_)
  refine sm_if_ne C dX9_unmark_8 (tgt := 14) rfl (fun h_4 => ?_) (fun h_4 => ?_)
  · refine sm_bipush C bp_m2 dX9_unmark_11 ?_
    exact sm_iret C E rfl dX9_unmark_13
  · refine sm_iconst C ic_m1 dX9_unmark_14 ?_
    refine sm_istore_n (lv1 := [(2, .int (-1)), (0, .ref (hB G + 0)), (1, .int x1)]) C dX9_unmark_15 rfl rfl rfl ?_
    refine sm_aload_n C 1 rfl dX9_unmark_16 rfl ?_
    refine sm_iload_n C 2 rfl dX9_unmark_17 rfl ?_
    refine sm_cVIW (As := [.int x1]) C cfX9_worthOfPlan wd173 kd_0 rfl rfl rfl rfl rfl dX9_unmark_18 (fun r h => mX9_worthOfPlan  h) (fun r_5 w_6 => ?_)
    refine sm_istore_n (lv1 := [(3, .int r_5), (2, .int (-1)), (0, .ref (hB G + 0)), (1, .int x1)]) C dX9_unmark_21 rfl rfl rfl ?_
    refine sm_iconst C ic_0 dX9_unmark_22 ?_
    refine sm_istore (lv1 := [(4, .int 0), (3, .int r_5), (2, .int (-1)), (0, .ref (hB G + 0)), (1, .int x1)]) C dX9_unmark_23 rfl rfl ?_
    refine sm_sub [3, 4, 2, 1, 0] rfl ?_
    exact sX9_unmark_25 C E FU w_6 (-1) r_5 0
/-! X9_fewestAugurs -/
set_option maxRecDepth 100000 in
set_option maxHeartbeats 4000000 in
theorem sX9_fewestAugurs_24 {G : Gx} {a : Int32} {w : HW} (C : Cx G cX9_fewestAugurs RX9 6 2 44) (E : Rx G (ρI w) a (some .int)) {x2 : Int32} {x3 : Int32} : ∀ (n : Nat) (x4 : Int32) (x5 : Int32), Sm G a 24 [(0, .ref (hB G + 0)), (2, .int x2), (3, .int x3), (4, .int x4), (5, .int x5)] [] w (fX9_fewestAugurs_24 w x2 x3 n x4 x5) := by
  intro n
  induction n with
  | zero => intro _ _; exact sm_none
  | succ n ih =>
    intro x4 x5
    rw [fX9_fewestAugurs_24]
    refine sm_iload C 4 rfl dX9_fewestAugurs_24 ?_
    refine sm_iload_n C 1 rfl dX9_fewestAugurs_26 rfl ?_
    refine sm_icmp_ge C dX9_fewestAugurs_27 (tgt := 75) rfl (fun h_7 => ?_) (fun h_7 => ?_)
    · refine sm_iload C 4 rfl dX9_fewestAugurs_30 ?_
      refine sm_iload_n C 1 rfl dX9_fewestAugurs_32 rfl ?_
      refine sm_iand C dX9_fewestAugurs_33 ?_
      refine sm_iload C 4 rfl dX9_fewestAugurs_34 ?_
      refine sm_icmp_ne C dX9_fewestAugurs_36 (tgt := 69) rfl (fun h_8 => ?_) (fun h_8 => ?_)
      · refine sm_iload C 4 rfl dX9_fewestAugurs_39 ?_
        refine sm_cSI (As := [.int x5]) C cfJ6_bitCount_0f7a4 wd194 rfl rfl rfl rfl dX9_fewestAugurs_41 (fun r h => mJ6_bitCount_0f7a4  h) (fun r_9 => ?_)
        refine sm_iload C 3 rfl dX9_fewestAugurs_44 ?_
        refine sm_cSI (As := [.int x4]) C cfJ6_bitCount_0f7a4 wd194 rfl rfl rfl rfl dX9_fewestAugurs_46 (fun r h => mJ6_bitCount_0f7a4  h) (fun r_11 => ?_)
        refine sm_icmp_ge C dX9_fewestAugurs_49 (tgt := 69) rfl (fun h_13 => ?_) (fun h_13 => ?_)
        · refine sm_aload_n C 0 rfl dX9_fewestAugurs_52 rfl ?_
          refine sm_getC C fo_9_10 rfl wd58 kd_0 dX9_fewestAugurs_53 rfl (fun j_14 hj_14 => ?_)
          refine sm_iload C 4 rfl dX9_fewestAugurs_56 ?_
          refine sm_cVI (As := [.int x5]) C cfX0_skyOf wd79 (kdC hj_14) rfl rfl rfl rfl rfl dX9_fewestAugurs_58 (fun r h => mX0_skyOf hj_14 h) (fun r_15 => ?_)
          refine sm_iload_n C 2 rfl dX9_fewestAugurs_61 rfl ?_
          refine sm_icmp_ne C dX9_fewestAugurs_62 (tgt := 69) rfl (fun h_17 => ?_) (fun h_17 => ?_)
          · refine sm_iload C 4 rfl dX9_fewestAugurs_65 ?_
            refine sm_istore (lv1 := [(4, .int x5), (0, .ref (hB G + 0)), (2, .int x2), (3, .int x3), (5, .int x5)]) C dX9_fewestAugurs_67 rfl rfl ?_
            refine sm_iinc (lv1 := [(5, .int (x5 + 1)), (4, .int x5), (0, .ref (hB G + 0)), (2, .int x2), (3, .int x3)]) C 4 rfl (iv_1 _) dX9_fewestAugurs_69 rfl rfl ?_
            refine sm_goto C dX9_fewestAugurs_72 (tgt := 24) rfl ?_
            refine sm_sub [2, 3, 4, 1, 0] rfl ?_
            exact ih x5 (x5 + 1)
          · refine sm_iinc (lv1 := [(5, .int (x5 + 1)), (0, .ref (hB G + 0)), (2, .int x2), (3, .int x3), (4, .int x4)]) C 4 rfl (iv_1 _) dX9_fewestAugurs_69 rfl rfl ?_
            refine sm_goto C dX9_fewestAugurs_72 (tgt := 24) rfl ?_
            refine sm_sub [1, 2, 3, 4, 0] rfl ?_
            exact ih x4 (x5 + 1)
        · refine sm_iinc (lv1 := [(5, .int (x5 + 1)), (0, .ref (hB G + 0)), (2, .int x2), (3, .int x3), (4, .int x4)]) C 4 rfl (iv_1 _) dX9_fewestAugurs_69 rfl rfl ?_
          refine sm_goto C dX9_fewestAugurs_72 (tgt := 24) rfl ?_
          refine sm_sub [1, 2, 3, 4, 0] rfl ?_
          exact ih x4 (x5 + 1)
      · refine sm_iinc (lv1 := [(5, .int (x5 + 1)), (0, .ref (hB G + 0)), (2, .int x2), (3, .int x3), (4, .int x4)]) C 4 rfl (iv_1 _) dX9_fewestAugurs_69 rfl rfl ?_
        refine sm_goto C dX9_fewestAugurs_72 (tgt := 24) rfl ?_
        refine sm_sub [1, 2, 3, 4, 0] rfl ?_
        exact ih x4 (x5 + 1)
    · refine sm_iload C 3 rfl dX9_fewestAugurs_75 ?_
      exact sm_iret C E rfl dX9_fewestAugurs_77
set_option maxRecDepth 100000 in
set_option maxHeartbeats 4000000 in
theorem mX9_fewestAugurs {b : Bx} {w : HW} {x1 : Int32} {a : Int32} (h : fX9_fewestAugurs w x1 = some a) : Mt b yX9_fewestAugurs cX9_fewestAugurs 6 (some .int) 2 44 [.ref (bB b + 0), .int x1] w (some (.int a)) w := by
  refine Mt.of (ρI w) h (by decide) (Nat.le_of_ble_eq_true rfl) (fun G hG C E => ?_)
  subst hG
  have C : Cx G cX9_fewestAugurs RX9 6 2 44 := C
  change Sm G a 0 [(0, .ref (hB G + 0)), (1, .int x1)] [] w _
  unfold fX9_fewestAugurs
  refine sm_aload_n C 0 rfl dX9_fewestAugurs_0 rfl ?_
  refine sm_getC C fo_9_10 rfl wd58 kd_0 dX9_fewestAugurs_1 rfl (fun j_1 hj_1 => ?_)
  refine sm_iload_n C 1 rfl dX9_fewestAugurs_4 rfl ?_
  refine sm_cVI (As := [.int x1]) C cfX0_augursOf wd78 (kdC hj_1) rfl rfl rfl rfl rfl dX9_fewestAugurs_5 (fun r h => mX0_augursOf hj_1 h) (fun r_2 => ?_)
  refine sm_istore_n (lv1 := [(2, .int r_2), (0, .ref (hB G + 0)), (1, .int x1)]) C dX9_fewestAugurs_8 rfl rfl rfl ?_
  refine sm_aload_n C 1 rfl dX9_fewestAugurs_9 rfl ?_
  refine sm_getC C fo_9_10 rfl wd58 kd_0 dX9_fewestAugurs_10 rfl (fun j_4 hj_4 => ?_)
  refine sm_iload_n C 0 rfl dX9_fewestAugurs_13 rfl ?_
  refine sm_cVI (As := [.int r_2]) C cfX0_skyOf wd79 (kdC hj_4) rfl rfl rfl rfl rfl dX9_fewestAugurs_14 (fun r h => mX0_skyOf hj_4 h) (fun r_5 => ?_)
  refine sm_istore_n (lv1 := [(3, .int r_5), (2, .int r_2), (0, .ref (hB G + 0)), (1, .int x1)]) C dX9_fewestAugurs_17 rfl rfl rfl ?_
  refine sm_iload_n C 1 rfl dX9_fewestAugurs_18 rfl ?_
  refine sm_istore (lv1 := [(4, .int r_2), (3, .int r_5), (2, .int r_2), (0, .ref (hB G + 0)), (1, .int x1)]) C dX9_fewestAugurs_19 rfl rfl ?_
  refine sm_iconst C ic_0 dX9_fewestAugurs_21 ?_
  refine sm_istore (lv1 := [(5, .int 0), (4, .int r_2), (3, .int r_5), (2, .int r_2), (0, .ref (hB G + 0)), (1, .int x1)]) C dX9_fewestAugurs_22 rfl rfl ?_
  refine sm_sub [4, 3, 2, 1, 0] rfl ?_
  exact sX9_fewestAugurs_24 C E FU r_2 0
/-! X9_college -/
set_option maxRecDepth 100000 in
set_option maxHeartbeats 4000000 in
theorem mX9_college {b : Bx} {w : HW} {x1 : Int32} {a : Int32} (h : fX9_college w x1 = some a) : Mt b yX9_college cX9_college 2 (some .int) 3 69 [.ref (bB b + 0), .int x1] w (some (.int a)) w := by
  refine Mt.of (ρI w) h (by decide) (Nat.le_of_ble_eq_true rfl) (fun G hG C E => ?_)
  subst hG
  have C : Cx G cX9_college RX9 2 3 69 := C
  change Sm G a 0 [(0, .ref (hB G + 0)), (1, .int x1)] [] w _
  unfold fX9_college
  refine sm_aload_n C 0 rfl dX9_college_0 rfl ?_
  refine sm_getC C fo_9_10 rfl wd58 kd_0 dX9_college_1 rfl (fun j_1 hj_1 => ?_)
  refine sm_iload_n C 1 rfl dX9_college_4 rfl ?_
  refine sm_cVI (As := [.int x1]) C cfX0_hasSide wd77 (kdC hj_1) rfl rfl rfl rfl rfl dX9_college_5 (fun r h => mX0_hasSide hj_1 h) (fun r_2 => ?_)
  refine sm_if_eq C dX9_college_8 (tgt := 22) rfl (fun h_4 => ?_) (fun h_4 => ?_)
  · refine sm_aload_n C 0 rfl dX9_college_11 rfl ?_
    refine sm_iload_n C 1 rfl dX9_college_12 rfl ?_
    refine sm_cVI (As := [.int x1]) C cfX9_fewestAugurs wd207 kd_0 rfl rfl rfl rfl rfl dX9_college_13 (fun r h => mX9_fewestAugurs  h) (fun r_5 => ?_)
    refine sm_cSI (As := [.int r_5]) C cfJ6_bitCount_0f7a4 wd194 rfl rfl rfl rfl dX9_college_16 (fun r h => mJ6_bitCount_0f7a4  h) (fun r_7 => ?_)
    refine sm_goto C dX9_college_19 (tgt := 24) rfl ?_
    exact sm_iret C E rfl dX9_college_24
  · refine sm_bipush C bp_m2 dX9_college_22 ?_
    exact sm_iret C E rfl dX9_college_24
/-! X9_chosen -/
set_option maxRecDepth 100000 in
set_option maxHeartbeats 4000000 in
theorem mX9_chosen {b : Bx} {w : HW} {x1 : Int32} {a : Int32} (h : fX9_chosen w x1 = some a) : Mt b yX9_chosen cX9_chosen 2 (some .int) 3 69 [.ref (bB b + 0), .int x1] w (some (.int a)) w := by
  refine Mt.of (ρI w) h (by decide) (Nat.le_of_ble_eq_true rfl) (fun G hG C E => ?_)
  subst hG
  have C : Cx G cX9_chosen RX9 2 3 69 := C
  change Sm G a 0 [(0, .ref (hB G + 0)), (1, .int x1)] [] w _
  unfold fX9_chosen
  refine sm_aload_n C 0 rfl dX9_chosen_0 rfl ?_
  refine sm_getC C fo_9_10 rfl wd58 kd_0 dX9_chosen_1 rfl (fun j_1 hj_1 => ?_)
  refine sm_iload_n C 1 rfl dX9_chosen_4 rfl ?_
  refine sm_cVI (As := [.int x1]) C cfX0_hasSide wd77 (kdC hj_1) rfl rfl rfl rfl rfl dX9_chosen_5 (fun r h => mX0_hasSide hj_1 h) (fun r_2 => ?_)
  refine sm_if_eq C dX9_chosen_8 (tgt := 19) rfl (fun h_4 => ?_) (fun h_4 => ?_)
  · refine sm_aload_n C 0 rfl dX9_chosen_11 rfl ?_
    refine sm_iload_n C 1 rfl dX9_chosen_12 rfl ?_
    refine sm_cVI (As := [.int x1]) C cfX9_fewestAugurs wd207 kd_0 rfl rfl rfl rfl rfl dX9_chosen_13 (fun r h => mX9_fewestAugurs  h) (fun r_5 => ?_)
    refine sm_goto C dX9_chosen_16 (tgt := 21) rfl ?_
    exact sm_iret C E rfl dX9_chosen_21
  · refine sm_bipush C bp_m2 dX9_chosen_19 ?_
    exact sm_iret C E rfl dX9_chosen_21
/-! X9_hold -/
set_option maxRecDepth 100000 in
set_option maxHeartbeats 4000000 in
theorem sX9_hold_39 {G : Gx} {a : Int32} {w : HW} (C : Cx G cX9_hold RX9 6 2 44) (E : Rx G (ρI w) a (some .int)) {x2 : Int32} {x3 : Int32} : ∀ (n : Nat) (x4 : Int32) (x5 : Int32), Sm G a 39 [(0, .ref (hB G + 0)), (2, .int x2), (3, .int x3), (4, .int x4), (5, .int x5)] [] w (fX9_hold_39 w x2 x3 n x4 x5) := by
  intro n
  induction n with
  | zero => intro _ _; exact sm_none
  | succ n ih =>
    intro x4 x5
    rw [fX9_hold_39]
    refine sm_iload C 4 rfl dX9_hold_39 ?_
    refine sm_sipush C sp_256 dX9_hold_41 ?_
    refine sm_icmp_ge C dX9_hold_44 (tgt := 90) rfl (fun h_10 => ?_) (fun h_10 => ?_)
    · refine sm_iload C 4 rfl dX9_hold_47 ?_
      refine sm_iload_n C 2 rfl dX9_hold_49 rfl ?_
      refine sm_iand C dX9_hold_50 ?_
      refine sm_iload C 4 rfl dX9_hold_51 ?_
      refine sm_icmp_ne C dX9_hold_53 (tgt := 84) rfl (fun h_11 => ?_) (fun h_11 => ?_)
      · refine sm_iload C 4 rfl dX9_hold_56 ?_
        refine sm_cSI (As := [.int x5]) C cfJ6_bitCount_0f7a4 wd194 rfl rfl rfl rfl dX9_hold_58 (fun r h => mJ6_bitCount_0f7a4  h) (fun r_12 => ?_)
        refine sm_iload_n C 1 rfl dX9_hold_61 rfl ?_
        refine sm_icmp_gt C dX9_hold_62 (tgt := 84) rfl (fun h_14 => ?_) (fun h_14 => ?_)
        · refine sm_iload C 3 rfl dX9_hold_65 ?_
          refine sm_aload_n C 0 rfl dX9_hold_67 rfl ?_
          refine sm_getC C fo_9_10 rfl wd58 kd_0 dX9_hold_68 rfl (fun j_15 hj_15 => ?_)
          refine sm_iload C 4 rfl dX9_hold_71 ?_
          refine sm_cVI (As := [.int x5]) C cfX0_skyOf wd79 (kdC hj_15) rfl rfl rfl rfl rfl dX9_hold_73 (fun r h => mX0_skyOf hj_15 h) (fun r_16 => ?_)
          refine sm_cSI (As := [.int r_16]) C cfJ6_bitCount_0f7a4 wd194 rfl rfl rfl rfl dX9_hold_76 (fun r h => mJ6_bitCount_0f7a4  h) (fun r_18 => ?_)
          refine sm_max C wd127 max_st math_in max_co rfl dX9_hold_79 ?_
          refine sm_let (fun x4_20 => ?_)
          refine sm_istore (lv1 := [(4, .int x4_20), (0, .ref (hB G + 0)), (2, .int x2), (3, .int x3), (5, .int x5)]) C dX9_hold_82 rfl rfl ?_
          refine sm_iinc (lv1 := [(5, .int (x5 + 1)), (4, .int x4_20), (0, .ref (hB G + 0)), (2, .int x2), (3, .int x3)]) C 4 rfl (iv_1 _) dX9_hold_84 rfl rfl ?_
          refine sm_goto C dX9_hold_87 (tgt := 39) rfl ?_
          refine sm_sub [2, 3, 4, 1, 0] rfl ?_
          exact ih x4_20 (x5 + 1)
        · refine sm_iinc (lv1 := [(5, .int (x5 + 1)), (0, .ref (hB G + 0)), (2, .int x2), (3, .int x3), (4, .int x4)]) C 4 rfl (iv_1 _) dX9_hold_84 rfl rfl ?_
          refine sm_goto C dX9_hold_87 (tgt := 39) rfl ?_
          refine sm_sub [1, 2, 3, 4, 0] rfl ?_
          exact ih x4 (x5 + 1)
      · refine sm_iinc (lv1 := [(5, .int (x5 + 1)), (0, .ref (hB G + 0)), (2, .int x2), (3, .int x3), (4, .int x4)]) C 4 rfl (iv_1 _) dX9_hold_84 rfl rfl ?_
        refine sm_goto C dX9_hold_87 (tgt := 39) rfl ?_
        refine sm_sub [1, 2, 3, 4, 0] rfl ?_
        exact ih x4 (x5 + 1)
    · refine sm_iload C 3 rfl dX9_hold_90 ?_
      exact sm_iret C E rfl dX9_hold_92
set_option maxRecDepth 100000 in
set_option maxHeartbeats 4000000 in
theorem mX9_hold {b : Bx} {w : HW} {x1 : Int32} {x2 : Int32} {a : Int32} (h : fX9_hold w x1 x2 = some a) : Mt b yX9_hold cX9_hold 6 (some .int) 2 44 [.ref (bB b + 0), .int x1, .int x2] w (some (.int a)) w := by
  refine Mt.of (ρI w) h (by decide) (Nat.le_of_ble_eq_true rfl) (fun G hG C E => ?_)
  subst hG
  have C : Cx G cX9_hold RX9 6 2 44 := C
  change Sm G a 0 [(0, .ref (hB G + 0)), (1, .int x1), (2, .int x2)] [] w _
  unfold fX9_hold
  refine sm_aload_n C 0 rfl dX9_hold_0 rfl ?_
  refine sm_getC C fo_9_10 rfl wd58 kd_0 dX9_hold_1 rfl (fun j_1 hj_1 => ?_)
  refine sm_iload_n C 1 rfl dX9_hold_4 rfl ?_
  refine sm_cVI (As := [.int x1]) C cfX0_hasSide wd77 (kdC hj_1) rfl rfl rfl rfl rfl dX9_hold_5 (fun r h => mX0_hasSide hj_1 h) (fun r_2 => ?_)
  refine sm_if_eq C dX9_hold_8 (tgt := 21) rfl (fun h_4 => ?_) (fun h_4 => ?_)
  · refine sm_iload_n C 2 rfl dX9_hold_11 rfl ?_
    refine sm_if_lt C dX9_hold_12 (tgt := 21) rfl (fun h_5 => ?_) (fun h_5 => ?_)
    · refine sm_iload_n C 2 rfl dX9_hold_15 rfl ?_
      refine sm_bipush C bp_8 dX9_hold_16 ?_
      refine sm_icmp_le C dX9_hold_18 (tgt := 24) rfl (fun h_6 => ?_) (fun h_6 => ?_)
      · refine sm_bipush C bp_m2 dX9_hold_21 ?_
        exact sm_iret C E rfl dX9_hold_23
      · refine sm_aload_n C 0 rfl dX9_hold_24 rfl ?_
        refine sm_getC C fo_9_10 rfl wd58 kd_0 dX9_hold_25 rfl (fun j_7 hj_7 => ?_)
        refine sm_iload_n C 1 rfl dX9_hold_28 rfl ?_
        refine sm_cVI (As := [.int x1]) C cfX0_augursOf wd78 (kdC hj_7) rfl rfl rfl rfl rfl dX9_hold_29 (fun r h => mX0_augursOf hj_7 h) (fun r_8 => ?_)
        refine sm_istore_n (lv1 := [(3, .int r_8), (0, .ref (hB G + 0)), (1, .int x1), (2, .int x2)]) C dX9_hold_32 rfl rfl rfl ?_
        refine sm_iconst C ic_0 dX9_hold_33 ?_
        refine sm_istore (lv1 := [(4, .int 0), (3, .int r_8), (0, .ref (hB G + 0)), (1, .int x1), (2, .int x2)]) C dX9_hold_34 rfl rfl ?_
        refine sm_iconst C ic_0 dX9_hold_36 ?_
        refine sm_istore (lv1 := [(5, .int 0), (4, .int 0), (3, .int r_8), (0, .ref (hB G + 0)), (1, .int x1), (2, .int x2)]) C dX9_hold_37 rfl rfl ?_
        refine sm_sub [3, 5, 2, 1, 0] rfl ?_
        exact sX9_hold_39 C E FU 0 0
    · refine sm_bipush C bp_m2 dX9_hold_21 ?_
      exact sm_iret C E rfl dX9_hold_23
  · refine sm_bipush C bp_m2 dX9_hold_21 ?_
    exact sm_iret C E rfl dX9_hold_23
/-! X9_loneAugurs -/
set_option maxRecDepth 100000 in
set_option maxHeartbeats 4000000 in
theorem sX9_loneAugurs_24 {G : Gx} {a : Int32} {w : HW} (C : Cx G cX9_loneAugurs RX9 7 2 44) (E : Rx G (ρI w) a (some .int)) {x2 : Int32} {x3 : Int32} : ∀ (n : Nat) (x4 : Int32) (x5 : Int32), Sm G a 24 [(0, .ref (hB G + 0)), (2, .int x2), (3, .int x3), (4, .int x4), (5, .int x5)] [] w (fX9_loneAugurs_24 w x2 x3 n x4 x5) := by
  intro n
  induction n with
  | zero => intro _ _; exact sm_none
  | succ n ih =>
    intro x4 x5
    rw [fX9_loneAugurs_24]
    refine sm_iload C 4 rfl dX9_loneAugurs_24 ?_
    refine sm_aload_n C 0 rfl dX9_loneAugurs_26 rfl ?_
    refine sm_getC C fo_9_10 rfl wd58 kd_0 dX9_loneAugurs_27 rfl (fun j_7 hj_7 => ?_)
    refine sm_getI C fo_0_6 rfl wd206 (kdC hj_7) dX9_loneAugurs_30 ?_
    refine sm_icmp_ge C dX9_loneAugurs_33 (tgt := 79) rfl (fun h_8 => ?_) (fun h_8 => ?_)
    · refine sm_iconst C ic_1 dX9_loneAugurs_36 ?_
      refine sm_iload C 4 rfl dX9_loneAugurs_37 ?_
      refine sm_ishl C dX9_loneAugurs_39 ?_
      refine sm_let (fun x6_9 => ?_)
      refine sm_istore (lv1 := [(6, .int x6_9), (0, .ref (hB G + 0)), (2, .int x2), (3, .int x3), (4, .int x4), (5, .int x5)]) C dX9_loneAugurs_40 rfl rfl ?_
      refine sm_iload_n C 2 rfl dX9_loneAugurs_42 rfl ?_
      refine sm_iload C 0 rfl dX9_loneAugurs_43 ?_
      refine sm_iand C dX9_loneAugurs_45 ?_
      refine sm_if_eq C dX9_loneAugurs_46 (tgt := 73) rfl (fun h_10 => ?_) (fun h_10 => ?_)
      · refine sm_aload_n C 1 rfl dX9_loneAugurs_49 rfl ?_
        refine sm_getC C fo_9_10 rfl wd58 kd_0 dX9_loneAugurs_50 rfl (fun j_11 hj_11 => ?_)
        refine sm_iload_n C 2 rfl dX9_loneAugurs_53 rfl ?_
        refine sm_iload C 0 rfl dX9_loneAugurs_54 ?_
        refine sm_iconst C ic_m1 dX9_loneAugurs_56 ?_
        refine sm_ixor C dX9_loneAugurs_57 ?_
        refine sm_iand C dX9_loneAugurs_58 ?_
        refine sm_cVI (As := [.int (x2 &&& (x6_9 ^^^ (-1)))]) C cfX0_skyOf wd79 (kdC hj_11) rfl rfl rfl rfl rfl dX9_loneAugurs_59 (fun r h => mX0_skyOf hj_11 h) (fun r_12 => ?_)
        refine sm_iload_n C 3 rfl dX9_loneAugurs_62 rfl ?_
        refine sm_icmp_eq C dX9_loneAugurs_63 (tgt := 73) rfl (fun h_14 => ?_) (fun h_14 => ?_)
        · refine sm_iload C 4 rfl dX9_loneAugurs_66 ?_
          refine sm_iload C 0 rfl dX9_loneAugurs_68 ?_
          refine sm_ior C dX9_loneAugurs_70 ?_
          refine sm_let (fun x4_15 => ?_)
          refine sm_istore (lv1 := [(4, .int x4_15), (6, .int x6_9), (0, .ref (hB G + 0)), (2, .int x2), (3, .int x3), (5, .int x5)]) C dX9_loneAugurs_71 rfl rfl ?_
          refine sm_iinc (lv1 := [(5, .int (x5 + 1)), (4, .int x4_15), (6, .int x6_9), (0, .ref (hB G + 0)), (2, .int x2), (3, .int x3)]) C 5 rfl (iv_1 _) dX9_loneAugurs_73 rfl rfl ?_
          refine sm_goto C dX9_loneAugurs_76 (tgt := 24) rfl ?_
          refine sm_sub [3, 4, 5, 1, 0] rfl ?_
          exact ih x4_15 (x5 + 1)
        · refine sm_iinc (lv1 := [(5, .int (x5 + 1)), (6, .int x6_9), (0, .ref (hB G + 0)), (2, .int x2), (3, .int x3), (4, .int x4)]) C 5 rfl (iv_1 _) dX9_loneAugurs_73 rfl rfl ?_
          refine sm_goto C dX9_loneAugurs_76 (tgt := 24) rfl ?_
          refine sm_sub [2, 3, 4, 5, 0] rfl ?_
          exact ih x4 (x5 + 1)
      · refine sm_iinc (lv1 := [(5, .int (x5 + 1)), (6, .int x6_9), (0, .ref (hB G + 0)), (2, .int x2), (3, .int x3), (4, .int x4)]) C 5 rfl (iv_1 _) dX9_loneAugurs_73 rfl rfl ?_
        refine sm_goto C dX9_loneAugurs_76 (tgt := 24) rfl ?_
        refine sm_sub [2, 3, 4, 5, 0] rfl ?_
        exact ih x4 (x5 + 1)
    · refine sm_iload C 3 rfl dX9_loneAugurs_79 ?_
      exact sm_iret C E rfl dX9_loneAugurs_81
set_option maxRecDepth 100000 in
set_option maxHeartbeats 4000000 in
theorem mX9_loneAugurs {b : Bx} {w : HW} {x1 : Int32} {a : Int32} (h : fX9_loneAugurs w x1 = some a) : Mt b yX9_loneAugurs cX9_loneAugurs 7 (some .int) 2 44 [.ref (bB b + 0), .int x1] w (some (.int a)) w := by
  refine Mt.of (ρI w) h (by decide) (Nat.le_of_ble_eq_true rfl) (fun G hG C E => ?_)
  subst hG
  have C : Cx G cX9_loneAugurs RX9 7 2 44 := C
  change Sm G a 0 [(0, .ref (hB G + 0)), (1, .int x1)] [] w _
  unfold fX9_loneAugurs
  refine sm_aload_n C 0 rfl dX9_loneAugurs_0 rfl ?_
  refine sm_getC C fo_9_10 rfl wd58 kd_0 dX9_loneAugurs_1 rfl (fun j_1 hj_1 => ?_)
  refine sm_iload_n C 1 rfl dX9_loneAugurs_4 rfl ?_
  refine sm_cVI (As := [.int x1]) C cfX0_augursOf wd78 (kdC hj_1) rfl rfl rfl rfl rfl dX9_loneAugurs_5 (fun r h => mX0_augursOf hj_1 h) (fun r_2 => ?_)
  refine sm_istore_n (lv1 := [(2, .int r_2), (0, .ref (hB G + 0)), (1, .int x1)]) C dX9_loneAugurs_8 rfl rfl rfl ?_
  refine sm_aload_n C 1 rfl dX9_loneAugurs_9 rfl ?_
  refine sm_getC C fo_9_10 rfl wd58 kd_0 dX9_loneAugurs_10 rfl (fun j_4 hj_4 => ?_)
  refine sm_iload_n C 0 rfl dX9_loneAugurs_13 rfl ?_
  refine sm_cVI (As := [.int r_2]) C cfX0_skyOf wd79 (kdC hj_4) rfl rfl rfl rfl rfl dX9_loneAugurs_14 (fun r h => mX0_skyOf hj_4 h) (fun r_5 => ?_)
  refine sm_istore_n (lv1 := [(3, .int r_5), (2, .int r_2), (0, .ref (hB G + 0)), (1, .int x1)]) C dX9_loneAugurs_17 rfl rfl rfl ?_
  refine sm_iconst C ic_0 dX9_loneAugurs_18 ?_
  refine sm_istore (lv1 := [(4, .int 0), (3, .int r_5), (2, .int r_2), (0, .ref (hB G + 0)), (1, .int x1)]) C dX9_loneAugurs_19 rfl rfl ?_
  refine sm_iconst C ic_0 dX9_loneAugurs_21 ?_
  refine sm_istore (lv1 := [(5, .int 0), (4, .int 0), (3, .int r_5), (2, .int r_2), (0, .ref (hB G + 0)), (1, .int x1)]) C dX9_loneAugurs_22 rfl rfl ?_
  refine sm_sub [4, 3, 2, 1, 0] rfl ?_
  exact sX9_loneAugurs_24 C E FU 0 0
/-! X9_idle -/
set_option maxRecDepth 100000 in
set_option maxHeartbeats 4000000 in
theorem mX9_idle {b : Bx} {w : HW} {x1 : Int32} {a : Int32} (h : fX9_idle w x1 = some a) : Mt b yX9_idle cX9_idle 2 (some .int) 3 70 [.ref (bB b + 0), .int x1] w (some (.int a)) w := by
  refine Mt.of (ρI w) h (by decide) (Nat.le_of_ble_eq_true rfl) (fun G hG C E => ?_)
  subst hG
  have C : Cx G cX9_idle RX9 2 3 70 := C
  change Sm G a 0 [(0, .ref (hB G + 0)), (1, .int x1)] [] w _
  unfold fX9_idle
  refine sm_aload_n C 0 rfl dX9_idle_0 rfl ?_
  refine sm_getC C fo_9_10 rfl wd58 kd_0 dX9_idle_1 rfl (fun j_1 hj_1 => ?_)
  refine sm_iload_n C 1 rfl dX9_idle_4 rfl ?_
  refine sm_cVI (As := [.int x1]) C cfX0_hasSide wd77 (kdC hj_1) rfl rfl rfl rfl rfl dX9_idle_5 (fun r h => mX0_hasSide hj_1 h) (fun r_2 => ?_)
  refine sm_if_eq C dX9_idle_8 (tgt := 30) rfl (fun h_4 => ?_) (fun h_4 => ?_)
  · refine sm_aload_n C 0 rfl dX9_idle_11 rfl ?_
    refine sm_getC C fo_9_10 rfl wd58 kd_0 dX9_idle_12 rfl (fun j_5 hj_5 => ?_)
    refine sm_iload_n C 1 rfl dX9_idle_15 rfl ?_
    refine sm_cVI (As := [.int x1]) C cfX0_augursOf wd78 (kdC hj_5) rfl rfl rfl rfl rfl dX9_idle_16 (fun r h => mX0_augursOf hj_5 h) (fun r_6 => ?_)
    refine sm_aload_n C 0 rfl dX9_idle_19 rfl ?_
    refine sm_iload_n C 1 rfl dX9_idle_20 rfl ?_
    refine sm_cVI (As := [.int x1]) C cfX9_loneAugurs wd208 kd_0 rfl rfl rfl rfl rfl dX9_idle_21 (fun r h => mX9_loneAugurs  h) (fun r_8 => ?_)
    refine sm_iconst C ic_m1 dX9_idle_24 ?_
    refine sm_ixor C dX9_idle_25 ?_
    refine sm_iand C dX9_idle_26 ?_
    refine sm_goto C dX9_idle_27 (tgt := 32) rfl ?_
    exact sm_iret C E rfl dX9_idle_32
  · refine sm_bipush C bp_m2 dX9_idle_30 ?_
    exact sm_iret C E rfl dX9_idle_32
/-! X9_lone -/
set_option maxRecDepth 100000 in
set_option maxHeartbeats 4000000 in
theorem mX9_lone {b : Bx} {w : HW} {x1 : Int32} {a : Int32} (h : fX9_lone w x1 = some a) : Mt b yX9_lone cX9_lone 2 (some .int) 3 70 [.ref (bB b + 0), .int x1] w (some (.int a)) w := by
  refine Mt.of (ρI w) h (by decide) (Nat.le_of_ble_eq_true rfl) (fun G hG C E => ?_)
  subst hG
  have C : Cx G cX9_lone RX9 2 3 70 := C
  change Sm G a 0 [(0, .ref (hB G + 0)), (1, .int x1)] [] w _
  unfold fX9_lone
  refine sm_aload_n C 0 rfl dX9_lone_0 rfl ?_
  refine sm_getC C fo_9_10 rfl wd58 kd_0 dX9_lone_1 rfl (fun j_1 hj_1 => ?_)
  refine sm_iload_n C 1 rfl dX9_lone_4 rfl ?_
  refine sm_cVI (As := [.int x1]) C cfX0_hasSide wd77 (kdC hj_1) rfl rfl rfl rfl rfl dX9_lone_5 (fun r h => mX0_hasSide hj_1 h) (fun r_2 => ?_)
  refine sm_if_eq C dX9_lone_8 (tgt := 19) rfl (fun h_4 => ?_) (fun h_4 => ?_)
  · refine sm_aload_n C 0 rfl dX9_lone_11 rfl ?_
    refine sm_iload_n C 1 rfl dX9_lone_12 rfl ?_
    refine sm_cVI (As := [.int x1]) C cfX9_loneAugurs wd208 kd_0 rfl rfl rfl rfl rfl dX9_lone_13 (fun r h => mX9_loneAugurs  h) (fun r_5 => ?_)
    refine sm_goto C dX9_lone_16 (tgt := 21) rfl ?_
    exact sm_iret C E rfl dX9_lone_21
  · refine sm_bipush C bp_m2 dX9_lone_19 ?_
    exact sm_iret C E rfl dX9_lone_21
/-! X9_tenure -/
set_option maxRecDepth 100000 in
set_option maxHeartbeats 4000000 in
theorem sX9_tenure_21 {G : Gx} {a : Int32} {w : HW} (C : Cx G cX9_tenure RX9 6 2 41) (E : Rx G (ρI w) a (some .int)) {x1 : Int32} : ∀ (n : Nat) (x2 : Int32) (x3 : Int32) (x4 : Int32), Sm G a 21 [(0, .ref (hB G + 0)), (1, .int x1), (2, .int x2), (3, .int x3), (4, .int x4)] [] w (fX9_tenure_21 w x1 n x2 x3 x4) := by
  intro n
  induction n with
  | zero => intro _ _ _; exact sm_none
  | succ n ih =>
    intro x2 x3 x4
    rw [fX9_tenure_21]
    refine sm_iload C 4 rfl dX9_tenure_21 ?_
    refine sm_aload_n C 0 rfl dX9_tenure_23 rfl ?_
    refine sm_getC C fo_9_10 rfl wd58 kd_0 dX9_tenure_24 rfl (fun j_5 hj_5 => ?_)
    refine sm_getI C fo_0_6 rfl wd206 (kdC hj_5) dX9_tenure_27 ?_
    refine sm_icmp_ge C dX9_tenure_30 (tgt := 79) rfl (fun h_6 => ?_) (fun h_6 => ?_)
    · refine sm_aload_n C 0 rfl dX9_tenure_33 rfl ?_
      refine sm_getC C fo_9_10 rfl wd58 kd_0 dX9_tenure_34 rfl (fun j_7 hj_7 => ?_)
      refine sm_iload C 4 rfl dX9_tenure_37 ?_
      refine sm_cVI (As := [.int x4]) C cfX0_daysOfAugur wd209 (kdC hj_7) rfl rfl rfl rfl rfl dX9_tenure_39 (fun r h => mX0_daysOfAugur hj_7 h) (fun r_8 => ?_)
      refine sm_cSI (As := [.int r_8]) C cfJ6_bitCount_0f7a4 wd194 rfl rfl rfl rfl dX9_tenure_42 (fun r h => mJ6_bitCount_0f7a4  h) (fun r_10 => ?_)
      refine sm_istore (lv1 := [(5, .int r_10), (0, .ref (hB G + 0)), (1, .int x1), (2, .int x2), (3, .int x3), (4, .int x4)]) C dX9_tenure_45 rfl rfl ?_
      refine sm_aload_n C 1 rfl dX9_tenure_47 rfl ?_
      refine sm_getC C fo_9_10 rfl wd58 kd_0 dX9_tenure_48 rfl (fun j_12 hj_12 => ?_)
      refine sm_getR C fo_0_7 rfl wd63 (kdC hj_12) dX9_tenure_51 (rvC_7 hj_12 w) (nzC_1 hj_12) ?_
      refine sm_iload C 5 rfl dX9_tenure_54 ?_
      refine sm_iald C (kdC_1 hj_12) dX9_tenure_56 (fun h_13 => ?_)
      refine sm_iload_n C 2 rfl dX9_tenure_57 rfl ?_
      refine sm_icmp_ne C dX9_tenure_58 (tgt := 73) rfl (fun h_14 => ?_) (fun h_14 => ?_)
      · refine sm_iload C 0 rfl dX9_tenure_61 ?_
        refine sm_iload_n C 4 rfl dX9_tenure_63 rfl ?_
        refine sm_icmp_le C dX9_tenure_64 (tgt := 73) rfl (fun h_15 => ?_) (fun h_15 => ?_)
        · refine sm_iload C 0 rfl dX9_tenure_67 ?_
          refine sm_istore_n (lv1 := [(3, .int r_10), (5, .int r_10), (0, .ref (hB G + 0)), (1, .int x1), (2, .int x2), (4, .int x4)]) C dX9_tenure_69 rfl rfl rfl ?_
          refine sm_iload C 5 rfl dX9_tenure_70 ?_
          refine sm_istore_n (lv1 := [(2, .int x4), (3, .int r_10), (5, .int r_10), (0, .ref (hB G + 0)), (1, .int x1), (4, .int x4)]) C dX9_tenure_72 rfl rfl rfl ?_
          refine sm_iinc (lv1 := [(4, .int (x4 + 1)), (2, .int x4), (3, .int r_10), (5, .int r_10), (0, .ref (hB G + 0)), (1, .int x1)]) C 5 rfl (iv_1 _) dX9_tenure_73 rfl rfl ?_
          refine sm_goto C dX9_tenure_76 (tgt := 21) rfl ?_
          refine sm_sub [4, 5, 1, 2, 0] rfl ?_
          exact ih x4 r_10 (x4 + 1)
        · refine sm_iinc (lv1 := [(4, .int (x4 + 1)), (5, .int r_10), (0, .ref (hB G + 0)), (1, .int x1), (2, .int x2), (3, .int x3)]) C 5 rfl (iv_1 _) dX9_tenure_73 rfl rfl ?_
          refine sm_goto C dX9_tenure_76 (tgt := 21) rfl ?_
          refine sm_sub [2, 3, 4, 5, 0] rfl ?_
          exact ih x2 x3 (x4 + 1)
      · refine sm_iinc (lv1 := [(4, .int (x4 + 1)), (5, .int r_10), (0, .ref (hB G + 0)), (1, .int x1), (2, .int x2), (3, .int x3)]) C 5 rfl (iv_1 _) dX9_tenure_73 rfl rfl ?_
        refine sm_goto C dX9_tenure_76 (tgt := 21) rfl ?_
        refine sm_sub [2, 3, 4, 5, 0] rfl ?_
        exact ih x2 x3 (x4 + 1)
    · refine sm_iload_n C 2 rfl dX9_tenure_79 rfl ?_
      exact sm_iret C E rfl dX9_tenure_80
set_option maxRecDepth 100000 in
set_option maxHeartbeats 4000000 in
theorem mX9_tenure {b : Bx} {w : HW} {x1 : Int32} {a : Int32} (h : fX9_tenure w x1 = some a) : Mt b yX9_tenure cX9_tenure 6 (some .int) 2 41 [.ref (bB b + 0), .int x1] w (some (.int a)) w := by
  refine Mt.of (ρI w) h (by decide) (Nat.le_of_ble_eq_true rfl) (fun G hG C E => ?_)
  subst hG
  have C : Cx G cX9_tenure RX9 6 2 41 := C
  change Sm G a 0 [(0, .ref (hB G + 0)), (1, .int x1)] [] w _
  unfold fX9_tenure
  refine sm_aload_n C 0 rfl dX9_tenure_0 rfl ?_
  refine sm_getC C fo_9_10 rfl wd58 kd_0 dX9_tenure_1 rfl (fun j_1 hj_1 => ?_)
  refine sm_iload_n C 1 rfl dX9_tenure_4 rfl ?_
  refine sm_cVI (As := [.int x1]) C cfX0_hasSide wd77 (kdC hj_1) rfl rfl rfl rfl rfl dX9_tenure_5 (fun r h => mX0_hasSide hj_1 h) (fun r_2 => ?_)
  refine sm_if_ne C dX9_tenure_8 (tgt := 14) rfl (fun h_4 => ?_) (fun h_4 => ?_)
  · refine sm_bipush C bp_m2 dX9_tenure_11 ?_
    exact sm_iret C E rfl dX9_tenure_13
  · refine sm_iconst C ic_m1 dX9_tenure_14 ?_
    refine sm_istore_n (lv1 := [(2, .int (-1)), (0, .ref (hB G + 0)), (1, .int x1)]) C dX9_tenure_15 rfl rfl rfl ?_
    refine sm_iconst C ic_0 dX9_tenure_16 ?_
    refine sm_istore_n (lv1 := [(3, .int 0), (2, .int (-1)), (0, .ref (hB G + 0)), (1, .int x1)]) C dX9_tenure_17 rfl rfl rfl ?_
    refine sm_iconst C ic_0 dX9_tenure_18 ?_
    refine sm_istore (lv1 := [(4, .int 0), (3, .int 0), (2, .int (-1)), (0, .ref (hB G + 0)), (1, .int x1)]) C dX9_tenure_19 rfl rfl ?_
    refine sm_sub [3, 4, 2, 1, 0] rfl ?_
    exact sX9_tenure_21 C E FU (-1) 0 0
/-! X9_clear -/
set_option maxRecDepth 100000 in
set_option maxHeartbeats 4000000 in
theorem mX9_clear {b : Bx} {w : HW} {x1 : Int32} {a : Int32} (h : fX9_clear w x1 = some a) : Mt b yX9_clear cX9_clear 2 (some .int) 3 65 [.ref (bB b + 0), .int x1] w (some (.int a)) w := by
  refine Mt.of (ρI w) h (by decide) (Nat.le_of_ble_eq_true rfl) (fun G hG C E => ?_)
  subst hG
  have C : Cx G cX9_clear RX9 2 3 65 := C
  change Sm G a 0 [(0, .ref (hB G + 0)), (1, .int x1)] [] w _
  unfold fX9_clear
  refine sm_aload_n C 0 rfl dX9_clear_0 rfl ?_
  refine sm_getC C fo_9_10 rfl wd58 kd_0 dX9_clear_1 rfl (fun j_1 hj_1 => ?_)
  refine sm_iload_n C 1 rfl dX9_clear_4 rfl ?_
  refine sm_cVI (As := [.int x1]) C cfX0_hasSide wd77 (kdC hj_1) rfl rfl rfl rfl rfl dX9_clear_5 (fun r h => mX0_hasSide hj_1 h) (fun r_2 => ?_)
  refine sm_if_eq C dX9_clear_8 (tgt := 22) rfl (fun h_4 => ?_) (fun h_4 => ?_)
  · refine sm_aload_n C 0 rfl dX9_clear_11 rfl ?_
    refine sm_getC C fo_9_10 rfl wd58 kd_0 dX9_clear_12 rfl (fun j_5 hj_5 => ?_)
    refine sm_iload_n C 1 rfl dX9_clear_15 rfl ?_
    refine sm_cVI (As := [.int x1]) C cfX0_clearDays wd210 (kdC hj_5) rfl rfl rfl rfl rfl dX9_clear_16 (fun r h => mX0_clearDays hj_5 h) (fun r_6 => ?_)
    refine sm_goto C dX9_clear_19 (tgt := 24) rfl ?_
    exact sm_iret C E rfl dX9_clear_24
  · refine sm_bipush C bp_m2 dX9_clear_22 ?_
    exact sm_iret C E rfl dX9_clear_24
/-! X9_run -/
set_option maxRecDepth 100000 in
set_option maxHeartbeats 4000000 in
theorem mX9_run {b : Bx} {w : HW} {x1 : Int32} {a : Int32} (h : fX9_run w x1 = some a) : Mt b yX9_run cX9_run 2 (some .int) 3 65 [.ref (bB b + 0), .int x1] w (some (.int a)) w := by
  refine Mt.of (ρI w) h (by decide) (Nat.le_of_ble_eq_true rfl) (fun G hG C E => ?_)
  subst hG
  have C : Cx G cX9_run RX9 2 3 65 := C
  change Sm G a 0 [(0, .ref (hB G + 0)), (1, .int x1)] [] w _
  unfold fX9_run
  refine sm_aload_n C 0 rfl dX9_run_0 rfl ?_
  refine sm_getC C fo_9_10 rfl wd58 kd_0 dX9_run_1 rfl (fun j_1 hj_1 => ?_)
  refine sm_iload_n C 1 rfl dX9_run_4 rfl ?_
  refine sm_cVI (As := [.int x1]) C cfX0_hasSide wd77 (kdC hj_1) rfl rfl rfl rfl rfl dX9_run_5 (fun r h => mX0_hasSide hj_1 h) (fun r_2 => ?_)
  refine sm_if_eq C dX9_run_8 (tgt := 25) rfl (fun h_4 => ?_) (fun h_4 => ?_)
  · refine sm_aload_n C 0 rfl dX9_run_11 rfl ?_
    refine sm_getC C fo_9_10 rfl wd58 kd_0 dX9_run_12 rfl (fun j_5 hj_5 => ?_)
    refine sm_iload_n C 1 rfl dX9_run_15 rfl ?_
    refine sm_cVI (As := [.int x1]) C cfX0_clearDays wd210 (kdC hj_5) rfl rfl rfl rfl rfl dX9_run_16 (fun r h => mX0_clearDays hj_5 h) (fun r_6 => ?_)
    refine sm_cSI (As := [.int r_6]) C cfX9_longestRun wd129 rfl rfl rfl rfl dX9_run_19 (fun r h => mX9_longestRun  h) (fun r_8 => ?_)
    refine sm_goto C dX9_run_22 (tgt := 27) rfl ?_
    exact sm_iret C E rfl dX9_run_27
  · refine sm_bipush C bp_m2 dX9_run_25 ?_
    exact sm_iret C E rfl dX9_run_27
/-! X9_both -/
set_option maxRecDepth 100000 in
set_option maxHeartbeats 4000000 in
theorem mX9_both {b : Bx} {w : HW} {a : Int32} (h : fX9_both w = some a) : Mt b yX9_both cX9_both 1 (some .int) 2 44 [.ref (bB b + 0)] w (some (.int a)) w := by
  refine Mt.of (ρI w) h (by decide) (Nat.le_of_ble_eq_true rfl) (fun G hG C E => ?_)
  subst hG
  have C : Cx G cX9_both RX9 1 2 44 := C
  change Sm G a 0 [(0, .ref (hB G + 0))] [] w _
  unfold fX9_both
  refine sm_aload_n C 0 rfl dX9_both_0 rfl ?_
  refine sm_getC C fo_9_10 rfl wd58 kd_0 dX9_both_1 rfl (fun j_1 hj_1 => ?_)
  refine sm_cVI (As := []) C cfX0_isTold wd70 (kdC hj_1) rfl rfl rfl rfl rfl dX9_both_4 (fun r h => mX0_isTold hj_1 h) (fun r_2 => ?_)
  refine sm_if_eq C dX9_both_7 (tgt := 44) rfl (fun h_4 => ?_) (fun h_4 => ?_)
  · refine sm_aload_n C 0 rfl dX9_both_10 rfl ?_
    refine sm_getC C fo_9_10 rfl wd58 kd_0 dX9_both_11 rfl (fun j_5 hj_5 => ?_)
    refine sm_aload_n C 0 rfl dX9_both_14 rfl ?_
    refine sm_getC C fo_9_10 rfl wd58 kd_0 dX9_both_15 rfl (fun j_6 hj_6 => ?_)
    refine sm_iconst C ic_0 dX9_both_18 ?_
    refine sm_cVI (As := [.int 0]) C cfX0_augursOf wd78 (kdC hj_6) rfl rfl rfl rfl rfl dX9_both_19 (fun r h => mX0_augursOf hj_6 h) (fun r_7 => ?_)
    refine sm_cVI (As := [.int r_7]) C cfX0_skyOf wd79 (kdC hj_5) rfl rfl rfl rfl rfl dX9_both_22 (fun r h => mX0_skyOf hj_5 h) (fun r_9 => ?_)
    refine sm_aload_n C 0 rfl dX9_both_25 rfl ?_
    refine sm_getC C fo_9_10 rfl wd58 kd_0 dX9_both_26 rfl (fun j_11 hj_11 => ?_)
    refine sm_aload_n C 0 rfl dX9_both_29 rfl ?_
    refine sm_getC C fo_9_10 rfl wd58 kd_0 dX9_both_30 rfl (fun j_12 hj_12 => ?_)
    refine sm_iconst C ic_1 dX9_both_33 ?_
    refine sm_cVI (As := [.int 1]) C cfX0_augursOf wd78 (kdC hj_12) rfl rfl rfl rfl rfl dX9_both_34 (fun r h => mX0_augursOf hj_12 h) (fun r_13 => ?_)
    refine sm_cVI (As := [.int r_13]) C cfX0_skyOf wd79 (kdC hj_11) rfl rfl rfl rfl rfl dX9_both_37 (fun r h => mX0_skyOf hj_11 h) (fun r_15 => ?_)
    refine sm_iand C dX9_both_40 ?_
    refine sm_goto C dX9_both_41 (tgt := 46) rfl ?_
    exact sm_iret C E rfl dX9_both_46
  · refine sm_bipush C bp_m2 dX9_both_44 ?_
    exact sm_iret C E rfl dX9_both_46
/-! X0_heirsOf -/
set_option maxRecDepth 100000 in
set_option maxHeartbeats 4000000 in
theorem sX0_heirsOf_6 {G : Gx} {a : Int32} {w : HW} (C : Cx G cX0_heirsOf RX0 4 1 24) (E : Rx G (ρI w) a (some .int)) {k0 : Nat} (hk0 : isC k0 = true) {x1 : Int32} : ∀ (n : Nat) (x2 : Int32) (x3 : Int32), Sm G a 6 [(0, .ref (hB G + k0)), (1, .int x1), (2, .int x2), (3, .int x3)] [] w (fX0_heirsOf_6 w k0 x1 n x2 x3) := by
  intro n
  induction n with
  | zero => intro _ _; exact sm_none
  | succ n ih =>
    intro x2 x3
    rw [fX0_heirsOf_6]
    refine sm_iload_n C 3 rfl dX0_heirsOf_6 rfl ?_
    refine sm_aload_n C 0 rfl dX0_heirsOf_7 rfl ?_
    refine sm_getI C fo_0_10 rfl wd12 (kdC hk0) dX0_heirsOf_8 ?_
    refine sm_icmp_ge C dX0_heirsOf_11 (tgt := 38) rfl (fun h_2 => ?_) (fun h_2 => ?_)
    · refine sm_aload_n C 0 rfl dX0_heirsOf_14 rfl ?_
      refine sm_iload_n C 3 rfl dX0_heirsOf_15 rfl ?_
      refine sm_cVI (As := [.int x3]) C cfX0_needsOf wd211 (kdC hk0) rfl rfl rfl rfl rfl dX0_heirsOf_16 (fun r h => mX0_needsOf hk0 h) (fun r_3 => ?_)
      refine sm_iload_n C 1 rfl dX0_heirsOf_19 rfl ?_
      refine sm_cNI (As := [.int r_3, .int x1]) C cfX9_holds 10 rfl rfl rfl rfl rfl dX0_heirsOf_20 (fun r h => mX9_holds  h) (fun r_5 => ?_)
      refine sm_if_eq C dX0_heirsOf_23 (tgt := 32) rfl (fun h_7 => ?_) (fun h_7 => ?_)
      · refine sm_iload_n C 2 rfl dX0_heirsOf_26 rfl ?_
        refine sm_iconst C ic_1 dX0_heirsOf_27 ?_
        refine sm_iload_n C 3 rfl dX0_heirsOf_28 rfl ?_
        refine sm_ishl C dX0_heirsOf_29 ?_
        refine sm_ior C dX0_heirsOf_30 ?_
        refine sm_let (fun x2_8 => ?_)
        refine sm_istore_n (lv1 := [(2, .int x2_8), (0, .ref (hB G + k0)), (1, .int x1), (3, .int x3)]) C dX0_heirsOf_31 rfl rfl rfl ?_
        refine sm_iinc (lv1 := [(3, .int (x3 + 1)), (2, .int x2_8), (0, .ref (hB G + k0)), (1, .int x1)]) C 3 rfl (iv_1 _) dX0_heirsOf_32 rfl rfl ?_
        refine sm_goto C dX0_heirsOf_35 (tgt := 6) rfl ?_
        refine sm_sub [2, 3, 1, 0] rfl ?_
        exact ih x2_8 (x3 + 1)
      · refine sm_iinc (lv1 := [(3, .int (x3 + 1)), (0, .ref (hB G + k0)), (1, .int x1), (2, .int x2)]) C 3 rfl (iv_1 _) dX0_heirsOf_32 rfl rfl ?_
        refine sm_goto C dX0_heirsOf_35 (tgt := 6) rfl ?_
        refine sm_sub [1, 2, 3, 0] rfl ?_
        exact ih x2 (x3 + 1)
    · refine sm_iload_n C 2 rfl dX0_heirsOf_38 rfl ?_
      exact sm_iret C E rfl dX0_heirsOf_39
set_option maxRecDepth 100000 in
set_option maxHeartbeats 4000000 in
theorem mX0_heirsOf {b : Bx} {w : HW} {k0 : Nat} {x1 : Int32} (hk0 : isC k0 = true) {a : Int32} (h : fX0_heirsOf w k0 x1 = some a) : Mt b yX0_heirsOf cX0_heirsOf 4 (some .int) 1 24 [.ref (bB b + k0), .int x1] w (some (.int a)) w := by
  refine Mt.of (ρI w) h (by decide) (Nat.le_of_ble_eq_true rfl) (fun G hG C E => ?_)
  subst hG
  have C : Cx G cX0_heirsOf RX0 4 1 24 := C
  change Sm G a 0 [(0, .ref (hB G + k0)), (1, .int x1)] [] w _
  unfold fX0_heirsOf
  refine sm_iconst C ic_0 dX0_heirsOf_0 ?_
  refine sm_istore_n (lv1 := [(2, .int 0), (0, .ref (hB G + k0)), (1, .int x1)]) C dX0_heirsOf_1 rfl rfl rfl ?_
  refine sm_iload_n C 2 rfl dX0_heirsOf_2 rfl ?_
  refine sm_iconst C ic_1 dX0_heirsOf_3 ?_
  refine sm_iadd C dX0_heirsOf_4 ?_
  refine sm_let (fun x3_1 => ?_)
  refine sm_istore_n (lv1 := [(3, .int x3_1), (2, .int 0), (0, .ref (hB G + k0)), (1, .int x1)]) C dX0_heirsOf_5 rfl rfl rfl ?_
  refine sm_sub [2, 3, 1, 0] rfl ?_
  exact sX0_heirsOf_6 C E hk0 FU 0 x3_1
/-! X9_fallingWith -/
set_option maxRecDepth 100000 in
set_option maxHeartbeats 4000000 in
theorem mX9_fallingWith {b : Bx} {w : HW} {x1 : Int32} {a : Int32} (h : fX9_fallingWith w x1 = some a) : Mt b yX9_fallingWith cX9_fallingWith 3 (some .int) 2 47 [.ref (bB b + 0), .int x1] w (some (.int a)) w := by
  refine Mt.of (ρI w) h (by decide) (Nat.le_of_ble_eq_true rfl) (fun G hG C E => ?_)
  subst hG
  have C : Cx G cX9_fallingWith RX9 3 2 47 := C
  change Sm G a 0 [(0, .ref (hB G + 0)), (1, .int x1)] [] w _
  unfold fX9_fallingWith
  refine sm_aload_n C 0 rfl dX9_fallingWith_0 rfl ?_
  refine sm_getR C fo_9_2 rfl wd115 kd_0 dX9_fallingWith_1 (rv_0_2 w) (by decide) ?_
  refine sm_aload_n C 0 rfl dX9_fallingWith_4 rfl ?_
  refine sm_getC C fo_9_10 rfl wd58 kd_0 dX9_fallingWith_5 rfl (fun j_1 hj_1 => ?_)
  refine sm_iload_n C 1 rfl dX9_fallingWith_8 rfl ?_
  refine sm_cVI (As := [.ref (hB G + j_1), .int x1]) C cfX6_passingOn wd132 kd_4 rfl rfl rfl rfl rfl dX9_fallingWith_9 (fun r h => mX6_passingOn hj_1 h) (fun r_2 => ?_)
  refine sm_istore_n (lv1 := [(2, .int r_2), (0, .ref (hB G + 0)), (1, .int x1)]) C dX9_fallingWith_12 rfl rfl rfl ?_
  refine sm_iload_n C 0 rfl dX9_fallingWith_13 rfl ?_
  refine sm_iconst C ic_m1 dX9_fallingWith_14 ?_
  refine sm_icmp_ne C dX9_fallingWith_15 (tgt := 22) rfl (fun h_4 => ?_) (fun h_4 => ?_)
  · refine sm_iconst C ic_0 dX9_fallingWith_18 ?_
    refine sm_goto C dX9_fallingWith_19 (tgt := 46) rfl ?_
    exact sm_iret C E rfl dX9_fallingWith_46
  · refine sm_iconst C ic_1 dX9_fallingWith_22 ?_
    refine sm_iload_n C 0 rfl dX9_fallingWith_23 rfl ?_
    refine sm_ishl C dX9_fallingWith_24 ?_
    refine sm_aload_n C 1 rfl dX9_fallingWith_25 rfl ?_
    refine sm_getC C fo_9_10 rfl wd58 kd_0 dX9_fallingWith_26 rfl (fun j_5 hj_5 => ?_)
    refine sm_iload_n C 0 rfl dX9_fallingWith_29 rfl ?_
    refine sm_cVI (As := [.int r_2]) C cfX0_heirsOf wd212 (kdC hj_5) rfl rfl rfl rfl rfl dX9_fallingWith_30 (fun r h => mX0_heirsOf hj_5 h) (fun r_6 => ?_)
    refine sm_ior C dX9_fallingWith_33 ?_
    refine sm_aload_n C 1 rfl dX9_fallingWith_34 rfl ?_
    refine sm_getR C fo_9_2 rfl wd115 kd_0 dX9_fallingWith_35 (rv_0_2 w) (by decide) ?_
    refine sm_aload_n C 1 rfl dX9_fallingWith_38 rfl ?_
    refine sm_getC C fo_9_10 rfl wd58 kd_0 dX9_fallingWith_39 rfl (fun j_8 hj_8 => ?_)
    refine sm_cVI (As := [.ref (hB G + j_8)]) C cfX6_passing wd137 kd_4 rfl rfl rfl rfl rfl dX9_fallingWith_42 (fun r h => mX6_passing hj_8 h) (fun r_9 => ?_)
    refine sm_iand C dX9_fallingWith_45 ?_
    exact sm_iret C E rfl dX9_fallingWith_46
/-! X9_falls -/
set_option maxRecDepth 100000 in
set_option maxHeartbeats 4000000 in
theorem mX9_falls {b : Bx} {w : HW} {x1 : Int32} {a : Int32 × HW} (h : fX9_falls w x1 = some a) : Mt b yX9_falls cX9_falls 2 (some .int) 6 135 [.ref (bB b + 0), .int x1] w (some (.int a.1)) a.2 := by
  refine Mt.of ρIW h (by decide) (Nat.le_of_ble_eq_true rfl) (fun G hG C E => ?_)
  subst hG
  have C : Cx G cX9_falls RX9 2 6 135 := C
  change Sm G a 0 [(0, .ref (hB G + 0)), (1, .int x1)] [] w _
  unfold fX9_falls
  refine sm_aload_n C 0 rfl dX9_falls_0 rfl ?_
  refine sm_getC C fo_9_10 rfl wd58 kd_0 dX9_falls_1 rfl (fun j_1 hj_1 => ?_)
  refine sm_iload_n C 1 rfl dX9_falls_4 rfl ?_
  refine sm_cVI (As := [.int x1]) C cfX0_hasDay wd80 (kdC hj_1) rfl rfl rfl rfl rfl dX9_falls_5 (fun r h => mX0_hasDay hj_1 h) (fun r_2 => ?_)
  refine sm_if_ne C dX9_falls_8 (tgt := 14) rfl (fun h_4 => ?_) (fun h_4 => ?_)
  · refine sm_bipush C bp_m2 dX9_falls_11 ?_
    exact sm_iret C E rfl dX9_falls_13
  · refine sm_aload_n C 0 rfl dX9_falls_14 rfl ?_
    refine sm_getR C fo_9_2 rfl wd115 kd_0 dX9_falls_15 (rv_0_2 w) (by decide) ?_
    refine sm_aload_n C 0 rfl dX9_falls_18 rfl ?_
    refine sm_getC C fo_9_10 rfl wd58 kd_0 dX9_falls_19 rfl (fun j_5 hj_5 => ?_)
    refine sm_cVW (As := [.ref (hB G + j_5)]) C cfX6_play wd116 kd_4 rfl rfl rfl rfl rfl dX9_falls_22 (fun r h => mX6_play hj_5 h) (fun w_7 => ?_)
    refine sm_aload_n C 0 rfl dX9_falls_25 rfl ?_
    refine sm_iload_n C 1 rfl dX9_falls_26 rfl ?_
    refine sm_cVI (As := [.int x1]) C cfX9_fallingWith wd213 kd_0 rfl rfl rfl rfl rfl dX9_falls_27 (fun r h => mX9_fallingWith  h) (fun r_8 => ?_)
    exact sm_iret C E rfl dX9_falls_30
/-! X9_worst -/
set_option maxRecDepth 100000 in
set_option maxHeartbeats 4000000 in
theorem sX9_worst_30 {G : Gx} {a : Int32 × HW} (C : Cx G cX9_worst RX9 5 6 135) (E : Rx G ρIW a (some .int)) : ∀ (n : Nat) (w : HW) (x1 : Int32) (x2 : Int32) (x3 : Int32), Sm G a 30 [(0, .ref (hB G + 0)), (1, .int x1), (2, .int x2), (3, .int x3)] [] w (fX9_worst_30 n w x1 x2 x3) := by
  intro n
  induction n with
  | zero => intro _ _ _ _; exact sm_none
  | succ n ih =>
    intro w x1 x2 x3
    rw [fX9_worst_30]
    refine sm_iload_n C 3 rfl dX9_worst_30 rfl ?_
    refine sm_aload_n C 0 rfl dX9_worst_31 rfl ?_
    refine sm_getC C fo_9_10 rfl wd58 kd_0 dX9_worst_32 rfl (fun j_8 hj_8 => ?_)
    refine sm_getI C fo_0_1 rfl wd118 (kdC hj_8) dX9_worst_35 ?_
    refine sm_icmp_ge C dX9_worst_38 (tgt := 72) rfl (fun h_9 => ?_) (fun h_9 => ?_)
    · refine sm_aload_n C 0 rfl dX9_worst_41 rfl ?_
      refine sm_getC C fo_9_10 rfl wd58 kd_0 dX9_worst_42 rfl (fun j_10 hj_10 => ?_)
      refine sm_aload_n C 0 rfl dX9_worst_45 rfl ?_
      refine sm_iload_n C 3 rfl dX9_worst_46 rfl ?_
      refine sm_cVI (As := [.int x3]) C cfX9_fallingWith wd213 kd_0 rfl rfl rfl rfl rfl dX9_worst_47 (fun r h => mX9_fallingWith  h) (fun r_11 => ?_)
      refine sm_cVI (As := [.int r_11]) C cfX0_worthOf wd139 (kdC hj_10) rfl rfl rfl rfl rfl dX9_worst_50 (fun r h => mX0_worthOf hj_10 h) (fun r_13 => ?_)
      refine sm_istore (lv1 := [(4, .int r_13), (0, .ref (hB G + 0)), (1, .int x1), (2, .int x2), (3, .int x3)]) C dX9_worst_53 rfl rfl ?_
      refine sm_iload C 0 rfl dX9_worst_55 ?_
      refine sm_iload_n C 3 rfl dX9_worst_57 rfl ?_
      refine sm_icmp_le C dX9_worst_58 (tgt := 66) rfl (fun h_15 => ?_) (fun h_15 => ?_)
      · refine sm_iload C 0 rfl dX9_worst_61 ?_
        refine sm_istore_n (lv1 := [(2, .int r_13), (4, .int r_13), (0, .ref (hB G + 0)), (1, .int x1), (3, .int x3)]) C dX9_worst_63 rfl rfl rfl ?_
        refine sm_iload_n C 4 rfl dX9_worst_64 rfl ?_
        refine sm_istore_n (lv1 := [(1, .int x3), (2, .int r_13), (4, .int r_13), (0, .ref (hB G + 0)), (3, .int x3)]) C dX9_worst_65 rfl rfl rfl ?_
        refine sm_iinc (lv1 := [(3, .int (x3 + 1)), (1, .int x3), (2, .int r_13), (4, .int r_13), (0, .ref (hB G + 0))]) C 4 rfl (iv_1 _) dX9_worst_66 rfl rfl ?_
        refine sm_goto C dX9_worst_69 (tgt := 30) rfl ?_
        refine sm_sub [4, 1, 2, 0] rfl ?_
        exact ih w x3 r_13 (x3 + 1)
      · refine sm_iinc (lv1 := [(3, .int (x3 + 1)), (4, .int r_13), (0, .ref (hB G + 0)), (1, .int x1), (2, .int x2)]) C 4 rfl (iv_1 _) dX9_worst_66 rfl rfl ?_
        refine sm_goto C dX9_worst_69 (tgt := 30) rfl ?_
        refine sm_sub [2, 3, 4, 0] rfl ?_
        exact ih w x1 x2 (x3 + 1)
    · refine sm_iload_n C 1 rfl dX9_worst_72 rfl ?_
      exact sm_iret C E rfl dX9_worst_73
set_option maxRecDepth 100000 in
set_option maxHeartbeats 4000000 in
theorem mX9_worst {b : Bx} {w : HW} {a : Int32 × HW} (h : fX9_worst w = some a) : Mt b yX9_worst cX9_worst 5 (some .int) 6 135 [.ref (bB b + 0)] w (some (.int a.1)) a.2 := by
  refine Mt.of ρIW h (by decide) (Nat.le_of_ble_eq_true rfl) (fun G hG C E => ?_)
  subst hG
  have C : Cx G cX9_worst RX9 5 6 135 := C
  change Sm G a 0 [(0, .ref (hB G + 0))] [] w _
  unfold fX9_worst
  refine sm_aload_n C 0 rfl dX9_worst_0 rfl ?_
  refine sm_getC C fo_9_10 rfl wd58 kd_0 dX9_worst_1 rfl (fun j_1 hj_1 => ?_)
  refine sm_cVI (As := []) C cfX0_isTold wd70 (kdC hj_1) rfl rfl rfl rfl rfl dX9_worst_4 (fun r h => mX0_isTold hj_1 h) (fun r_2 => ?_)
  refine sm_if_ne C dX9_worst_7 (tgt := 13) rfl (fun h_4 => ?_) (fun h_4 => ?_)
  · refine sm_bipush C bp_m2 dX9_worst_10 ?_
    exact sm_iret C E rfl dX9_worst_12
  · refine sm_aload_n C 0 rfl dX9_worst_13 rfl ?_
    refine sm_getR C fo_9_2 rfl wd115 kd_0 dX9_worst_14 (rv_0_2 w) (by decide) ?_
    refine sm_aload_n C 0 rfl dX9_worst_17 rfl ?_
    refine sm_getC C fo_9_10 rfl wd58 kd_0 dX9_worst_18 rfl (fun j_5 hj_5 => ?_)
    refine sm_cVW (As := [.ref (hB G + j_5)]) C cfX6_play wd116 kd_4 rfl rfl rfl rfl rfl dX9_worst_21 (fun r h => mX6_play hj_5 h) (fun w_7 => ?_)
    refine sm_iconst C ic_m1 dX9_worst_24 ?_
    refine sm_istore_n (lv1 := [(1, .int (-1)), (0, .ref (hB G + 0))]) C dX9_worst_25 rfl rfl rfl ?_
    refine sm_iconst C ic_0 dX9_worst_26 ?_
    refine sm_istore_n (lv1 := [(2, .int 0), (1, .int (-1)), (0, .ref (hB G + 0))]) C dX9_worst_27 rfl rfl rfl ?_
    refine sm_iconst C ic_0 dX9_worst_28 ?_
    refine sm_istore_n (lv1 := [(3, .int 0), (2, .int 0), (1, .int (-1)), (0, .ref (hB G + 0))]) C dX9_worst_29 rfl rfl rfl ?_
    refine sm_sub [3, 2, 1, 0] rfl ?_
    exact sX9_worst_30 C E FU w_7 (-1) 0 0
/-! X9_needs -/
set_option maxRecDepth 100000 in
set_option maxHeartbeats 4000000 in
theorem mX9_needs {b : Bx} {w : HW} {x1 : Int32} {a : Int32} (h : fX9_needs w x1 = some a) : Mt b yX9_needs cX9_needs 2 (some .int) 1 24 [.ref (bB b + 0), .int x1] w (some (.int a)) w := by
  refine Mt.of (ρI w) h (by decide) (Nat.le_of_ble_eq_true rfl) (fun G hG C E => ?_)
  subst hG
  have C : Cx G cX9_needs RX9 2 1 24 := C
  change Sm G a 0 [(0, .ref (hB G + 0)), (1, .int x1)] [] w _
  unfold fX9_needs
  refine sm_aload_n C 0 rfl dX9_needs_0 rfl ?_
  refine sm_getC C fo_9_10 rfl wd58 kd_0 dX9_needs_1 rfl (fun j_1 hj_1 => ?_)
  refine sm_iload_n C 1 rfl dX9_needs_4 rfl ?_
  refine sm_cVI (As := [.int x1]) C cfX0_hasBill wd66 (kdC hj_1) rfl rfl rfl rfl rfl dX9_needs_5 (fun r h => mX0_hasBill hj_1 h) (fun r_2 => ?_)
  refine sm_if_eq C dX9_needs_8 (tgt := 22) rfl (fun h_4 => ?_) (fun h_4 => ?_)
  · refine sm_aload_n C 0 rfl dX9_needs_11 rfl ?_
    refine sm_getC C fo_9_10 rfl wd58 kd_0 dX9_needs_12 rfl (fun j_5 hj_5 => ?_)
    refine sm_iload_n C 1 rfl dX9_needs_15 rfl ?_
    refine sm_cVI (As := [.int x1]) C cfX0_needsOf wd193 (kdC hj_5) rfl rfl rfl rfl rfl dX9_needs_16 (fun r h => mX0_needsOf hj_5 h) (fun r_6 => ?_)
    refine sm_goto C dX9_needs_19 (tgt := 24) rfl ?_
    exact sm_iret C E rfl dX9_needs_24
  · refine sm_bipush C bp_m2 dX9_needs_22 ?_
    exact sm_iret C E rfl dX9_needs_24
/-! X9_heirs -/
set_option maxRecDepth 100000 in
set_option maxHeartbeats 4000000 in
theorem mX9_heirs {b : Bx} {w : HW} {x1 : Int32} {a : Int32} (h : fX9_heirs w x1 = some a) : Mt b yX9_heirs cX9_heirs 2 (some .int) 2 47 [.ref (bB b + 0), .int x1] w (some (.int a)) w := by
  refine Mt.of (ρI w) h (by decide) (Nat.le_of_ble_eq_true rfl) (fun G hG C E => ?_)
  subst hG
  have C : Cx G cX9_heirs RX9 2 2 47 := C
  change Sm G a 0 [(0, .ref (hB G + 0)), (1, .int x1)] [] w _
  unfold fX9_heirs
  refine sm_aload_n C 0 rfl dX9_heirs_0 rfl ?_
  refine sm_getC C fo_9_10 rfl wd58 kd_0 dX9_heirs_1 rfl (fun j_1 hj_1 => ?_)
  refine sm_iload_n C 1 rfl dX9_heirs_4 rfl ?_
  refine sm_cVI (As := [.int x1]) C cfX0_hasBill wd66 (kdC hj_1) rfl rfl rfl rfl rfl dX9_heirs_5 (fun r h => mX0_hasBill hj_1 h) (fun r_2 => ?_)
  refine sm_if_eq C dX9_heirs_8 (tgt := 22) rfl (fun h_4 => ?_) (fun h_4 => ?_)
  · refine sm_aload_n C 0 rfl dX9_heirs_11 rfl ?_
    refine sm_getC C fo_9_10 rfl wd58 kd_0 dX9_heirs_12 rfl (fun j_5 hj_5 => ?_)
    refine sm_iload_n C 1 rfl dX9_heirs_15 rfl ?_
    refine sm_cVI (As := [.int x1]) C cfX0_heirsOf wd212 (kdC hj_5) rfl rfl rfl rfl rfl dX9_heirs_16 (fun r h => mX0_heirsOf hj_5 h) (fun r_6 => ?_)
    refine sm_goto C dX9_heirs_19 (tgt := 24) rfl ?_
    exact sm_iret C E rfl dX9_heirs_24
  · refine sm_bipush C bp_m2 dX9_heirs_22 ?_
    exact sm_iret C E rfl dX9_heirs_24
/-! X9_hasSlot -/
set_option maxRecDepth 100000 in
set_option maxHeartbeats 4000000 in
theorem mX9_hasSlot {b : Bx} {w : HW} {x0 : Int32} {a : Int32} (h : fX9_hasSlot w x0 = some a) : Mt b yX9_hasSlot cX9_hasSlot 1 (some .boolean) 0 0 [.int x0] w (some (.int a)) w := by
  refine Mt.of (ρI w) h (by decide) (Nat.le_of_ble_eq_true rfl) (fun G hG C E => ?_)
  subst hG
  have C : Cx G cX9_hasSlot RX9 1 0 0 := C
  change Sm G a 0 [(0, .int x0)] [] w _
  unfold fX9_hasSlot
  refine sm_iload_n C 0 rfl dX9_hasSlot_0 rfl ?_
  refine sm_if_lt C dX9_hasSlot_1 (tgt := 13) rfl (fun h_1 => ?_) (fun h_1 => ?_)
  · refine sm_iload_n C 0 rfl dX9_hasSlot_4 rfl ?_
    refine sm_iconst C ic_4 dX9_hasSlot_5 ?_
    refine sm_icmp_ge C dX9_hasSlot_6 (tgt := 13) rfl (fun h_2 => ?_) (fun h_2 => ?_)
    · refine sm_iconst C ic_1 dX9_hasSlot_9 ?_
      refine sm_goto C dX9_hasSlot_10 (tgt := 14) rfl ?_
      exact sm_zret C E rfl rfl dX9_hasSlot_14
    · refine sm_iconst C ic_0 dX9_hasSlot_13 ?_
      exact sm_zret C E rfl rfl dX9_hasSlot_14
  · refine sm_iconst C ic_0 dX9_hasSlot_13 ?_
    exact sm_zret C E rfl rfl dX9_hasSlot_14
/-! X5_isThere -/
set_option maxRecDepth 100000 in
set_option maxHeartbeats 4000000 in
theorem mX5_isThere {b : Bx} {w : HW} {k0 : Nat} (hk0 : isR k0 = true) {a : Int32} (h : fX5_isThere w k0 = some a) : Mt b yX5_isThere cX5_isThere 1 (some .boolean) 0 0 [.ref (bB b + k0)] w (some (.int a)) w := by
  refine Mt.of (ρI w) h (by decide) (Nat.le_of_ble_eq_true rfl) (fun G hG C E => ?_)
  subst hG
  have C : Cx G cX5_isThere RX5 1 0 0 := C
  change Sm G a 0 [(0, .ref (hB G + k0))] [] w _
  unfold fX5_isThere
  refine sm_aload_n C 0 rfl dX5_isThere_0 rfl ?_
  refine sm_getI C fo_5_1 rfl wd214 (kdR hk0) dX5_isThere_1 ?_
  refine sm_iconst C ic_m1 dX5_isThere_4 ?_
  refine sm_icmp_eq C dX5_isThere_5 (tgt := 12) rfl (fun h_1 => ?_) (fun h_1 => ?_)
  · refine sm_iconst C ic_1 dX5_isThere_8 ?_
    refine sm_goto C dX5_isThere_9 (tgt := 13) rfl ?_
    exact sm_zret C E rfl rfl dX5_isThere_13
  · refine sm_iconst C ic_0 dX5_isThere_12 ?_
    exact sm_zret C E rfl rfl dX5_isThere_13
/-! X2_readRow -/
set_option maxRecDepth 100000 in
set_option maxHeartbeats 4000000 in
theorem sX2_readRow_23 {G : Gx} {a : Int32 × HW} (C : Cx G cX2_readRow RX2 8 0 0) (E : Rx G ρIW a (some .boolean)) {k1 : Nat} (hk1 : isC k1 = true) {k2 : Nat} (hk2 : isR k2 = true) : ∀ (n : Nat) (w : HW) (x3 : Int32), Sm G a 23 [(0, .ref (hB G + 20)), (1, .ref (hB G + k1)), (2, .ref (hB G + k2)), (3, .int x3)] [] w (fX2_readRow_23 k1 k2 n w x3) := by
  intro n
  induction n with
  | zero => intro _ _; exact sm_none
  | succ n ih =>
    intro w x3
    rw [fX2_readRow_23]
    refine sm_iload_n C 3 rfl dX2_readRow_23 rfl ?_
    refine sm_iconst C ic_1 dX2_readRow_24 ?_
    refine sm_iadd C dX2_readRow_25 ?_
    refine sm_aload_n C 2 rfl dX2_readRow_26 rfl ?_
    refine sm_getI C fo_5_2 rfl wd217 (kdR hk2) dX2_readRow_27 ?_
    refine sm_icmp_ge C dX2_readRow_30 (tgt := 129) rfl (fun h_4 => ?_) (fun h_4 => ?_)
    · refine sm_aload_n C 2 rfl dX2_readRow_33 rfl ?_
      refine sm_getR C fo_5_0 rfl wd218 (kdR hk2) dX2_readRow_34 (rvR_0 hk2 w) (nzR_1 hk2) ?_
      refine sm_iload_n C 3 rfl dX2_readRow_37 rfl ?_
      refine sm_lald C (kdR_1 hk2) dX2_readRow_38 (fun h_5 => ?_)
      refine sm_letL (fun x4_6 => ?_)
      refine sm_lstore (lv1 := [(4, .long x4_6), (0, .ref (hB G + 20)), (1, .ref (hB G + k1)), (2, .ref (hB G + k2)), (3, .int x3)]) C dX2_readRow_39 rfl rfl ?_
      refine sm_aload_n C 3 rfl dX2_readRow_41 rfl ?_
      refine sm_getR C fo_5_0 rfl wd218 (kdR hk2) dX2_readRow_42 (rvR_0 hk2 w) (nzR_1 hk2) ?_
      refine sm_iload_n C 4 rfl dX2_readRow_45 rfl ?_
      refine sm_iconst C ic_1 dX2_readRow_46 ?_
      refine sm_iadd C dX2_readRow_47 ?_
      refine sm_lald C (kdR_1 hk2) dX2_readRow_48 (fun h_7 => ?_)
      refine sm_letL (fun x6_8 => ?_)
      refine sm_lstore (lv1 := [(6, .long x6_8), (4, .long x4_6), (0, .ref (hB G + 20)), (1, .ref (hB G + k1)), (2, .ref (hB G + k2)), (3, .int x3)]) C dX2_readRow_49 rfl rfl ?_
      refine sm_lload C 1 rfl dX2_readRow_51 ?_
      refine sm_lconst C lc_0 dX2_readRow_53 ?_
      refine sm_lcmp C dX2_readRow_54 ?_
      refine sm_if_lt C dX2_readRow_55 (tgt := 83) rfl (fun h_9 => ?_) (fun h_9 => ?_)
      · refine sm_lload C 1 rfl dX2_readRow_58 ?_
        refine sm_aload_n C 3 rfl dX2_readRow_60 rfl ?_
        refine sm_getI C fo_0_1 rfl wd219 (kdC hk1) dX2_readRow_61 ?_
        refine sm_i2l C dX2_readRow_64 ?_
        refine sm_lcmp C dX2_readRow_65 ?_
        refine sm_if_ge C dX2_readRow_66 (tgt := 83) rfl (fun h_10 => ?_) (fun h_10 => ?_)
        · refine sm_lload C 0 rfl dX2_readRow_69 ?_
          refine sm_lconst C lc_0 dX2_readRow_71 ?_
          refine sm_lcmp C dX2_readRow_72 ?_
          refine sm_if_lt C dX2_readRow_73 (tgt := 83) rfl (fun h_11 => ?_) (fun h_11 => ?_)
          · refine sm_lload C 0 rfl dX2_readRow_76 ?_
            refine sm_lconst C lc_1 dX2_readRow_78 ?_
            refine sm_lcmp C dX2_readRow_79 ?_
            refine sm_if_le C dX2_readRow_80 (tgt := 85) rfl (fun h_12 => ?_) (fun h_12 => ?_)
            · refine sm_iconst C ic_0 dX2_readRow_83 ?_
              exact sm_zret C E rfl rfl dX2_readRow_84
            · refine sm_lload C 0 rfl dX2_readRow_85 ?_
              refine sm_lconst C lc_1 dX2_readRow_87 ?_
              refine sm_lcmp C dX2_readRow_88 ?_
              refine sm_if_ne C dX2_readRow_89 (tgt := 109) rfl (fun h_13 => ?_) (fun h_13 => ?_)
              · refine sm_aload_n C 2 rfl dX2_readRow_92 rfl ?_
                refine sm_dup C rfl dX2_readRow_93 ?_
                refine sm_getI C fo_2_5 rfl wd215 kd_20 dX2_readRow_94 ?_
                refine sm_iconst C ic_1 dX2_readRow_97 ?_
                refine sm_lload C 1 rfl dX2_readRow_98 ?_
                refine sm_l2i C dX2_readRow_100 ?_
                refine sm_ishl C dX2_readRow_101 ?_
                refine sm_ior C dX2_readRow_102 ?_
                refine sm_putI C fo_2_5 rfl wd215 kd_20 rfl dX2_readRow_103 (fun w_14 => ?_)
                refine sm_goto C dX2_readRow_106 (tgt := 123) rfl ?_
                refine sm_iinc (lv1 := [(3, .int (x3 + 2)), (6, .long x6_8), (4, .long x4_6), (0, .ref (hB G + 20)), (1, .ref (hB G + k1)), (2, .ref (hB G + k2))]) C 5 rfl (iv_2 _) dX2_readRow_123 rfl rfl ?_
                refine sm_goto C dX2_readRow_126 (tgt := 23) rfl ?_
                refine sm_sub [3, 4, 5, 0] rfl ?_
                exact ih w_14 (x3 + 2)
              · refine sm_aload_n C 2 rfl dX2_readRow_109 rfl ?_
                refine sm_dup C rfl dX2_readRow_110 ?_
                refine sm_getI C fo_2_6 rfl wd216 kd_20 dX2_readRow_111 ?_
                refine sm_iconst C ic_1 dX2_readRow_114 ?_
                refine sm_lload C 1 rfl dX2_readRow_115 ?_
                refine sm_l2i C dX2_readRow_117 ?_
                refine sm_ishl C dX2_readRow_118 ?_
                refine sm_ior C dX2_readRow_119 ?_
                refine sm_putI C fo_2_6 rfl wd216 kd_20 rfl dX2_readRow_120 (fun w_15 => ?_)
                refine sm_iinc (lv1 := [(3, .int (x3 + 2)), (6, .long x6_8), (4, .long x4_6), (0, .ref (hB G + 20)), (1, .ref (hB G + k1)), (2, .ref (hB G + k2))]) C 5 rfl (iv_2 _) dX2_readRow_123 rfl rfl ?_
                refine sm_goto C dX2_readRow_126 (tgt := 23) rfl ?_
                refine sm_sub [3, 4, 5, 0] rfl ?_
                exact ih w_15 (x3 + 2)
          · refine sm_iconst C ic_0 dX2_readRow_83 ?_
            exact sm_zret C E rfl rfl dX2_readRow_84
        · refine sm_iconst C ic_0 dX2_readRow_83 ?_
          exact sm_zret C E rfl rfl dX2_readRow_84
      · refine sm_iconst C ic_0 dX2_readRow_83 ?_
        exact sm_zret C E rfl rfl dX2_readRow_84
    · refine sm_iconst C ic_1 dX2_readRow_129 ?_
      exact sm_zret C E rfl rfl dX2_readRow_130
set_option maxRecDepth 100000 in
set_option maxHeartbeats 4000000 in
theorem mX2_readRow {b : Bx} {w : HW} {k1 : Nat} {k2 : Nat} (hk1 : isC k1 = true) (hk2 : isR k2 = true) {a : Int32 × HW} (h : fX2_readRow w k1 k2 = some a) : Mt b yX2_readRow cX2_readRow 8 (some .boolean) 0 0 [.ref (bB b + 20), .ref (bB b + k1), .ref (bB b + k2)] w (some (.int a.1)) a.2 := by
  refine Mt.of ρIW h (by decide) (Nat.le_of_ble_eq_true rfl) (fun G hG C E => ?_)
  subst hG
  have C : Cx G cX2_readRow RX2 8 0 0 := C
  change Sm G a 0 [(0, .ref (hB G + 20)), (1, .ref (hB G + k1)), (2, .ref (hB G + k2))] [] w _
  unfold fX2_readRow
  refine sm_aload_n C 0 rfl dX2_readRow_0 rfl ?_
  refine sm_iconst C ic_0 dX2_readRow_1 ?_
  refine sm_putI C fo_2_5 rfl wd215 kd_20 rfl dX2_readRow_2 (fun w_1 => ?_)
  refine sm_aload_n C 0 rfl dX2_readRow_5 rfl ?_
  refine sm_iconst C ic_0 dX2_readRow_6 ?_
  refine sm_putI C fo_2_6 rfl wd216 kd_20 rfl dX2_readRow_7 (fun w_2 => ?_)
  refine sm_aload_n C 2 rfl dX2_readRow_10 rfl ?_
  refine sm_getI C fo_5_2 rfl wd217 (kdR hk2) dX2_readRow_11 ?_
  refine sm_iconst C ic_2 dX2_readRow_14 ?_
  refine sm_irem C (by decide) dX2_readRow_15 ?_
  refine sm_if_eq C dX2_readRow_16 (tgt := 21) rfl (fun h_3 => ?_) (fun h_3 => ?_)
  · refine sm_iconst C ic_0 dX2_readRow_19 ?_
    exact sm_zret C E rfl rfl dX2_readRow_20
  · refine sm_iconst C ic_0 dX2_readRow_21 ?_
    refine sm_istore_n (lv1 := [(3, .int 0), (0, .ref (hB G + 20)), (1, .ref (hB G + k1)), (2, .ref (hB G + k2))]) C dX2_readRow_22 rfl rfl rfl ?_
    refine sm_sub [1, 2, 3, 0] rfl ?_
    exact sX2_readRow_23 C E hk1 hk2 FU w_2 0
/-! X2_eatingDays -/
set_option maxRecDepth 100000 in
set_option maxHeartbeats 4000000 in
theorem sX2_eatingDays_36 {G : Gx} {a : Int32} {w : HW} (C : Cx G cX2_eatingDays RX2 6 0 0) (E : Rx G (ρI w) a (some .int)) {K4 : Int32 → Int32 → Option Int32} (k0 : Nat) (hk0 : isC k0 = true) (x1 : Int32) (x2 : Int32) (x3 : Int32) (x4 : Int32) (s0 : Int32) (hK4 : ∀ (x3' : Int32) (x4' : Int32), Sm G a 5 [(0, .ref (hB G + k0)), (1, .int x1), (2, .int x2), (3, .int (x3')), (4, .int (x4'))] [] w (K4 x3' x4')) : Sm G a 36 [(0, .ref (hB G + k0)), (1, .int x1), (2, .int x2), (3, .int x3), (4, .int x4)] [.int s0] w (fX2_eatingDays_36 w K4 k0 x1 x2 x3 x4 s0) := by
  unfold fX2_eatingDays_36
  refine sm_istore (lv1 := [(5, .int s0), (0, .ref (hB G + k0)), (1, .int x1), (2, .int x2), (3, .int x3), (4, .int x4)]) C dX2_eatingDays_36 rfl rfl ?_
  refine sm_iload C 0 rfl dX2_eatingDays_38 ?_
  refine sm_aload_n C 1 rfl dX2_eatingDays_40 rfl ?_
  refine sm_getI C fo_0_3 rfl wd220 (kdC hk0) dX2_eatingDays_41 ?_
  refine sm_icmp_lt C dX2_eatingDays_44 (tgt := 54) rfl (fun h_4 => ?_) (fun h_4 => ?_)
  · refine sm_iload_n C 4 rfl dX2_eatingDays_47 rfl ?_
    refine sm_iconst C ic_1 dX2_eatingDays_48 ?_
    refine sm_iload C 5 rfl dX2_eatingDays_49 ?_
    refine sm_ishl C dX2_eatingDays_51 ?_
    refine sm_ior C dX2_eatingDays_52 ?_
    refine sm_let (fun x3_5 => ?_)
    refine sm_istore_n (lv1 := [(3, .int x3_5), (5, .int s0), (0, .ref (hB G + k0)), (1, .int x1), (2, .int x2), (4, .int x4)]) C dX2_eatingDays_53 rfl rfl rfl ?_
    refine sm_iinc (lv1 := [(4, .int (x4 + 1)), (3, .int x3_5), (5, .int s0), (0, .ref (hB G + k0)), (1, .int x1), (2, .int x2)]) C 5 rfl (iv_1 _) dX2_eatingDays_54 rfl rfl ?_
    refine sm_goto C dX2_eatingDays_57 (tgt := 5) rfl ?_
    refine sm_sub [3, 4, 5, 1, 0] rfl ?_
    exact hK4 x3_5 (x4 + 1)
  · refine sm_iinc (lv1 := [(4, .int (x4 + 1)), (5, .int s0), (0, .ref (hB G + k0)), (1, .int x1), (2, .int x2), (3, .int x3)]) C 5 rfl (iv_1 _) dX2_eatingDays_54 rfl rfl ?_
    refine sm_goto C dX2_eatingDays_57 (tgt := 5) rfl ?_
    refine sm_sub [2, 3, 4, 5, 0] rfl ?_
    exact hK4 x3 (x4 + 1)
set_option maxRecDepth 100000 in
set_option maxHeartbeats 4000000 in
theorem sX2_eatingDays_5 {G : Gx} {a : Int32} {w : HW} (C : Cx G cX2_eatingDays RX2 6 0 0) (E : Rx G (ρI w) a (some .int)) {k0 : Nat} (hk0 : isC k0 = true) {x1 : Int32} {x2 : Int32} : ∀ (n : Nat) (x3 : Int32) (x4 : Int32), Sm G a 5 [(0, .ref (hB G + k0)), (1, .int x1), (2, .int x2), (3, .int x3), (4, .int x4)] [] w (fX2_eatingDays_5 w k0 x1 x2 n x3 x4) := by
  intro n
  induction n with
  | zero => intro _ _; exact sm_none
  | succ n ih =>
    intro x3 x4
    rw [fX2_eatingDays_5]
    refine sm_iload C 4 rfl dX2_eatingDays_5 ?_
    refine sm_aload_n C 0 rfl dX2_eatingDays_7 rfl ?_
    refine sm_getI C fo_0_1 rfl wd219 (kdC hk0) dX2_eatingDays_8 ?_
    refine sm_icmp_ge C dX2_eatingDays_11 (tgt := 60) rfl (fun h_1 => ?_) (fun h_1 => ?_)
    · refine sm_iload_n C 2 rfl dX2_eatingDays_14 rfl ?_
      refine sm_iconst C ic_m1 dX2_eatingDays_15 ?_
      refine sm_icmp_eq C dX2_eatingDays_16 (tgt := 25) rfl (fun h_2 => ?_) (fun h_2 => ?_)
      · refine sm_iload C 4 rfl dX2_eatingDays_19 ?_
        refine sm_iload_n C 2 rfl dX2_eatingDays_21 rfl ?_
        refine sm_icmp_gt C dX2_eatingDays_22 (tgt := 32) rfl (fun h_3 => ?_) (fun h_3 => ?_)
        · refine sm_iload_n C 1 rfl dX2_eatingDays_25 rfl ?_
          refine sm_iload C 4 rfl dX2_eatingDays_26 ?_
          refine sm_iadd C dX2_eatingDays_28 ?_
          refine sm_goto C dX2_eatingDays_29 (tgt := 36) rfl ?_
          exact sX2_eatingDays_36 C E k0 hk0 x1 x2 x3 x4 (x1 + x4) (fun x3 x4 => ih x3 x4)
        · refine sm_iload C 4 rfl dX2_eatingDays_32 ?_
          refine sm_iload_n C 2 rfl dX2_eatingDays_34 rfl ?_
          refine sm_isub C dX2_eatingDays_35 ?_
          exact sX2_eatingDays_36 C E k0 hk0 x1 x2 x3 x4 (x4 - x2) (fun x3 x4 => ih x3 x4)
      · refine sm_iload_n C 1 rfl dX2_eatingDays_25 rfl ?_
        refine sm_iload C 4 rfl dX2_eatingDays_26 ?_
        refine sm_iadd C dX2_eatingDays_28 ?_
        refine sm_goto C dX2_eatingDays_29 (tgt := 36) rfl ?_
        exact sX2_eatingDays_36 C E k0 hk0 x1 x2 x3 x4 (x1 + x4) (fun x3 x4 => ih x3 x4)
    · refine sm_iload_n C 3 rfl dX2_eatingDays_60 rfl ?_
      exact sm_iret C E rfl dX2_eatingDays_61
set_option maxRecDepth 100000 in
set_option maxHeartbeats 4000000 in
theorem mX2_eatingDays {b : Bx} {w : HW} {k0 : Nat} {x1 : Int32} {x2 : Int32} (hk0 : isC k0 = true) {a : Int32} (h : fX2_eatingDays w k0 x1 x2 = some a) : Mt b yX2_eatingDays cX2_eatingDays 6 (some .int) 0 0 [.ref (bB b + k0), .int x1, .int x2] w (some (.int a)) w := by
  refine Mt.of (ρI w) h (by decide) (Nat.le_of_ble_eq_true rfl) (fun G hG C E => ?_)
  subst hG
  have C : Cx G cX2_eatingDays RX2 6 0 0 := C
  change Sm G a 0 [(0, .ref (hB G + k0)), (1, .int x1), (2, .int x2)] [] w _
  unfold fX2_eatingDays
  refine sm_iconst C ic_0 dX2_eatingDays_0 ?_
  refine sm_istore_n (lv1 := [(3, .int 0), (0, .ref (hB G + k0)), (1, .int x1), (2, .int x2)]) C dX2_eatingDays_1 rfl rfl rfl ?_
  refine sm_iconst C ic_0 dX2_eatingDays_2 ?_
  refine sm_istore (lv1 := [(4, .int 0), (3, .int 0), (0, .ref (hB G + k0)), (1, .int x1), (2, .int x2)]) C dX2_eatingDays_3 rfl rfl ?_
  refine sm_sub [2, 3, 4, 1, 0] rfl ?_
  exact sX2_eatingDays_5 C E hk0 FU 0 0
/-! X2_weigh -/
set_option maxRecDepth 100000 in
set_option maxHeartbeats 4000000 in
theorem sX2_weigh_84 {G : Gx} {a : HW} (C : Cx G cX2_weigh RX2 6 1 25) (E : Rx G ρW a (none)) {k1 : Nat} (hk1 : isC k1 = true) {x4 : Int32} : ∀ (n : Nat) (w : HW) (x5 : Int32), Sm G a 84 [(0, .ref (hB G + 20)), (1, .ref (hB G + k1)), (4, .int x4), (5, .int x5)] [] w (fX2_weigh_84 k1 x4 n w x5) := by
  intro n
  induction n with
  | zero => intro _ _; exact sm_none
  | succ n ih =>
    intro w x5
    rw [fX2_weigh_84]
    refine sm_iload C 3 rfl dX2_weigh_84 ?_
    refine sm_aload_n C 1 rfl dX2_weigh_86 rfl ?_
    refine sm_getI C fo_0_1 rfl wd219 (kdC hk1) dX2_weigh_87 ?_
    refine sm_icmp_ge C dX2_weigh_90 (tgt := 116) rfl (fun h_11 => ?_) (fun h_11 => ?_)
    · refine sm_aload_n C 0 rfl dX2_weigh_93 rfl ?_
      refine sm_getR C fo_2_4 rfl wd226 kd_20 dX2_weigh_94 (rv_20_4 w) (by decide) ?_
      refine sm_iload C 3 rfl dX2_weigh_97 ?_
      refine sm_dup2 C rfl rfl dX2_weigh_99 ?_
      refine sm_iald C kd_21 dX2_weigh_100 (fun h_12 => ?_)
      refine sm_iload C 2 rfl dX2_weigh_101 ?_
      refine sm_iload C 3 rfl dX2_weigh_103 ?_
      refine sm_ishr C dX2_weigh_105 ?_
      refine sm_iconst C ic_1 dX2_weigh_106 ?_
      refine sm_iand C dX2_weigh_107 ?_
      refine sm_iadd C dX2_weigh_108 ?_
      refine sm_iast C kd_21 dX2_weigh_109 (fun h_13 w_14 => ?_)
      refine sm_iinc (lv1 := [(5, .int (x5 + 1)), (0, .ref (hB G + 20)), (1, .ref (hB G + k1)), (4, .int x4)]) C 3 rfl (iv_1 _) dX2_weigh_110 rfl rfl ?_
      refine sm_goto C dX2_weigh_113 (tgt := 84) rfl ?_
      refine sm_sub [1, 2, 3, 0] rfl ?_
      exact ih w_14 (x5 + 1)
    · exact sm_vret C E rfl dX2_weigh_116
set_option maxRecDepth 100000 in
set_option maxHeartbeats 4000000 in
theorem sX2_weigh_68 {G : Gx} {a : HW} (C : Cx G cX2_weigh RX2 6 1 25) (E : Rx G ρW a (none)) (w : HW) (k1 : Nat) (hk1 : isC k1 = true) (x2 : Int32) (x4 : Int32) : Sm G a 68 [(0, .ref (hB G + 20)), (1, .ref (hB G + k1)), (2, .int x2), (4, .int x4)] [] w (fX2_weigh_68 w k1 x2 x4) := by
  unfold fX2_weigh_68
  refine sm_aload_n C 0 rfl dX2_weigh_68 rfl ?_
  refine sm_getI C fo_2_3 rfl wd225 kd_20 dX2_weigh_69 ?_
  refine sm_iconst C ic_m1 dX2_weigh_72 ?_
  refine sm_icmp_ne C dX2_weigh_73 (tgt := 81) rfl (fun h_9 => ?_) (fun h_9 => ?_)
  · refine sm_aload_n C 0 rfl dX2_weigh_76 rfl ?_
    refine sm_iload_n C 2 rfl dX2_weigh_77 rfl ?_
    refine sm_putI C fo_2_3 rfl wd225 kd_20 rfl dX2_weigh_78 (fun w_10 => ?_)
    refine sm_iconst C ic_0 dX2_weigh_81 ?_
    refine sm_istore (lv1 := [(5, .int 0), (0, .ref (hB G + 20)), (1, .ref (hB G + k1)), (2, .int x2), (4, .int x4)]) C dX2_weigh_82 rfl rfl ?_
    refine sm_sub [1, 2, 4, 0] rfl ?_
    exact sX2_weigh_84 C E hk1 FU w_10 0
  · refine sm_iconst C ic_0 dX2_weigh_81 ?_
    refine sm_istore (lv1 := [(5, .int 0), (0, .ref (hB G + 20)), (1, .ref (hB G + k1)), (2, .int x2), (4, .int x4)]) C dX2_weigh_82 rfl rfl ?_
    refine sm_sub [1, 2, 4, 0] rfl ?_
    exact sX2_weigh_84 C E hk1 FU w 0
set_option maxRecDepth 100000 in
set_option maxHeartbeats 4000000 in
theorem mX2_weigh {b : Bx} {w : HW} {k1 : Nat} {x2 : Int32} {x3 : Int32} (hk1 : isC k1 = true) {a : HW} (h : fX2_weigh w k1 x2 x3 = some a) : Mt b yX2_weigh cX2_weigh 6 (none) 1 25 [.ref (bB b + 20), .ref (bB b + k1), .int x2, .int x3] w none a := by
  refine Mt.of ρW h (by decide) (Nat.le_of_ble_eq_true rfl) (fun G hG C E => ?_)
  subst hG
  have C : Cx G cX2_weigh RX2 6 1 25 := C
  change Sm G a 0 [(0, .ref (hB G + 20)), (1, .ref (hB G + k1)), (2, .int x2), (3, .int x3)] [] w _
  unfold fX2_weigh
  refine sm_aload_n C 1 rfl dX2_weigh_0 rfl ?_
  refine sm_iload_n C 2 rfl dX2_weigh_1 rfl ?_
  refine sm_iload_n C 3 rfl dX2_weigh_2 rfl ?_
  refine sm_cSI (As := [.ref (hB G + k1), .int x2, .int x3]) C cfX2_eatingDays wd221 rfl rfl rfl rfl dX2_weigh_3 (fun r h => mX2_eatingDays hk1 h) (fun r_1 => ?_)
  refine sm_istore (lv1 := [(4, .int r_1), (0, .ref (hB G + 20)), (1, .ref (hB G + k1)), (2, .int x2), (3, .int x3)]) C dX2_weigh_6 rfl rfl ?_
  refine sm_iload C 0 rfl dX2_weigh_8 ?_
  refine sm_aload_n C 1 rfl dX2_weigh_10 rfl ?_
  refine sm_getI C fo_2_5 rfl wd215 kd_20 dX2_weigh_11 ?_
  refine sm_iand C dX2_weigh_14 ?_
  refine sm_aload_n C 1 rfl dX2_weigh_15 rfl ?_
  refine sm_getI C fo_2_5 rfl wd215 kd_20 dX2_weigh_16 ?_
  refine sm_icmp_ne C dX2_weigh_19 (tgt := 32) rfl (fun h_3 => ?_) (fun h_3 => ?_)
  · refine sm_iload C 0 rfl dX2_weigh_22 ?_
    refine sm_aload_n C 1 rfl dX2_weigh_24 rfl ?_
    refine sm_getI C fo_2_6 rfl wd216 kd_20 dX2_weigh_25 ?_
    refine sm_iand C dX2_weigh_28 ?_
    refine sm_if_eq C dX2_weigh_29 (tgt := 33) rfl (fun h_4 => ?_) (fun h_4 => ?_)
    · exact sm_vret C E rfl dX2_weigh_32
    · refine sm_aload_n C 1 rfl dX2_weigh_33 rfl ?_
      refine sm_dup C rfl dX2_weigh_34 ?_
      refine sm_getI C fo_2_0 rfl wd222 kd_20 dX2_weigh_35 ?_
      refine sm_iconst C ic_1 dX2_weigh_38 ?_
      refine sm_iadd C dX2_weigh_39 ?_
      refine sm_putI C fo_2_0 rfl wd222 kd_20 rfl dX2_weigh_40 (fun w_5 => ?_)
      refine sm_iload_n C 4 rfl dX2_weigh_43 rfl ?_
      refine sm_iconst C ic_m1 dX2_weigh_44 ?_
      refine sm_icmp_ne C dX2_weigh_45 (tgt := 56) rfl (fun h_6 => ?_) (fun h_6 => ?_)
      · refine sm_aload_n C 1 rfl dX2_weigh_48 rfl ?_
        refine sm_iconst C ic_1 dX2_weigh_49 ?_
        refine sm_putI C fo_2_2 rfl wd223 kd_20 rfl dX2_weigh_50 (fun w_7 => ?_)
        refine sm_goto C dX2_weigh_53 (tgt := 68) rfl ?_
        refine sm_sub [1, 2, 3, 0] rfl ?_
        exact sX2_weigh_68 C E w_7 k1 hk1 x2 r_1
      · refine sm_aload_n C 1 rfl dX2_weigh_56 rfl ?_
        refine sm_dup C rfl dX2_weigh_57 ?_
        refine sm_getI C fo_2_1 rfl wd224 kd_20 dX2_weigh_58 ?_
        refine sm_iconst C ic_1 dX2_weigh_61 ?_
        refine sm_iload_n C 4 rfl dX2_weigh_62 rfl ?_
        refine sm_ishl C dX2_weigh_63 ?_
        refine sm_ior C dX2_weigh_64 ?_
        refine sm_putI C fo_2_1 rfl wd224 kd_20 rfl dX2_weigh_65 (fun w_8 => ?_)
        refine sm_sub [1, 2, 3, 0] rfl ?_
        exact sX2_weigh_68 C E w_8 k1 hk1 x2 r_1
  · exact sm_vret C E rfl dX2_weigh_32
/-! X2_look -/
set_option maxRecDepth 100000 in
set_option maxHeartbeats 4000000 in
theorem sX2_look_63 {G : Gx} {a : Int32 × HW} (C : Cx G cX2_look RX2 5 2 50) (E : Rx G ρIW a (some .boolean)) {K33 : HW → Int32 → Option (Int32 × HW)} {k1 : Nat} (hk1 : isC k1 = true) {x3 : Int32} (hK33 : ∀ (w' : HW) (x3' : Int32), Sm G a 54 [(0, .ref (hB G + 20)), (1, .ref (hB G + k1)), (3, .int (x3'))] [] w' (K33 w' x3')) : ∀ (n : Nat) (w : HW) (x4 : Int32), Sm G a 63 [(0, .ref (hB G + 20)), (1, .ref (hB G + k1)), (3, .int x3), (4, .int x4)] [] w (fX2_look_63 K33 k1 x3 n w x4) := by
  intro n
  induction n with
  | zero => intro _ _; exact sm_none
  | succ n ih =>
    intro w x4
    rw [fX2_look_63]
    refine sm_iload C 3 rfl dX2_look_63 ?_
    refine sm_aload_n C 1 rfl dX2_look_65 rfl ?_
    refine sm_getI C fo_0_1 rfl wd219 (kdC hk1) dX2_look_66 ?_
    refine sm_icmp_ge C dX2_look_69 (tgt := 86) rfl (fun h_12 => ?_) (fun h_12 => ?_)
    · refine sm_aload_n C 0 rfl dX2_look_72 rfl ?_
      refine sm_aload_n C 1 rfl dX2_look_73 rfl ?_
      refine sm_iload_n C 2 rfl dX2_look_74 rfl ?_
      refine sm_iload C 3 rfl dX2_look_75 ?_
      refine sm_cVW (As := [.ref (hB G + k1), .int x3, .int x4]) C cfX2_weigh wd228 kd_20 rfl rfl rfl rfl rfl dX2_look_77 (fun r h => mX2_weigh hk1 h) (fun w_14 => ?_)
      refine sm_iinc (lv1 := [(4, .int (x4 + 1)), (0, .ref (hB G + 20)), (1, .ref (hB G + k1)), (3, .int x3)]) C 3 rfl (iv_1 _) dX2_look_80 rfl rfl ?_
      refine sm_goto C dX2_look_83 (tgt := 63) rfl ?_
      refine sm_sub [1, 2, 3, 0] rfl ?_
      exact ih w_14 (x4 + 1)
    · refine sm_iinc (lv1 := [(3, .int (x3 + 1)), (0, .ref (hB G + 20)), (1, .ref (hB G + k1)), (4, .int x4)]) C 2 rfl (iv_1 _) dX2_look_86 rfl rfl ?_
      refine sm_goto C dX2_look_89 (tgt := 54) rfl ?_
      refine sm_sub [1, 2, 0] rfl ?_
      exact hK33 w (x3 + 1)
set_option maxRecDepth 100000 in
set_option maxHeartbeats 4000000 in
theorem sX2_look_54 {G : Gx} {a : Int32 × HW} (C : Cx G cX2_look RX2 5 2 50) (E : Rx G ρIW a (some .boolean)) {k1 : Nat} (hk1 : isC k1 = true) : ∀ (n : Nat) (w : HW) (x3 : Int32), Sm G a 54 [(0, .ref (hB G + 20)), (1, .ref (hB G + k1)), (3, .int x3)] [] w (fX2_look_54 k1 n w x3) := by
  intro n
  induction n with
  | zero => intro _ _; exact sm_none
  | succ n ih =>
    intro w x3
    rw [fX2_look_54]
    refine sm_iload_n C 2 rfl dX2_look_54 rfl ?_
    refine sm_bipush C bp_9 dX2_look_55 ?_
    refine sm_icmp_gt C dX2_look_57 (tgt := 92) rfl (fun h_11 => ?_) (fun h_11 => ?_)
    · refine sm_iconst C ic_m1 dX2_look_60 ?_
      refine sm_istore (lv1 := [(4, .int (-1)), (0, .ref (hB G + 20)), (1, .ref (hB G + k1)), (3, .int x3)]) C dX2_look_61 rfl rfl ?_
      refine sm_sub [1, 2, 3, 0] rfl ?_
      exact sX2_look_63 C E hk1 (fun w x3 => ih w x3) FU w (-1)
    · refine sm_iconst C ic_1 dX2_look_92 ?_
      exact sm_zret C E rfl rfl dX2_look_93
set_option maxRecDepth 100000 in
set_option maxHeartbeats 4000000 in
theorem sX2_look_33 {G : Gx} {a : Int32 × HW} (C : Cx G cX2_look RX2 5 2 50) (E : Rx G ρIW a (some .boolean)) {k1 : Nat} (hk1 : isC k1 = true) : ∀ (n : Nat) (w : HW) (x3 : Int32), Sm G a 33 [(0, .ref (hB G + 20)), (1, .ref (hB G + k1)), (3, .int x3)] [] w (fX2_look_33 k1 n w x3) := by
  intro n
  induction n with
  | zero => intro _ _; exact sm_none
  | succ n ih =>
    intro w x3
    rw [fX2_look_33]
    refine sm_iload_n C 2 rfl dX2_look_33 rfl ?_
    refine sm_bipush C bp_14 dX2_look_34 ?_
    refine sm_icmp_ge C dX2_look_36 (tgt := 52) rfl (fun h_8 => ?_) (fun h_8 => ?_)
    · refine sm_aload_n C 0 rfl dX2_look_39 rfl ?_
      refine sm_getR C fo_2_4 rfl wd226 kd_20 dX2_look_40 (rv_20_4 w) (by decide) ?_
      refine sm_iload_n C 2 rfl dX2_look_43 rfl ?_
      refine sm_iconst C ic_0 dX2_look_44 ?_
      refine sm_iast C kd_21 dX2_look_45 (fun h_9 w_10 => ?_)
      refine sm_iinc (lv1 := [(3, .int (x3 + 1)), (0, .ref (hB G + 20)), (1, .ref (hB G + k1))]) C 2 rfl (iv_1 _) dX2_look_46 rfl rfl ?_
      refine sm_goto C dX2_look_49 (tgt := 33) rfl ?_
      refine sm_sub [1, 2, 0] rfl ?_
      exact ih w_10 (x3 + 1)
    · refine sm_iconst C ic_0 dX2_look_52 ?_
      refine sm_istore_n (lv1 := [(3, .int 0), (0, .ref (hB G + 20)), (1, .ref (hB G + k1))]) C dX2_look_53 rfl rfl rfl ?_
      refine sm_sub [1, 2, 0] rfl ?_
      exact sX2_look_54 C E hk1 FU w 0
set_option maxRecDepth 100000 in
set_option maxHeartbeats 4000000 in
theorem mX2_look {b : Bx} {w : HW} {k1 : Nat} {k2 : Nat} (hk1 : isC k1 = true) (hk2 : isR k2 = true) {a : Int32 × HW} (h : fX2_look w k1 k2 = some a) : Mt b yX2_look cX2_look 5 (some .boolean) 2 50 [.ref (bB b + 20), .ref (bB b + k1), .ref (bB b + k2)] w (some (.int a.1)) a.2 := by
  refine Mt.of ρIW h (by decide) (Nat.le_of_ble_eq_true rfl) (fun G hG C E => ?_)
  subst hG
  have C : Cx G cX2_look RX2 5 2 50 := C
  change Sm G a 0 [(0, .ref (hB G + 20)), (1, .ref (hB G + k1)), (2, .ref (hB G + k2))] [] w _
  unfold fX2_look
  refine sm_aload_n C 0 rfl dX2_look_0 rfl ?_
  refine sm_aload_n C 1 rfl dX2_look_1 rfl ?_
  refine sm_aload_n C 2 rfl dX2_look_2 rfl ?_
  refine sm_cVIW (As := [.ref (hB G + k1), .ref (hB G + k2)]) C cfX2_readRow wd227 kd_20 rfl rfl rfl rfl rfl dX2_look_3 (fun r h => mX2_readRow hk1 hk2 h) (fun r_1 w_2 => ?_)
  refine sm_if_ne C dX2_look_6 (tgt := 11) rfl (fun h_3 => ?_) (fun h_3 => ?_)
  · refine sm_iconst C ic_0 dX2_look_9 ?_
    exact sm_zret C E rfl rfl dX2_look_10
  · refine sm_aload_n C 0 rfl dX2_look_11 rfl ?_
    refine sm_iconst C ic_0 dX2_look_12 ?_
    refine sm_putI C fo_2_0 rfl wd222 kd_20 rfl dX2_look_13 (fun w_4 => ?_)
    refine sm_aload_n C 0 rfl dX2_look_16 rfl ?_
    refine sm_iconst C ic_0 dX2_look_17 ?_
    refine sm_putI C fo_2_1 rfl wd224 kd_20 rfl dX2_look_18 (fun w_5 => ?_)
    refine sm_aload_n C 0 rfl dX2_look_21 rfl ?_
    refine sm_iconst C ic_0 dX2_look_22 ?_
    refine sm_putI C fo_2_2 rfl wd223 kd_20 rfl dX2_look_23 (fun w_6 => ?_)
    refine sm_aload_n C 0 rfl dX2_look_26 rfl ?_
    refine sm_iconst C ic_m1 dX2_look_27 ?_
    refine sm_putI C fo_2_3 rfl wd225 kd_20 rfl dX2_look_28 (fun w_7 => ?_)
    refine sm_iconst C ic_0 dX2_look_31 ?_
    refine sm_istore_n (lv1 := [(3, .int 0), (0, .ref (hB G + 20)), (1, .ref (hB G + k1)), (2, .ref (hB G + k2))]) C dX2_look_32 rfl rfl rfl ?_
    refine sm_sub [1, 2, 0] rfl ?_
    exact sX2_look_33 C E hk1 FU w_7 0
/-! X9_lookAtSeen -/
set_option maxRecDepth 100000 in
set_option maxHeartbeats 4000000 in
theorem mX9_lookAtSeen {b : Bx} {w : HW} {x1 : Int32} {a : Int32 × HW} (h : fX9_lookAtSeen w x1 = some a) : Mt b yX9_lookAtSeen cX9_lookAtSeen 2 (some .int) 3 74 [.ref (bB b + 0), .int x1] w (some (.int a.1)) a.2 := by
  refine Mt.of ρIW h (by decide) (Nat.le_of_ble_eq_true rfl) (fun G hG C E => ?_)
  subst hG
  have C : Cx G cX9_lookAtSeen RX9 2 3 74 := C
  change Sm G a 0 [(0, .ref (hB G + 0)), (1, .int x1)] [] w _
  unfold fX9_lookAtSeen
  refine sm_iload_n C 1 rfl dX9_lookAtSeen_0 rfl ?_
  refine sm_cSI (As := [.int x1]) C cfX9_hasSlot wd229 rfl rfl rfl rfl dX9_lookAtSeen_1 (fun r h => mX9_hasSlot  h) (fun r_1 => ?_)
  refine sm_if_eq C dX9_lookAtSeen_4 (tgt := 17) rfl (fun h_3 => ?_) (fun h_3 => ?_)
  · refine sm_aload_n C 0 rfl dX9_lookAtSeen_7 rfl ?_
    refine sm_getC C fo_9_10 rfl wd58 kd_0 dX9_lookAtSeen_8 rfl (fun j_4 hj_4 => ?_)
    refine sm_cVI (As := []) C cfX0_isTold wd70 (kdC hj_4) rfl rfl rfl rfl rfl dX9_lookAtSeen_11 (fun r h => mX0_isTold hj_4 h) (fun r_5 => ?_)
    refine sm_if_ne C dX9_lookAtSeen_14 (tgt := 20) rfl (fun h_7 => ?_) (fun h_7 => ?_)
    · refine sm_bipush C bp_m2 dX9_lookAtSeen_17 ?_
      exact sm_iret C E rfl dX9_lookAtSeen_19
    · refine sm_aload_n C 0 rfl dX9_lookAtSeen_20 rfl ?_
      refine sm_getR C fo_9_5 rfl wd230 kd_0 dX9_lookAtSeen_21 (rv_0_5 w) (by decide) ?_
      refine sm_iload_n C 1 rfl dX9_lookAtSeen_24 rfl ?_
      refine sm_aald C 5 (by decide) kd_19 dX9_lookAtSeen_25 (fun h_8 => rvS w h_8) (fun h_8 => nzS h_8) (fun h_8 => ?_)
      refine sm_cVI (As := []) C cfX5_isThere wd231 (kdR (isS h_8)) rfl rfl rfl rfl rfl dX9_lookAtSeen_26 (fun r h => mX5_isThere (isS h_8) h) (fun r_9 => ?_)
      refine sm_if_ne C dX9_lookAtSeen_29 (tgt := 35) rfl (fun h_11 => ?_) (fun h_11 => ?_)
      · refine sm_bipush C bp_m6 dX9_lookAtSeen_32 ?_
        exact sm_iret C E rfl dX9_lookAtSeen_34
      · refine sm_aload_n C 0 rfl dX9_lookAtSeen_35 rfl ?_
        refine sm_getR C fo_9_6 rfl wd232 kd_0 dX9_lookAtSeen_36 (rv_0_6 w) (by decide) ?_
        refine sm_aload_n C 0 rfl dX9_lookAtSeen_39 rfl ?_
        refine sm_getC C fo_9_10 rfl wd58 kd_0 dX9_lookAtSeen_40 rfl (fun j_12 hj_12 => ?_)
        refine sm_aload_n C 0 rfl dX9_lookAtSeen_43 rfl ?_
        refine sm_getR C fo_9_5 rfl wd230 kd_0 dX9_lookAtSeen_44 (rv_0_5 w) (by decide) ?_
        refine sm_iload_n C 1 rfl dX9_lookAtSeen_47 rfl ?_
        refine sm_aald C 5 (by decide) kd_19 dX9_lookAtSeen_48 (fun h_13 => rvS w h_13) (fun h_13 => nzS h_13) (fun h_13 => ?_)
        refine sm_cVIW (As := [.ref (hB G + j_12), .ref (hB G + (44 + 2 * ix x1))]) C cfX2_look wd233 kd_20 rfl rfl rfl rfl rfl dX9_lookAtSeen_49 (fun r h => mX2_look hj_12 (isS h_13) h) (fun r_14 w_15 => ?_)
        refine sm_if_eq C dX9_lookAtSeen_52 (tgt := 59) rfl (fun h_16 => ?_) (fun h_16 => ?_)
        · refine sm_iconst C ic_0 dX9_lookAtSeen_55 ?_
          refine sm_goto C dX9_lookAtSeen_56 (tgt := 61) rfl ?_
          exact sm_iret C E rfl dX9_lookAtSeen_61
        · refine sm_bipush C bp_m2 dX9_lookAtSeen_59 ?_
          exact sm_iret C E rfl dX9_lookAtSeen_61
  · refine sm_bipush C bp_m2 dX9_lookAtSeen_17 ?_
    exact sm_iret C E rfl dX9_lookAtSeen_19
/-! X9_fits -/
set_option maxRecDepth 100000 in
set_option maxHeartbeats 4000000 in
theorem mX9_fits {b : Bx} {w : HW} {x1 : Int32} {a : Int32 × HW} (h : fX9_fits w x1 = some a) : Mt b yX9_fits cX9_fits 3 (some .int) 4 95 [.ref (bB b + 0), .int x1] w (some (.int a.1)) a.2 := by
  refine Mt.of ρIW h (by decide) (Nat.le_of_ble_eq_true rfl) (fun G hG C E => ?_)
  subst hG
  have C : Cx G cX9_fits RX9 3 4 95 := C
  change Sm G a 0 [(0, .ref (hB G + 0)), (1, .int x1)] [] w _
  unfold fX9_fits
  refine sm_aload_n C 0 rfl dX9_fits_0 rfl ?_
  refine sm_iload_n C 1 rfl dX9_fits_1 rfl ?_
  refine sm_cVIW (As := [.int x1]) C cfX9_lookAtSeen wd234 kd_0 rfl rfl rfl rfl rfl dX9_fits_2 (fun r h => mX9_lookAtSeen  h) (fun r_1 w_2 => ?_)
  refine sm_istore_n (lv1 := [(2, .int r_1), (0, .ref (hB G + 0)), (1, .int x1)]) C dX9_fits_5 rfl rfl rfl ?_
  refine sm_iload_n C 0 rfl dX9_fits_6 rfl ?_
  refine sm_if_ge C dX9_fits_7 (tgt := 14) rfl (fun h_3 => ?_) (fun h_3 => ?_)
  · refine sm_iload_n C 0 rfl dX9_fits_10 rfl ?_
    refine sm_goto C dX9_fits_11 (tgt := 21) rfl ?_
    exact sm_iret C E rfl dX9_fits_21
  · refine sm_aload_n C 1 rfl dX9_fits_14 rfl ?_
    refine sm_getR C fo_9_6 rfl wd232 kd_0 dX9_fits_15 (rv_0_6 w_2) (by decide) ?_
    refine sm_getI C fo_2_0 rfl wd235 kd_20 dX9_fits_18 ?_
    exact sm_iret C E rfl dX9_fits_21
/-! X9_fed -/
set_option maxRecDepth 100000 in
set_option maxHeartbeats 4000000 in
theorem mX9_fed {b : Bx} {w : HW} {x1 : Int32} {a : Int32 × HW} (h : fX9_fed w x1 = some a) : Mt b yX9_fed cX9_fed 3 (some .int) 4 95 [.ref (bB b + 0), .int x1] w (some (.int a.1)) a.2 := by
  refine Mt.of ρIW h (by decide) (Nat.le_of_ble_eq_true rfl) (fun G hG C E => ?_)
  subst hG
  have C : Cx G cX9_fed RX9 3 4 95 := C
  change Sm G a 0 [(0, .ref (hB G + 0)), (1, .int x1)] [] w _
  unfold fX9_fed
  refine sm_aload_n C 0 rfl dX9_fed_0 rfl ?_
  refine sm_iload_n C 1 rfl dX9_fed_1 rfl ?_
  refine sm_cVIW (As := [.int x1]) C cfX9_lookAtSeen wd234 kd_0 rfl rfl rfl rfl rfl dX9_fed_2 (fun r h => mX9_lookAtSeen  h) (fun r_1 w_2 => ?_)
  refine sm_istore_n (lv1 := [(2, .int r_1), (0, .ref (hB G + 0)), (1, .int x1)]) C dX9_fed_5 rfl rfl rfl ?_
  refine sm_iload_n C 0 rfl dX9_fed_6 rfl ?_
  refine sm_if_ge C dX9_fed_7 (tgt := 14) rfl (fun h_3 => ?_) (fun h_3 => ?_)
  · refine sm_iload_n C 0 rfl dX9_fed_10 rfl ?_
    refine sm_goto C dX9_fed_11 (tgt := 21) rfl ?_
    exact sm_iret C E rfl dX9_fed_21
  · refine sm_aload_n C 1 rfl dX9_fed_14 rfl ?_
    refine sm_getR C fo_9_6 rfl wd232 kd_0 dX9_fed_15 (rv_0_6 w_2) (by decide) ?_
    refine sm_getI C fo_2_1 rfl wd236 kd_20 dX9_fed_18 ?_
    exact sm_iret C E rfl dX9_fed_21
/-! X9_starved -/
set_option maxRecDepth 100000 in
set_option maxHeartbeats 4000000 in
theorem mX9_starved {b : Bx} {w : HW} {x1 : Int32} {a : Int32 × HW} (h : fX9_starved w x1 = some a) : Mt b yX9_starved cX9_starved 3 (some .int) 4 95 [.ref (bB b + 0), .int x1] w (some (.int a.1)) a.2 := by
  refine Mt.of ρIW h (by decide) (Nat.le_of_ble_eq_true rfl) (fun G hG C E => ?_)
  subst hG
  have C : Cx G cX9_starved RX9 3 4 95 := C
  change Sm G a 0 [(0, .ref (hB G + 0)), (1, .int x1)] [] w _
  unfold fX9_starved
  refine sm_aload_n C 0 rfl dX9_starved_0 rfl ?_
  refine sm_iload_n C 1 rfl dX9_starved_1 rfl ?_
  refine sm_cVIW (As := [.int x1]) C cfX9_lookAtSeen wd234 kd_0 rfl rfl rfl rfl rfl dX9_starved_2 (fun r h => mX9_lookAtSeen  h) (fun r_1 w_2 => ?_)
  refine sm_istore_n (lv1 := [(2, .int r_1), (0, .ref (hB G + 0)), (1, .int x1)]) C dX9_starved_5 rfl rfl rfl ?_
  refine sm_iload_n C 0 rfl dX9_starved_6 rfl ?_
  refine sm_if_ge C dX9_starved_7 (tgt := 14) rfl (fun h_3 => ?_) (fun h_3 => ?_)
  · refine sm_iload_n C 0 rfl dX9_starved_10 rfl ?_
    refine sm_goto C dX9_starved_11 (tgt := 21) rfl ?_
    exact sm_iret C E rfl dX9_starved_21
  · refine sm_aload_n C 1 rfl dX9_starved_14 rfl ?_
    refine sm_getR C fo_9_6 rfl wd232 kd_0 dX9_starved_15 (rv_0_6 w_2) (by decide) ?_
    refine sm_getI C fo_2_2 rfl wd237 kd_20 dX9_starved_18 ?_
    exact sm_iret C E rfl dX9_starved_21
/-! X9_least -/
set_option maxRecDepth 100000 in
set_option maxHeartbeats 4000000 in
theorem mX9_least {b : Bx} {w : HW} {x1 : Int32} {a : Int32 × HW} (h : fX9_least w x1 = some a) : Mt b yX9_least cX9_least 3 (some .int) 4 95 [.ref (bB b + 0), .int x1] w (some (.int a.1)) a.2 := by
  refine Mt.of ρIW h (by decide) (Nat.le_of_ble_eq_true rfl) (fun G hG C E => ?_)
  subst hG
  have C : Cx G cX9_least RX9 3 4 95 := C
  change Sm G a 0 [(0, .ref (hB G + 0)), (1, .int x1)] [] w _
  unfold fX9_least
  refine sm_aload_n C 0 rfl dX9_least_0 rfl ?_
  refine sm_iload_n C 1 rfl dX9_least_1 rfl ?_
  refine sm_cVIW (As := [.int x1]) C cfX9_lookAtSeen wd234 kd_0 rfl rfl rfl rfl rfl dX9_least_2 (fun r h => mX9_lookAtSeen  h) (fun r_1 w_2 => ?_)
  refine sm_istore_n (lv1 := [(2, .int r_1), (0, .ref (hB G + 0)), (1, .int x1)]) C dX9_least_5 rfl rfl rfl ?_
  refine sm_iload_n C 0 rfl dX9_least_6 rfl ?_
  refine sm_if_ge C dX9_least_7 (tgt := 14) rfl (fun h_3 => ?_) (fun h_3 => ?_)
  · refine sm_iload_n C 0 rfl dX9_least_10 rfl ?_
    refine sm_goto C dX9_least_11 (tgt := 21) rfl ?_
    exact sm_iret C E rfl dX9_least_21
  · refine sm_aload_n C 1 rfl dX9_least_14 rfl ?_
    refine sm_getR C fo_9_6 rfl wd232 kd_0 dX9_least_15 (rv_0_6 w_2) (by decide) ?_
    refine sm_getI C fo_2_3 rfl wd238 kd_20 dX9_least_18 ?_
    exact sm_iret C E rfl dX9_least_21
/-! X2_leftAtWorst -/
set_option maxRecDepth 100000 in
set_option maxHeartbeats 4000000 in
theorem mX2_leftAtWorst {b : Bx} {w : HW} {x1 : Int32} {a : Int32} (h : fX2_leftAtWorst w x1 = some a) : Mt b yX2_leftAtWorst cX2_leftAtWorst 2 (some .int) 1 21 [.ref (bB b + 20), .int x1] w (some (.int a)) w := by
  refine Mt.of (ρI w) h (by decide) (Nat.le_of_ble_eq_true rfl) (fun G hG C E => ?_)
  subst hG
  have C : Cx G cX2_leftAtWorst RX2 2 1 21 := C
  change Sm G a 0 [(0, .ref (hB G + 20)), (1, .int x1)] [] w _
  unfold fX2_leftAtWorst
  refine sm_iload_n C 1 rfl dX2_leftAtWorst_0 rfl ?_
  refine sm_if_lt C dX2_leftAtWorst_1 (tgt := 10) rfl (fun h_1 => ?_) (fun h_1 => ?_)
  · refine sm_iload_n C 1 rfl dX2_leftAtWorst_4 rfl ?_
    refine sm_bipush C bp_14 dX2_leftAtWorst_5 ?_
    refine sm_icmp_lt C dX2_leftAtWorst_7 (tgt := 15) rfl (fun h_2 => ?_) (fun h_2 => ?_)
    · refine sm_aload_n C 0 rfl dX2_leftAtWorst_10 rfl ?_
      refine sm_getI C fo_2_0 rfl wd222 kd_20 dX2_leftAtWorst_11 ?_
      exact sm_iret C E rfl dX2_leftAtWorst_14
    · refine sm_aload_n C 0 rfl dX2_leftAtWorst_15 rfl ?_
      refine sm_getR C fo_2_4 rfl wd226 kd_20 dX2_leftAtWorst_16 (rv_20_4 w) (by decide) ?_
      refine sm_iload_n C 1 rfl dX2_leftAtWorst_19 rfl ?_
      refine sm_iald C kd_21 dX2_leftAtWorst_20 (fun h_3 => ?_)
      refine sm_aload_n C 0 rfl dX2_leftAtWorst_21 rfl ?_
      refine sm_getI C fo_2_0 rfl wd222 kd_20 dX2_leftAtWorst_22 ?_
      refine sm_aload_n C 0 rfl dX2_leftAtWorst_25 rfl ?_
      refine sm_getR C fo_2_4 rfl wd226 kd_20 dX2_leftAtWorst_26 (rv_20_4 w) (by decide) ?_
      refine sm_iload_n C 1 rfl dX2_leftAtWorst_29 rfl ?_
      refine sm_iald C kd_21 dX2_leftAtWorst_30 (fun h_4 => ?_)
      refine sm_isub C dX2_leftAtWorst_31 ?_
      refine sm_max C wd239 max_st math_in max_co rfl dX2_leftAtWorst_32 ?_
      exact sm_iret C E rfl dX2_leftAtWorst_35
  · refine sm_aload_n C 0 rfl dX2_leftAtWorst_10 rfl ?_
    refine sm_getI C fo_2_0 rfl wd222 kd_20 dX2_leftAtWorst_11 ?_
    exact sm_iret C E rfl dX2_leftAtWorst_14
/-! X2_dayToKnow -/
set_option maxRecDepth 100000 in
set_option maxHeartbeats 4000000 in
theorem sX2_dayToKnow_10 {G : Gx} {a : Int32} {w : HW} (C : Cx G cX2_dayToKnow RX2 5 2 42) (E : Rx G (ρI w) a (some .int)) {x1 : Int32} : ∀ (n : Nat) (x2 : Int32) (x3 : Int32) (x4 : Int32), Sm G a 10 [(0, .ref (hB G + 20)), (1, .int x1), (2, .int x2), (3, .int x3), (4, .int x4)] [] w (fX2_dayToKnow_10 w x1 n x2 x3 x4) := by
  intro n
  induction n with
  | zero => intro _ _ _; exact sm_none
  | succ n ih =>
    intro x2 x3 x4
    rw [fX2_dayToKnow_10]
    refine sm_iload C 4 rfl dX2_dayToKnow_10 ?_
    refine sm_iload_n C 1 rfl dX2_dayToKnow_12 rfl ?_
    refine sm_icmp_ge C dX2_dayToKnow_13 (tgt := 42) rfl (fun h_2 => ?_) (fun h_2 => ?_)
    · refine sm_aload_n C 0 rfl dX2_dayToKnow_16 rfl ?_
      refine sm_iload C 4 rfl dX2_dayToKnow_17 ?_
      refine sm_cVI (As := [.int x4]) C cfX2_leftAtWorst wd240 kd_20 rfl rfl rfl rfl rfl dX2_dayToKnow_19 (fun r h => mX2_leftAtWorst  h) (fun r_3 => ?_)
      refine sm_iload_n C 3 rfl dX2_dayToKnow_22 rfl ?_
      refine sm_icmp_ge C dX2_dayToKnow_23 (tgt := 36) rfl (fun h_5 => ?_) (fun h_5 => ?_)
      · refine sm_aload_n C 0 rfl dX2_dayToKnow_26 rfl ?_
        refine sm_iload C 4 rfl dX2_dayToKnow_27 ?_
        refine sm_cVI (As := [.int x4]) C cfX2_leftAtWorst wd240 kd_20 rfl rfl rfl rfl rfl dX2_dayToKnow_29 (fun r h => mX2_leftAtWorst  h) (fun r_6 => ?_)
        refine sm_istore_n (lv1 := [(3, .int r_6), (0, .ref (hB G + 20)), (1, .int x1), (2, .int x2), (4, .int x4)]) C dX2_dayToKnow_32 rfl rfl rfl ?_
        refine sm_iload C 4 rfl dX2_dayToKnow_33 ?_
        refine sm_istore_n (lv1 := [(2, .int x4), (3, .int r_6), (0, .ref (hB G + 20)), (1, .int x1), (4, .int x4)]) C dX2_dayToKnow_35 rfl rfl rfl ?_
        refine sm_iinc (lv1 := [(4, .int (x4 + 1)), (2, .int x4), (3, .int r_6), (0, .ref (hB G + 20)), (1, .int x1)]) C 4 rfl (iv_1 _) dX2_dayToKnow_36 rfl rfl ?_
        refine sm_goto C dX2_dayToKnow_39 (tgt := 10) rfl ?_
        refine sm_sub [3, 4, 1, 2, 0] rfl ?_
        exact ih x4 r_6 (x4 + 1)
      · refine sm_iinc (lv1 := [(4, .int (x4 + 1)), (0, .ref (hB G + 20)), (1, .int x1), (2, .int x2), (3, .int x3)]) C 4 rfl (iv_1 _) dX2_dayToKnow_36 rfl rfl ?_
        refine sm_goto C dX2_dayToKnow_39 (tgt := 10) rfl ?_
        refine sm_sub [1, 2, 3, 4, 0] rfl ?_
        exact ih x2 x3 (x4 + 1)
    · refine sm_iload_n C 2 rfl dX2_dayToKnow_42 rfl ?_
      exact sm_iret C E rfl dX2_dayToKnow_43
set_option maxRecDepth 100000 in
set_option maxHeartbeats 4000000 in
theorem mX2_dayToKnow {b : Bx} {w : HW} {x1 : Int32} {a : Int32} (h : fX2_dayToKnow w x1 = some a) : Mt b yX2_dayToKnow cX2_dayToKnow 5 (some .int) 2 42 [.ref (bB b + 20), .int x1] w (some (.int a)) w := by
  refine Mt.of (ρI w) h (by decide) (Nat.le_of_ble_eq_true rfl) (fun G hG C E => ?_)
  subst hG
  have C : Cx G cX2_dayToKnow RX2 5 2 42 := C
  change Sm G a 0 [(0, .ref (hB G + 20)), (1, .int x1)] [] w _
  unfold fX2_dayToKnow
  refine sm_iconst C ic_m1 dX2_dayToKnow_0 ?_
  refine sm_istore_n (lv1 := [(2, .int (-1)), (0, .ref (hB G + 20)), (1, .int x1)]) C dX2_dayToKnow_1 rfl rfl rfl ?_
  refine sm_aload_n C 1 rfl dX2_dayToKnow_2 rfl ?_
  refine sm_getI C fo_2_0 rfl wd222 kd_20 dX2_dayToKnow_3 ?_
  refine sm_let (fun x3_1 => ?_)
  refine sm_istore_n (lv1 := [(3, .int x3_1), (2, .int (-1)), (0, .ref (hB G + 20)), (1, .int x1)]) C dX2_dayToKnow_6 rfl rfl rfl ?_
  refine sm_iconst C ic_0 dX2_dayToKnow_7 ?_
  refine sm_istore (lv1 := [(4, .int 0), (3, .int x3_1), (2, .int (-1)), (0, .ref (hB G + 20)), (1, .int x1)]) C dX2_dayToKnow_8 rfl rfl ?_
  refine sm_sub [3, 4, 2, 1, 0] rfl ?_
  exact sX2_dayToKnow_10 C E FU (-1) x3_1 0
/-! X9_ask -/
set_option maxRecDepth 100000 in
set_option maxHeartbeats 4000000 in
theorem mX9_ask {b : Bx} {w : HW} {x1 : Int32} {a : Int32 × HW} (h : fX9_ask w x1 = some a) : Mt b yX9_ask cX9_ask 3 (some .int) 4 95 [.ref (bB b + 0), .int x1] w (some (.int a.1)) a.2 := by
  refine Mt.of ρIW h (by decide) (Nat.le_of_ble_eq_true rfl) (fun G hG C E => ?_)
  subst hG
  have C : Cx G cX9_ask RX9 3 4 95 := C
  change Sm G a 0 [(0, .ref (hB G + 0)), (1, .int x1)] [] w _
  unfold fX9_ask
  refine sm_aload_n C 0 rfl dX9_ask_0 rfl ?_
  refine sm_iload_n C 1 rfl dX9_ask_1 rfl ?_
  refine sm_cVIW (As := [.int x1]) C cfX9_lookAtSeen wd234 kd_0 rfl rfl rfl rfl rfl dX9_ask_2 (fun r h => mX9_lookAtSeen  h) (fun r_1 w_2 => ?_)
  refine sm_istore_n (lv1 := [(2, .int r_1), (0, .ref (hB G + 0)), (1, .int x1)]) C dX9_ask_5 rfl rfl rfl ?_
  refine sm_iload_n C 0 rfl dX9_ask_6 rfl ?_
  refine sm_if_ge C dX9_ask_7 (tgt := 14) rfl (fun h_3 => ?_) (fun h_3 => ?_)
  · refine sm_iload_n C 0 rfl dX9_ask_10 rfl ?_
    refine sm_goto C dX9_ask_11 (tgt := 28) rfl ?_
    exact sm_iret C E rfl dX9_ask_28
  · refine sm_aload_n C 1 rfl dX9_ask_14 rfl ?_
    refine sm_getR C fo_9_6 rfl wd232 kd_0 dX9_ask_15 (rv_0_6 w_2) (by decide) ?_
    refine sm_aload_n C 1 rfl dX9_ask_18 rfl ?_
    refine sm_getC C fo_9_10 rfl wd58 kd_0 dX9_ask_19 rfl (fun j_4 hj_4 => ?_)
    refine sm_getI C fo_0_1 rfl wd118 (kdC hj_4) dX9_ask_22 ?_
    refine sm_cVI (As := [.int (gI w_2 j_4 1)]) C cfX2_dayToKnow wd241 kd_20 rfl rfl rfl rfl rfl dX9_ask_25 (fun r h => mX2_dayToKnow  h) (fun r_5 => ?_)
    exact sm_iret C E rfl dX9_ask_28
/-! X9_leaves -/
set_option maxRecDepth 100000 in
set_option maxHeartbeats 4000000 in
theorem mX9_leaves {b : Bx} {w : HW} {x1 : Int32} {a : Int32 × HW} (h : fX9_leaves w x1 = some a) : Mt b yX9_leaves cX9_leaves 4 (some .int) 4 95 [.ref (bB b + 0), .int x1] w (some (.int a.1)) a.2 := by
  refine Mt.of ρIW h (by decide) (Nat.le_of_ble_eq_true rfl) (fun G hG C E => ?_)
  subst hG
  have C : Cx G cX9_leaves RX9 4 4 95 := C
  change Sm G a 0 [(0, .ref (hB G + 0)), (1, .int x1)] [] w _
  unfold fX9_leaves
  refine sm_aload_n C 0 rfl dX9_leaves_0 rfl ?_
  refine sm_iload_n C 1 rfl dX9_leaves_1 rfl ?_
  refine sm_cVIW (As := [.int x1]) C cfX9_lookAtSeen wd234 kd_0 rfl rfl rfl rfl rfl dX9_leaves_2 (fun r h => mX9_lookAtSeen  h) (fun r_1 w_2 => ?_)
  refine sm_istore_n (lv1 := [(2, .int r_1), (0, .ref (hB G + 0)), (1, .int x1)]) C dX9_leaves_5 rfl rfl rfl ?_
  refine sm_iload_n C 0 rfl dX9_leaves_6 rfl ?_
  refine sm_if_ge C dX9_leaves_7 (tgt := 12) rfl (fun h_3 => ?_) (fun h_3 => ?_)
  · refine sm_iload_n C 0 rfl dX9_leaves_10 rfl ?_
    exact sm_iret C E rfl dX9_leaves_11
  · refine sm_aload_n C 1 rfl dX9_leaves_12 rfl ?_
    refine sm_getR C fo_9_6 rfl wd232 kd_0 dX9_leaves_13 (rv_0_6 w_2) (by decide) ?_
    refine sm_aload_n C 1 rfl dX9_leaves_16 rfl ?_
    refine sm_getC C fo_9_10 rfl wd58 kd_0 dX9_leaves_17 rfl (fun j_4 hj_4 => ?_)
    refine sm_getI C fo_0_1 rfl wd118 (kdC hj_4) dX9_leaves_20 ?_
    refine sm_cVI (As := [.int (gI w_2 j_4 1)]) C cfX2_dayToKnow wd241 kd_20 rfl rfl rfl rfl rfl dX9_leaves_23 (fun r h => mX2_dayToKnow  h) (fun r_5 => ?_)
    refine sm_istore_n (lv1 := [(3, .int r_5), (2, .int r_1), (0, .ref (hB G + 0)), (1, .int x1)]) C dX9_leaves_26 rfl rfl rfl ?_
    refine sm_iload_n C 0 rfl dX9_leaves_27 rfl ?_
    refine sm_iconst C ic_m1 dX9_leaves_28 ?_
    refine sm_icmp_ne C dX9_leaves_29 (tgt := 42) rfl (fun h_7 => ?_) (fun h_7 => ?_)
    · refine sm_aload_n C 2 rfl dX9_leaves_32 rfl ?_
      refine sm_getR C fo_9_6 rfl wd232 kd_0 dX9_leaves_33 (rv_0_6 w_2) (by decide) ?_
      refine sm_getI C fo_2_0 rfl wd235 kd_20 dX9_leaves_36 ?_
      refine sm_goto C dX9_leaves_39 (tgt := 50) rfl ?_
      exact sm_iret C E rfl dX9_leaves_50
    · refine sm_aload_n C 2 rfl dX9_leaves_42 rfl ?_
      refine sm_getR C fo_9_6 rfl wd232 kd_0 dX9_leaves_43 (rv_0_6 w_2) (by decide) ?_
      refine sm_iload_n C 0 rfl dX9_leaves_46 rfl ?_
      refine sm_cVI (As := [.int r_5]) C cfX2_leftAtWorst wd242 kd_20 rfl rfl rfl rfl rfl dX9_leaves_47 (fun r h => mX2_leftAtWorst  h) (fun r_8 => ?_)
      exact sm_iret C E rfl dX9_leaves_50
/-! X7_look -/
set_option maxRecDepth 100000 in
set_option maxHeartbeats 4000000 in
theorem sX7_look_33 {G : Gx} {a : Int32 × HW} (C : Cx G cX7_look RX7 7 0 0) (E : Rx G ρIW a (some .boolean)) {k1 : Nat} (hk1 : isR k1 = true) : ∀ (n : Nat) (w : HW) (x2 : Int32), Sm G a 33 [(0, .ref (hB G + 22)), (1, .ref (hB G + k1)), (2, .int x2)] [] w (fX7_look_33 k1 n w x2) := by
  intro n
  induction n with
  | zero => intro _ _; exact sm_none
  | succ n ih =>
    intro w x2
    rw [fX7_look_33]
    refine sm_iload_n C 2 rfl dX7_look_33 rfl ?_
    refine sm_iconst C ic_1 dX7_look_34 ?_
    refine sm_iadd C dX7_look_35 ?_
    refine sm_aload_n C 1 rfl dX7_look_36 rfl ?_
    refine sm_getI C fo_5_2 rfl wd244 (kdR hk1) dX7_look_37 ?_
    refine sm_icmp_ge C dX7_look_40 (tgt := 111) rfl (fun h_5 => ?_) (fun h_5 => ?_)
    · refine sm_aload_n C 1 rfl dX7_look_43 rfl ?_
      refine sm_getR C fo_5_0 rfl wd245 (kdR hk1) dX7_look_44 (rvR_0 hk1 w) (nzR_1 hk1) ?_
      refine sm_iload_n C 2 rfl dX7_look_47 rfl ?_
      refine sm_lald C (kdR_1 hk1) dX7_look_48 (fun h_6 => ?_)
      refine sm_letL (fun x3_7 => ?_)
      refine sm_lstore_n (lv1 := [(3, .long x3_7), (0, .ref (hB G + 22)), (1, .ref (hB G + k1)), (2, .int x2)]) C dX7_look_49 rfl rfl rfl ?_
      refine sm_aload_n C 2 rfl dX7_look_50 rfl ?_
      refine sm_getR C fo_5_0 rfl wd245 (kdR hk1) dX7_look_51 (rvR_0 hk1 w) (nzR_1 hk1) ?_
      refine sm_iload_n C 3 rfl dX7_look_54 rfl ?_
      refine sm_iconst C ic_1 dX7_look_55 ?_
      refine sm_iadd C dX7_look_56 ?_
      refine sm_lald C (kdR_1 hk1) dX7_look_57 (fun h_8 => ?_)
      refine sm_letL (fun x5_9 => ?_)
      refine sm_lstore (lv1 := [(5, .long x5_9), (3, .long x3_7), (0, .ref (hB G + 22)), (1, .ref (hB G + k1)), (2, .int x2)]) C dX7_look_58 rfl rfl ?_
      refine sm_lload_n C 1 rfl dX7_look_60 rfl ?_
      refine sm_lconst C lc_0 dX7_look_61 ?_
      refine sm_lcmp C dX7_look_62 ?_
      refine sm_if_lt C dX7_look_63 (tgt := 86) rfl (fun h_10 => ?_) (fun h_10 => ?_)
      · refine sm_lload_n C 1 rfl dX7_look_66 rfl ?_
        refine sm_lconst C lc_1 dX7_look_67 ?_
        refine sm_lcmp C dX7_look_68 ?_
        refine sm_if_gt C dX7_look_69 (tgt := 86) rfl (fun h_11 => ?_) (fun h_11 => ?_)
        · refine sm_lload C 0 rfl dX7_look_72 ?_
          refine sm_lconst C lc_0 dX7_look_74 ?_
          refine sm_lcmp C dX7_look_75 ?_
          refine sm_if_lt C dX7_look_76 (tgt := 86) rfl (fun h_12 => ?_) (fun h_12 => ?_)
          · refine sm_lload C 0 rfl dX7_look_79 ?_
            refine sm_lconst C lc_1 dX7_look_81 ?_
            refine sm_lcmp C dX7_look_82 ?_
            refine sm_if_le C dX7_look_83 (tgt := 88) rfl (fun h_13 => ?_) (fun h_13 => ?_)
            · refine sm_iconst C ic_0 dX7_look_86 ?_
              exact sm_zret C E rfl rfl dX7_look_87
            · refine sm_aload_n C 2 rfl dX7_look_88 rfl ?_
              refine sm_getR C fo_7_0 rfl wd243 kd_22 dX7_look_89 (rv_22_0 w) (by decide) ?_
              refine sm_lload_n C 1 rfl dX7_look_92 rfl ?_
              refine sm_l2i C dX7_look_93 ?_
              refine sm_iconst C ic_2 dX7_look_94 ?_
              refine sm_imul C dX7_look_95 ?_
              refine sm_lload C 0 rfl dX7_look_96 ?_
              refine sm_l2i C dX7_look_98 ?_
              refine sm_iadd C dX7_look_99 ?_
              refine sm_dup2 C rfl rfl dX7_look_100 ?_
              refine sm_iald C kd_23 dX7_look_101 (fun h_14 => ?_)
              refine sm_iconst C ic_1 dX7_look_102 ?_
              refine sm_iadd C dX7_look_103 ?_
              refine sm_iast C kd_23 dX7_look_104 (fun h_15 w_16 => ?_)
              refine sm_iinc (lv1 := [(2, .int (x2 + 2)), (5, .long x5_9), (3, .long x3_7), (0, .ref (hB G + 22)), (1, .ref (hB G + k1))]) C 4 rfl (iv_2 _) dX7_look_105 rfl rfl ?_
              refine sm_goto C dX7_look_108 (tgt := 33) rfl ?_
              refine sm_sub [3, 4, 0] rfl ?_
              exact ih w_16 (x2 + 2)
          · refine sm_iconst C ic_0 dX7_look_86 ?_
            exact sm_zret C E rfl rfl dX7_look_87
        · refine sm_iconst C ic_0 dX7_look_86 ?_
          exact sm_zret C E rfl rfl dX7_look_87
      · refine sm_iconst C ic_0 dX7_look_86 ?_
        exact sm_zret C E rfl rfl dX7_look_87
    · refine sm_iconst C ic_1 dX7_look_111 ?_
      exact sm_zret C E rfl rfl dX7_look_112
set_option maxRecDepth 100000 in
set_option maxHeartbeats 4000000 in
theorem sX7_look_20 {G : Gx} {a : Int32 × HW} (C : Cx G cX7_look RX7 7 0 0) (E : Rx G ρIW a (some .boolean)) (w : HW) (k1 : Nat) (hk1 : isR k1 = true) : Sm G a 20 [(0, .ref (hB G + 22)), (1, .ref (hB G + k1))] [] w (fX7_look_20 w k1) := by
  unfold fX7_look_20
  refine sm_aload_n C 1 rfl dX7_look_20 rfl ?_
  refine sm_getI C fo_5_2 rfl wd244 (kdR hk1) dX7_look_21 ?_
  refine sm_iconst C ic_2 dX7_look_24 ?_
  refine sm_irem C (by decide) dX7_look_25 ?_
  refine sm_if_eq C dX7_look_26 (tgt := 31) rfl (fun h_4 => ?_) (fun h_4 => ?_)
  · refine sm_iconst C ic_0 dX7_look_29 ?_
    exact sm_zret C E rfl rfl dX7_look_30
  · refine sm_iconst C ic_0 dX7_look_31 ?_
    refine sm_istore_n (lv1 := [(2, .int 0), (0, .ref (hB G + 22)), (1, .ref (hB G + k1))]) C dX7_look_32 rfl rfl rfl ?_
    refine sm_sub [1, 2, 0] rfl ?_
    exact sX7_look_33 C E hk1 FU w 0
set_option maxRecDepth 100000 in
set_option maxHeartbeats 4000000 in
theorem sX7_look_2 {G : Gx} {a : Int32 × HW} (C : Cx G cX7_look RX7 7 0 0) (E : Rx G ρIW a (some .boolean)) {k1 : Nat} (hk1 : isR k1 = true) : ∀ (n : Nat) (w : HW) (x2 : Int32), Sm G a 2 [(0, .ref (hB G + 22)), (1, .ref (hB G + k1)), (2, .int x2)] [] w (fX7_look_2 k1 n w x2) := by
  intro n
  induction n with
  | zero => intro _ _; exact sm_none
  | succ n ih =>
    intro w x2
    rw [fX7_look_2]
    refine sm_iload_n C 2 rfl dX7_look_2 rfl ?_
    refine sm_iconst C ic_4 dX7_look_3 ?_
    refine sm_icmp_ge C dX7_look_4 (tgt := 20) rfl (fun h_1 => ?_) (fun h_1 => ?_)
    · refine sm_aload_n C 0 rfl dX7_look_7 rfl ?_
      refine sm_getR C fo_7_0 rfl wd243 kd_22 dX7_look_8 (rv_22_0 w) (by decide) ?_
      refine sm_iload_n C 2 rfl dX7_look_11 rfl ?_
      refine sm_iconst C ic_0 dX7_look_12 ?_
      refine sm_iast C kd_23 dX7_look_13 (fun h_2 w_3 => ?_)
      refine sm_iinc (lv1 := [(2, .int (x2 + 1)), (0, .ref (hB G + 22)), (1, .ref (hB G + k1))]) C 2 rfl (iv_1 _) dX7_look_14 rfl rfl ?_
      refine sm_goto C dX7_look_17 (tgt := 2) rfl ?_
      refine sm_sub [1, 2, 0] rfl ?_
      exact ih w_3 (x2 + 1)
    · refine sm_sub [0, 1] rfl ?_
      exact sX7_look_20 C E w k1 hk1
set_option maxRecDepth 100000 in
set_option maxHeartbeats 4000000 in
theorem mX7_look {b : Bx} {w : HW} {k1 : Nat} (hk1 : isR k1 = true) {a : Int32 × HW} (h : fX7_look w k1 = some a) : Mt b yX7_look cX7_look 7 (some .boolean) 0 0 [.ref (bB b + 22), .ref (bB b + k1)] w (some (.int a.1)) a.2 := by
  refine Mt.of ρIW h (by decide) (Nat.le_of_ble_eq_true rfl) (fun G hG C E => ?_)
  subst hG
  have C : Cx G cX7_look RX7 7 0 0 := C
  change Sm G a 0 [(0, .ref (hB G + 22)), (1, .ref (hB G + k1))] [] w _
  unfold fX7_look
  refine sm_iconst C ic_0 dX7_look_0 ?_
  refine sm_istore_n (lv1 := [(2, .int 0), (0, .ref (hB G + 22)), (1, .ref (hB G + k1))]) C dX7_look_1 rfl rfl rfl ?_
  refine sm_sub [1, 2, 0] rfl ?_
  exact sX7_look_2 C E hk1 FU w 0
/-! X9_lookAtList -/
set_option maxRecDepth 100000 in
set_option maxHeartbeats 4000000 in
theorem mX9_lookAtList {b : Bx} {w : HW} {x1 : Int32} {a : Int32 × HW} (h : fX9_lookAtList w x1 = some a) : Mt b yX9_lookAtList cX9_lookAtList 2 (some .int) 1 26 [.ref (bB b + 0), .int x1] w (some (.int a.1)) a.2 := by
  refine Mt.of ρIW h (by decide) (Nat.le_of_ble_eq_true rfl) (fun G hG C E => ?_)
  subst hG
  have C : Cx G cX9_lookAtList RX9 2 1 26 := C
  change Sm G a 0 [(0, .ref (hB G + 0)), (1, .int x1)] [] w _
  unfold fX9_lookAtList
  refine sm_iload_n C 1 rfl dX9_lookAtList_0 rfl ?_
  refine sm_cSI (As := [.int x1]) C cfX9_hasSlot wd229 rfl rfl rfl rfl dX9_lookAtList_1 (fun r h => mX9_hasSlot  h) (fun r_1 => ?_)
  refine sm_if_eq C dX9_lookAtList_4 (tgt := 17) rfl (fun h_3 => ?_) (fun h_3 => ?_)
  · refine sm_aload_n C 0 rfl dX9_lookAtList_7 rfl ?_
    refine sm_getC C fo_9_10 rfl wd58 kd_0 dX9_lookAtList_8 rfl (fun j_4 hj_4 => ?_)
    refine sm_cVI (As := []) C cfX0_isTold wd70 (kdC hj_4) rfl rfl rfl rfl rfl dX9_lookAtList_11 (fun r h => mX0_isTold hj_4 h) (fun r_5 => ?_)
    refine sm_if_ne C dX9_lookAtList_14 (tgt := 20) rfl (fun h_7 => ?_) (fun h_7 => ?_)
    · refine sm_bipush C bp_m2 dX9_lookAtList_17 ?_
      exact sm_iret C E rfl dX9_lookAtList_19
    · refine sm_aload_n C 0 rfl dX9_lookAtList_20 rfl ?_
      refine sm_getR C fo_9_5 rfl wd230 kd_0 dX9_lookAtList_21 (rv_0_5 w) (by decide) ?_
      refine sm_iload_n C 1 rfl dX9_lookAtList_24 rfl ?_
      refine sm_aald C 5 (by decide) kd_19 dX9_lookAtList_25 (fun h_8 => rvS w h_8) (fun h_8 => nzS h_8) (fun h_8 => ?_)
      refine sm_cVI (As := []) C cfX5_isThere wd231 (kdR (isS h_8)) rfl rfl rfl rfl rfl dX9_lookAtList_26 (fun r h => mX5_isThere (isS h_8) h) (fun r_9 => ?_)
      refine sm_if_ne C dX9_lookAtList_29 (tgt := 35) rfl (fun h_11 => ?_) (fun h_11 => ?_)
      · refine sm_bipush C bp_m6 dX9_lookAtList_32 ?_
        exact sm_iret C E rfl dX9_lookAtList_34
      · refine sm_aload_n C 0 rfl dX9_lookAtList_35 rfl ?_
        refine sm_getR C fo_9_7 rfl wd246 kd_0 dX9_lookAtList_36 (rv_0_7 w) (by decide) ?_
        refine sm_aload_n C 0 rfl dX9_lookAtList_39 rfl ?_
        refine sm_getR C fo_9_5 rfl wd230 kd_0 dX9_lookAtList_40 (rv_0_5 w) (by decide) ?_
        refine sm_iload_n C 1 rfl dX9_lookAtList_43 rfl ?_
        refine sm_aald C 5 (by decide) kd_19 dX9_lookAtList_44 (fun h_12 => rvS w h_12) (fun h_12 => nzS h_12) (fun h_12 => ?_)
        refine sm_cVIW (As := [.ref (hB G + (44 + 2 * ix x1))]) C cfX7_look wd247 kd_22 rfl rfl rfl rfl rfl dX9_lookAtList_45 (fun r h => mX7_look (isS h_12) h) (fun r_13 w_14 => ?_)
        refine sm_if_eq C dX9_lookAtList_48 (tgt := 55) rfl (fun h_15 => ?_) (fun h_15 => ?_)
        · refine sm_iconst C ic_0 dX9_lookAtList_51 ?_
          refine sm_goto C dX9_lookAtList_52 (tgt := 57) rfl ?_
          exact sm_iret C E rfl dX9_lookAtList_57
        · refine sm_bipush C bp_m2 dX9_lookAtList_55 ?_
          exact sm_iret C E rfl dX9_lookAtList_57
  · refine sm_bipush C bp_m2 dX9_lookAtList_17 ?_
    exact sm_iret C E rfl dX9_lookAtList_19
/-! X7_howMany -/
set_option maxRecDepth 100000 in
set_option maxHeartbeats 4000000 in
theorem mX7_howMany {b : Bx} {w : HW} {x1 : Int32} {x2 : Int32} {a : Int32} (h : fX7_howMany w x1 x2 = some a) : Mt b yX7_howMany cX7_howMany 3 (some .int) 1 20 [.ref (bB b + 22), .int x1, .int x2] w (some (.int a)) w := by
  refine Mt.of (ρI w) h (by decide) (Nat.le_of_ble_eq_true rfl) (fun G hG C E => ?_)
  subst hG
  have C : Cx G cX7_howMany RX7 3 1 20 := C
  change Sm G a 0 [(0, .ref (hB G + 22)), (1, .int x1), (2, .int x2)] [] w _
  unfold fX7_howMany
  refine sm_iload_n C 1 rfl dX7_howMany_0 rfl ?_
  refine sm_cNI (As := [.int x1]) C cfX9_isChoice 14 rfl rfl rfl rfl rfl dX7_howMany_1 (fun r h => mX9_isChoice  h) (fun r_1 => ?_)
  refine sm_if_eq C dX7_howMany_4 (tgt := 27) rfl (fun h_3 => ?_) (fun h_3 => ?_)
  · refine sm_iload_n C 2 rfl dX7_howMany_7 rfl ?_
    refine sm_cNI (As := [.int x2]) C cfX9_isChoice 14 rfl rfl rfl rfl rfl dX7_howMany_8 (fun r h => mX9_isChoice  h) (fun r_4 => ?_)
    refine sm_if_eq C dX7_howMany_11 (tgt := 27) rfl (fun h_6 => ?_) (fun h_6 => ?_)
    · refine sm_aload_n C 0 rfl dX7_howMany_14 rfl ?_
      refine sm_getR C fo_7_0 rfl wd243 kd_22 dX7_howMany_15 (rv_22_0 w) (by decide) ?_
      refine sm_iload_n C 1 rfl dX7_howMany_18 rfl ?_
      refine sm_iconst C ic_2 dX7_howMany_19 ?_
      refine sm_imul C dX7_howMany_20 ?_
      refine sm_iload_n C 2 rfl dX7_howMany_21 rfl ?_
      refine sm_iadd C dX7_howMany_22 ?_
      refine sm_iald C kd_23 dX7_howMany_23 (fun h_7 => ?_)
      refine sm_goto C dX7_howMany_24 (tgt := 28) rfl ?_
      exact sm_iret C E rfl dX7_howMany_28
    · refine sm_iconst C ic_0 dX7_howMany_27 ?_
      exact sm_iret C E rfl dX7_howMany_28
  · refine sm_iconst C ic_0 dX7_howMany_27 ?_
    exact sm_iret C E rfl dX7_howMany_28
/-! X9_tally -/
set_option maxRecDepth 100000 in
set_option maxHeartbeats 4000000 in
theorem mX9_tally {b : Bx} {w : HW} {x1 : Int32} {x2 : Int32} {x3 : Int32} {a : Int32 × HW} (h : fX9_tally w x1 x2 x3 = some a) : Mt b yX9_tally cX9_tally 5 (some .int) 2 47 [.ref (bB b + 0), .int x1, .int x2, .int x3] w (some (.int a.1)) a.2 := by
  refine Mt.of ρIW h (by decide) (Nat.le_of_ble_eq_true rfl) (fun G hG C E => ?_)
  subst hG
  have C : Cx G cX9_tally RX9 5 2 47 := C
  change Sm G a 0 [(0, .ref (hB G + 0)), (1, .int x1), (2, .int x2), (3, .int x3)] [] w _
  unfold fX9_tally
  refine sm_iload_n C 2 rfl dX9_tally_0 rfl ?_
  refine sm_cSI (As := [.int x2]) C cfX9_isChoice wd248 rfl rfl rfl rfl dX9_tally_1 (fun r h => mX9_isChoice  h) (fun r_1 => ?_)
  refine sm_if_eq C dX9_tally_4 (tgt := 14) rfl (fun h_3 => ?_) (fun h_3 => ?_)
  · refine sm_iload_n C 3 rfl dX9_tally_7 rfl ?_
    refine sm_cSI (As := [.int x3]) C cfX9_isChoice wd248 rfl rfl rfl rfl dX9_tally_8 (fun r h => mX9_isChoice  h) (fun r_4 => ?_)
    refine sm_if_ne C dX9_tally_11 (tgt := 17) rfl (fun h_6 => ?_) (fun h_6 => ?_)
    · refine sm_bipush C bp_m2 dX9_tally_14 ?_
      exact sm_iret C E rfl dX9_tally_16
    · refine sm_aload_n C 0 rfl dX9_tally_17 rfl ?_
      refine sm_iload_n C 1 rfl dX9_tally_18 rfl ?_
      refine sm_cVIW (As := [.int x1]) C cfX9_lookAtList wd249 kd_0 rfl rfl rfl rfl rfl dX9_tally_19 (fun r h => mX9_lookAtList  h) (fun r_7 w_8 => ?_)
      refine sm_istore (lv1 := [(4, .int r_7), (0, .ref (hB G + 0)), (1, .int x1), (2, .int x2), (3, .int x3)]) C dX9_tally_22 rfl rfl ?_
      refine sm_iload C 0 rfl dX9_tally_24 ?_
      refine sm_if_ge C dX9_tally_26 (tgt := 34) rfl (fun h_9 => ?_) (fun h_9 => ?_)
      · refine sm_iload C 0 rfl dX9_tally_29 ?_
        refine sm_goto C dX9_tally_31 (tgt := 43) rfl ?_
        exact sm_iret C E rfl dX9_tally_43
      · refine sm_aload_n C 1 rfl dX9_tally_34 rfl ?_
        refine sm_getR C fo_9_7 rfl wd246 kd_0 dX9_tally_35 (rv_0_7 w_8) (by decide) ?_
        refine sm_iload_n C 3 rfl dX9_tally_38 rfl ?_
        refine sm_iload_n C 4 rfl dX9_tally_39 rfl ?_
        refine sm_cVI (As := [.int x2, .int x3]) C cfX7_howMany wd250 kd_22 rfl rfl rfl rfl rfl dX9_tally_40 (fun r h => mX7_howMany  h) (fun r_10 => ?_)
        exact sm_iret C E rfl dX9_tally_43
  · refine sm_bipush C bp_m2 dX9_tally_14 ?_
    exact sm_iret C E rfl dX9_tally_16
/-! X7_withSign -/
set_option maxRecDepth 100000 in
set_option maxHeartbeats 4000000 in
theorem mX7_withSign {b : Bx} {w : HW} {x1 : Int32} {a : Int32} (h : fX7_withSign w x1 = some a) : Mt b yX7_withSign cX7_withSign 2 (some .int) 2 42 [.ref (bB b + 22), .int x1] w (some (.int a)) w := by
  refine Mt.of (ρI w) h (by decide) (Nat.le_of_ble_eq_true rfl) (fun G hG C E => ?_)
  subst hG
  have C : Cx G cX7_withSign RX7 2 2 42 := C
  change Sm G a 0 [(0, .ref (hB G + 22)), (1, .int x1)] [] w _
  unfold fX7_withSign
  refine sm_aload_n C 0 rfl dX7_withSign_0 rfl ?_
  refine sm_iload_n C 1 rfl dX7_withSign_1 rfl ?_
  refine sm_iconst C ic_0 dX7_withSign_2 ?_
  refine sm_cVI (As := [.int x1, .int 0]) C cfX7_howMany wd251 kd_22 rfl rfl rfl rfl rfl dX7_withSign_3 (fun r h => mX7_howMany  h) (fun r_1 => ?_)
  refine sm_aload_n C 0 rfl dX7_withSign_6 rfl ?_
  refine sm_iload_n C 1 rfl dX7_withSign_7 rfl ?_
  refine sm_iconst C ic_1 dX7_withSign_8 ?_
  refine sm_cVI (As := [.int x1, .int 1]) C cfX7_howMany wd251 kd_22 rfl rfl rfl rfl rfl dX7_withSign_9 (fun r h => mX7_howMany  h) (fun r_3 => ?_)
  refine sm_iadd C dX7_withSign_12 ?_
  exact sm_iret C E rfl dX7_withSign_13
/-! X7_choose -/
set_option maxRecDepth 100000 in
set_option maxHeartbeats 4000000 in
theorem sX7_choose_16 {G : Gx} {a : Int64} {w : HW} (C : Cx G cX7_choose RX7 5 0 0) (E : Rx G (ρL w) a (some .long)) {x0 : Int32} {x1 : Int32} : ∀ (n : Nat) (x2 : Int64) (x4 : Int32), Sm G a 16 [(0, .int x0), (1, .int x1), (2, .long x2), (4, .int x4)] [] w (fX7_choose_16 w x0 x1 n x2 x4) := by
  intro n
  induction n with
  | zero => intro _ _; exact sm_none
  | succ n ih =>
    intro x2 x4
    rw [fX7_choose_16]
    refine sm_iload C 3 rfl dX7_choose_16 ?_
    refine sm_iload_n C 1 rfl dX7_choose_18 rfl ?_
    refine sm_icmp_gt C dX7_choose_19 (tgt := 42) rfl (fun h_3 => ?_) (fun h_3 => ?_)
    · refine sm_lload_n C 2 rfl dX7_choose_22 rfl ?_
      refine sm_iload_n C 0 rfl dX7_choose_23 rfl ?_
      refine sm_iload_n C 1 rfl dX7_choose_24 rfl ?_
      refine sm_isub C dX7_choose_25 ?_
      refine sm_iload C 3 rfl dX7_choose_26 ?_
      refine sm_iadd C dX7_choose_28 ?_
      refine sm_i2l C dX7_choose_29 ?_
      refine sm_lmul C dX7_choose_30 ?_
      refine sm_iload C 3 rfl dX7_choose_31 ?_
      refine sm_i2l C dX7_choose_33 ?_
      refine sm_nz (fun h_4 => ?_)
      refine sm_ldiv C h_4 dX7_choose_34 ?_
      refine sm_letL (fun x2_5 => ?_)
      refine sm_lstore_n (lv1 := [(2, .long x2_5), (0, .int x0), (1, .int x1), (4, .int x4)]) C dX7_choose_35 rfl rfl rfl ?_
      refine sm_iinc (lv1 := [(4, .int (x4 + 1)), (2, .long x2_5), (0, .int x0), (1, .int x1)]) C 3 rfl (iv_1 _) dX7_choose_36 rfl rfl ?_
      refine sm_goto C dX7_choose_39 (tgt := 16) rfl ?_
      refine sm_sub [2, 3, 1, 0] rfl ?_
      exact ih x2_5 (x4 + 1)
    · refine sm_lload_n C 2 rfl dX7_choose_42 rfl ?_
      exact sm_lret C E rfl dX7_choose_43
set_option maxRecDepth 100000 in
set_option maxHeartbeats 4000000 in
theorem mX7_choose {b : Bx} {w : HW} {x0 : Int32} {x1 : Int32} {a : Int64} (h : fX7_choose w x0 x1 = some a) : Mt b yX7_choose cX7_choose 5 (some .long) 0 0 [.int x0, .int x1] w (some (.long a)) w := by
  refine Mt.of (ρL w) h (by decide) (Nat.le_of_ble_eq_true rfl) (fun G hG C E => ?_)
  subst hG
  have C : Cx G cX7_choose RX7 5 0 0 := C
  change Sm G a 0 [(0, .int x0), (1, .int x1)] [] w _
  unfold fX7_choose
  refine sm_iload_n C 1 rfl dX7_choose_0 rfl ?_
  refine sm_if_lt C dX7_choose_1 (tgt := 9) rfl (fun h_1 => ?_) (fun h_1 => ?_)
  · refine sm_iload_n C 1 rfl dX7_choose_4 rfl ?_
    refine sm_iload_n C 0 rfl dX7_choose_5 rfl ?_
    refine sm_icmp_le C dX7_choose_6 (tgt := 11) rfl (fun h_2 => ?_) (fun h_2 => ?_)
    · refine sm_lconst C lc_0 dX7_choose_9 ?_
      exact sm_lret C E rfl dX7_choose_10
    · refine sm_lconst C lc_1 dX7_choose_11 ?_
      refine sm_lstore_n (lv1 := [(2, .long 1), (0, .int x0), (1, .int x1)]) C dX7_choose_12 rfl rfl rfl ?_
      refine sm_iconst C ic_1 dX7_choose_13 ?_
      refine sm_istore (lv1 := [(4, .int 1), (2, .long 1), (0, .int x0), (1, .int x1)]) C dX7_choose_14 rfl rfl ?_
      refine sm_sub [2, 3, 1, 0] rfl ?_
      exact sX7_choose_16 C E FU 1 1
  · refine sm_lconst C lc_0 dX7_choose_9 ?_
    exact sm_lret C E rfl dX7_choose_10
/-! X7_wins -/
set_option maxRecDepth 100000 in
set_option maxHeartbeats 4000000 in
theorem mX7_wins {b : Bx} {w : HW} {a : Int32} (h : fX7_wins w = some a) : Mt b yX7_wins cX7_wins 1 (some .int) 2 42 [.ref (bB b + 22)] w (some (.int a)) w := by
  refine Mt.of (ρI w) h (by decide) (Nat.le_of_ble_eq_true rfl) (fun G hG C E => ?_)
  subst hG
  have C : Cx G cX7_wins RX7 1 2 42 := C
  change Sm G a 0 [(0, .ref (hB G + 22))] [] w _
  unfold fX7_wins
  refine sm_aload_n C 0 rfl dX7_wins_0 rfl ?_
  refine sm_iconst C ic_0 dX7_wins_1 ?_
  refine sm_iconst C ic_1 dX7_wins_2 ?_
  refine sm_cVI (As := [.int 0, .int 1]) C cfX7_howMany wd251 kd_22 rfl rfl rfl rfl rfl dX7_wins_3 (fun r h => mX7_howMany  h) (fun r_1 => ?_)
  refine sm_aload_n C 0 rfl dX7_wins_6 rfl ?_
  refine sm_iconst C ic_1 dX7_wins_7 ?_
  refine sm_iconst C ic_1 dX7_wins_8 ?_
  refine sm_cVI (As := [.int 1, .int 1]) C cfX7_howMany wd251 kd_22 rfl rfl rfl rfl rfl dX7_wins_9 (fun r h => mX7_howMany  h) (fun r_3 => ?_)
  refine sm_iadd C dX7_wins_12 ?_
  exact sm_iret C E rfl dX7_wins_13
/-! X7_waysAsGood -/
set_option maxRecDepth 100000 in
set_option maxHeartbeats 4000000 in
theorem sX7_waysAsGood_9 {G : Gx} {a : Int64} {w : HW} (C : Cx G cX7_waysAsGood RX7 4 3 63) (E : Rx G (ρL w) a (some .long)) : ∀ (n : Nat) (x1 : Int64) (x3 : Int32), Sm G a 9 [(0, .ref (hB G + 22)), (1, .long x1), (3, .int x3)] [] w (fX7_waysAsGood_9 w n x1 x3) := by
  intro n
  induction n with
  | zero => intro _ _; exact sm_none
  | succ n ih =>
    intro x1 x3
    rw [fX7_waysAsGood_9]
    refine sm_iload_n C 2 rfl dX7_waysAsGood_9 rfl ?_
    refine sm_aload_n C 0 rfl dX7_waysAsGood_10 rfl ?_
    refine sm_iconst C ic_1 dX7_waysAsGood_11 ?_
    refine sm_cVI (As := [.int 1]) C cfX7_withSign wd252 kd_22 rfl rfl rfl rfl rfl dX7_waysAsGood_12 (fun r h => mX7_withSign  h) (fun r_3 => ?_)
    refine sm_icmp_gt C dX7_waysAsGood_15 (tgt := 51) rfl (fun h_5 => ?_) (fun h_5 => ?_)
    · refine sm_lload_n C 1 rfl dX7_waysAsGood_18 rfl ?_
      refine sm_aload_n C 0 rfl dX7_waysAsGood_19 rfl ?_
      refine sm_iconst C ic_1 dX7_waysAsGood_20 ?_
      refine sm_cVI (As := [.int 1]) C cfX7_withSign wd252 kd_22 rfl rfl rfl rfl rfl dX7_waysAsGood_21 (fun r h => mX7_withSign  h) (fun r_6 => ?_)
      refine sm_iload_n C 2 rfl dX7_waysAsGood_24 rfl ?_
      refine sm_cSL (As := [.int r_6, .int x3]) C cfX7_choose wd253 rfl rfl rfl rfl dX7_waysAsGood_25 (fun r h => mX7_choose  h) (fun r_8 => ?_)
      refine sm_aload_n C 0 rfl dX7_waysAsGood_28 rfl ?_
      refine sm_iconst C ic_0 dX7_waysAsGood_29 ?_
      refine sm_cVI (As := [.int 0]) C cfX7_withSign wd252 kd_22 rfl rfl rfl rfl rfl dX7_waysAsGood_30 (fun r h => mX7_withSign  h) (fun r_10 => ?_)
      refine sm_aload_n C 0 rfl dX7_waysAsGood_33 rfl ?_
      refine sm_cVI (As := []) C cfX7_wins wd254 kd_22 rfl rfl rfl rfl rfl dX7_waysAsGood_34 (fun r h => mX7_wins  h) (fun r_12 => ?_)
      refine sm_iload_n C 2 rfl dX7_waysAsGood_37 rfl ?_
      refine sm_isub C dX7_waysAsGood_38 ?_
      refine sm_cSL (As := [.int r_10, .int (r_12 - x3)]) C cfX7_choose wd253 rfl rfl rfl rfl dX7_waysAsGood_39 (fun r h => mX7_choose  h) (fun r_14 => ?_)
      refine sm_lmul C dX7_waysAsGood_42 ?_
      refine sm_ladd C dX7_waysAsGood_43 ?_
      refine sm_letL (fun x1_16 => ?_)
      refine sm_lstore_n (lv1 := [(1, .long x1_16), (0, .ref (hB G + 22)), (3, .int x3)]) C dX7_waysAsGood_44 rfl rfl rfl ?_
      refine sm_iinc (lv1 := [(3, .int (x3 + 1)), (1, .long x1_16), (0, .ref (hB G + 22))]) C 2 rfl (iv_1 _) dX7_waysAsGood_45 rfl rfl ?_
      refine sm_goto C dX7_waysAsGood_48 (tgt := 9) rfl ?_
      refine sm_sub [2, 1, 0] rfl ?_
      exact ih x1_16 (x3 + 1)
    · refine sm_lload_n C 1 rfl dX7_waysAsGood_51 rfl ?_
      exact sm_lret C E rfl dX7_waysAsGood_52
set_option maxRecDepth 100000 in
set_option maxHeartbeats 4000000 in
theorem mX7_waysAsGood {b : Bx} {w : HW} {a : Int64} (h : fX7_waysAsGood w = some a) : Mt b yX7_waysAsGood cX7_waysAsGood 4 (some .long) 3 63 [.ref (bB b + 22)] w (some (.long a)) w := by
  refine Mt.of (ρL w) h (by decide) (Nat.le_of_ble_eq_true rfl) (fun G hG C E => ?_)
  subst hG
  have C : Cx G cX7_waysAsGood RX7 4 3 63 := C
  change Sm G a 0 [(0, .ref (hB G + 22))] [] w _
  unfold fX7_waysAsGood
  refine sm_lconst C lc_0 dX7_waysAsGood_0 ?_
  refine sm_lstore_n (lv1 := [(1, .long 0), (0, .ref (hB G + 22))]) C dX7_waysAsGood_1 rfl rfl rfl ?_
  refine sm_aload_n C 1 rfl dX7_waysAsGood_2 rfl ?_
  refine sm_iconst C ic_1 dX7_waysAsGood_3 ?_
  refine sm_iconst C ic_1 dX7_waysAsGood_4 ?_
  refine sm_cVI (As := [.int 1, .int 1]) C cfX7_howMany wd251 kd_22 rfl rfl rfl rfl rfl dX7_waysAsGood_5 (fun r h => mX7_howMany  h) (fun r_1 => ?_)
  refine sm_istore_n (lv1 := [(3, .int r_1), (1, .long 0), (0, .ref (hB G + 22))]) C dX7_waysAsGood_8 rfl rfl rfl ?_
  refine sm_sub [2, 1, 0] rfl ?_
  exact sX7_waysAsGood_9 C E FU 0 r_1
/-! X7_allWays -/
set_option maxRecDepth 100000 in
set_option maxHeartbeats 4000000 in
theorem mX7_allWays {b : Bx} {w : HW} {a : Int64} (h : fX7_allWays w = some a) : Mt b yX7_allWays cX7_allWays 1 (some .long) 3 63 [.ref (bB b + 22)] w (some (.long a)) w := by
  refine Mt.of (ρL w) h (by decide) (Nat.le_of_ble_eq_true rfl) (fun G hG C E => ?_)
  subst hG
  have C : Cx G cX7_allWays RX7 1 3 63 := C
  change Sm G a 0 [(0, .ref (hB G + 22))] [] w _
  unfold fX7_allWays
  refine sm_aload_n C 0 rfl dX7_allWays_0 rfl ?_
  refine sm_iconst C ic_0 dX7_allWays_1 ?_
  refine sm_cVI (As := [.int 0]) C cfX7_withSign wd252 kd_22 rfl rfl rfl rfl rfl dX7_allWays_2 (fun r h => mX7_withSign  h) (fun r_1 => ?_)
  refine sm_aload_n C 0 rfl dX7_allWays_5 rfl ?_
  refine sm_iconst C ic_1 dX7_allWays_6 ?_
  refine sm_cVI (As := [.int 1]) C cfX7_withSign wd252 kd_22 rfl rfl rfl rfl rfl dX7_allWays_7 (fun r h => mX7_withSign  h) (fun r_3 => ?_)
  refine sm_iadd C dX7_allWays_10 ?_
  refine sm_aload_n C 0 rfl dX7_allWays_11 rfl ?_
  refine sm_cVI (As := []) C cfX7_wins wd254 kd_22 rfl rfl rfl rfl rfl dX7_allWays_12 (fun r h => mX7_wins  h) (fun r_5 => ?_)
  refine sm_cSL (As := [.int (r_1 + r_3), .int r_5]) C cfX7_choose wd253 rfl rfl rfl rfl dX7_allWays_15 (fun r h => mX7_choose  h) (fun r_7 => ?_)
  exact sm_lret C E rfl dX7_allWays_18
/-! X9_greatestCommon -/
set_option maxRecDepth 100000 in
set_option maxHeartbeats 4000000 in
theorem sX9_greatestCommon_3 {G : Gx} {a : Int64} {w : HW} (C : Cx G cX9_greatestCommon RX9 7 0 0) (E : Rx G (ρL w) a (some .long)) : ∀ (n : Nat) (x0 : Int64) (x2 : Int64) (x4 : Int32), Sm G a 3 [(0, .long x0), (2, .long x2), (4, .int x4)] [] w (fX9_greatestCommon_3 w n x0 x2 x4) := by
  intro n
  induction n with
  | zero => intro _ _ _; exact sm_none
  | succ n ih =>
    intro x0 x2 x4
    rw [fX9_greatestCommon_3]
    refine sm_iload C 2 rfl dX9_greatestCommon_3 ?_
    refine sm_bipush C bp_100 dX9_greatestCommon_5 ?_
    refine sm_icmp_ge C dX9_greatestCommon_7 (tgt := 32) rfl (fun h_1 => ?_) (fun h_1 => ?_)
    · refine sm_lload_n C 1 rfl dX9_greatestCommon_10 rfl ?_
      refine sm_lconst C lc_0 dX9_greatestCommon_11 ?_
      refine sm_lcmp C dX9_greatestCommon_12 ?_
      refine sm_if_eq C dX9_greatestCommon_13 (tgt := 32) rfl (fun h_2 => ?_) (fun h_2 => ?_)
      · refine sm_lload_n C 0 rfl dX9_greatestCommon_16 rfl ?_
        refine sm_lload_n C 1 rfl dX9_greatestCommon_17 rfl ?_
        refine sm_nz (fun h_3 => ?_)
        refine sm_lrem C h_3 dX9_greatestCommon_18 ?_
        refine sm_letL (fun x5_4 => ?_)
        refine sm_lstore (lv1 := [(5, .long x5_4), (0, .long x0), (2, .long x2), (4, .int x4)]) C dX9_greatestCommon_19 rfl rfl ?_
        refine sm_lload_n C 2 rfl dX9_greatestCommon_21 rfl ?_
        refine sm_lstore_n (lv1 := [(0, .long x2), (5, .long x5_4), (2, .long x2), (4, .int x4)]) C dX9_greatestCommon_22 rfl rfl rfl ?_
        refine sm_lload C 1 rfl dX9_greatestCommon_23 ?_
        refine sm_lstore_n (lv1 := [(2, .long x5_4), (0, .long x2), (5, .long x5_4), (4, .int x4)]) C dX9_greatestCommon_25 rfl rfl rfl ?_
        refine sm_iinc (lv1 := [(4, .int (x4 + 1)), (2, .long x5_4), (0, .long x2), (5, .long x5_4)]) C 3 rfl (iv_1 _) dX9_greatestCommon_26 rfl rfl ?_
        refine sm_goto C dX9_greatestCommon_29 (tgt := 3) rfl ?_
        refine sm_sub [2, 1, 0] rfl ?_
        exact ih x2 x5_4 (x4 + 1)
      · refine sm_lload_n C 0 rfl dX9_greatestCommon_32 rfl ?_
        exact sm_lret C E rfl dX9_greatestCommon_33
    · refine sm_lload_n C 0 rfl dX9_greatestCommon_32 rfl ?_
      exact sm_lret C E rfl dX9_greatestCommon_33
set_option maxRecDepth 100000 in
set_option maxHeartbeats 4000000 in
theorem mX9_greatestCommon {b : Bx} {w : HW} {x0 : Int64} {x2 : Int64} {a : Int64} (h : fX9_greatestCommon w x0 x2 = some a) : Mt b yX9_greatestCommon cX9_greatestCommon 7 (some .long) 0 0 [.long x0, .long x2] w (some (.long a)) w := by
  refine Mt.of (ρL w) h (by decide) (Nat.le_of_ble_eq_true rfl) (fun G hG C E => ?_)
  subst hG
  have C : Cx G cX9_greatestCommon RX9 7 0 0 := C
  change Sm G a 0 [(0, .long x0), (2, .long x2)] [] w _
  unfold fX9_greatestCommon
  refine sm_iconst C ic_0 dX9_greatestCommon_0 ?_
  refine sm_istore (lv1 := [(4, .int 0), (0, .long x0), (2, .long x2)]) C dX9_greatestCommon_1 rfl rfl ?_
  refine sm_sub [1, 2, 0] rfl ?_
  exact sX9_greatestCommon_3 C E FU x0 x2 0
/-! X9_partOfFraction -/
set_option maxRecDepth 100000 in
set_option maxHeartbeats 4000000 in
theorem mX9_partOfFraction {b : Bx} {w : HW} {x0 : Int64} {x2 : Int64} {x4 : Int32} {a : Int64} (h : fX9_partOfFraction w x0 x2 x4 = some a) : Mt b yX9_partOfFraction cX9_partOfFraction 7 (some .long) 1 26 [.long x0, .long x2, .int x4] w (some (.long a)) w := by
  refine Mt.of (ρL w) h (by decide) (Nat.le_of_ble_eq_true rfl) (fun G hG C E => ?_)
  subst hG
  have C : Cx G cX9_partOfFraction RX9 7 1 26 := C
  change Sm G a 0 [(0, .long x0), (2, .long x2), (4, .int x4)] [] w _
  unfold fX9_partOfFraction
  refine sm_lload_n C 0 rfl dX9_partOfFraction_0 rfl ?_
  refine sm_lload_n C 1 rfl dX9_partOfFraction_1 rfl ?_
  refine sm_cSL (As := [.long x0, .long x2]) C cfX9_greatestCommon wd255 rfl rfl rfl rfl dX9_partOfFraction_2 (fun r h => mX9_greatestCommon  h) (fun r_1 => ?_)
  refine sm_lstore (lv1 := [(5, .long r_1), (0, .long x0), (2, .long x2), (4, .int x4)]) C dX9_partOfFraction_5 rfl rfl ?_
  refine sm_lload C 0 rfl dX9_partOfFraction_7 ?_
  refine sm_lconst C lc_0 dX9_partOfFraction_9 ?_
  refine sm_lcmp C dX9_partOfFraction_10 ?_
  refine sm_if_ne C dX9_partOfFraction_11 (tgt := 16) rfl (fun h_3 => ?_) (fun h_3 => ?_)
  · refine sm_lconst C lc_0 dX9_partOfFraction_14 ?_
    exact sm_lret C E rfl dX9_partOfFraction_15
  · refine sm_iload C 3 rfl dX9_partOfFraction_16 ?_
    refine sm_if_ne C dX9_partOfFraction_18 (tgt := 25) rfl (fun h_4 => ?_) (fun h_4 => ?_)
    · refine sm_lload_n C 1 rfl dX9_partOfFraction_21 rfl ?_
      refine sm_goto C dX9_partOfFraction_22 (tgt := 26) rfl ?_
      refine sm_lload C 0 rfl dX9_partOfFraction_26 ?_
      refine sm_nz (fun h_5 => ?_)
      refine sm_ldiv C h_5 dX9_partOfFraction_28 ?_
      exact sm_lret C E rfl dX9_partOfFraction_29
    · refine sm_lload_n C 2 rfl dX9_partOfFraction_25 rfl ?_
      refine sm_lload C 0 rfl dX9_partOfFraction_26 ?_
      refine sm_nz (fun h_6 => ?_)
      refine sm_ldiv C h_6 dX9_partOfFraction_28 ?_
      exact sm_lret C E rfl dX9_partOfFraction_29
/-! X9_doubt -/
set_option maxRecDepth 100000 in
set_option maxHeartbeats 4000000 in
theorem mX9_doubt {b : Bx} {w : HW} {x1 : Int32} {x2 : Int32} {a : Int64 × HW} (h : fX9_doubt w x1 x2 = some a) : Mt b yX9_doubt cX9_doubt 8 (some .long) 4 86 [.ref (bB b + 0), .int x1, .int x2] w (some (.long a.1)) a.2 := by
  refine Mt.of ρLW h (by decide) (Nat.le_of_ble_eq_true rfl) (fun G hG C E => ?_)
  subst hG
  have C : Cx G cX9_doubt RX9 8 4 86 := C
  change Sm G a 0 [(0, .ref (hB G + 0)), (1, .int x1), (2, .int x2)] [] w _
  unfold fX9_doubt
  refine sm_iload_n C 2 rfl dX9_doubt_0 rfl ?_
  refine sm_cSI (As := [.int x2]) C cfX9_isChoice wd248 rfl rfl rfl rfl dX9_doubt_1 (fun r h => mX9_isChoice  h) (fun r_1 => ?_)
  refine sm_if_ne C dX9_doubt_4 (tgt := 11) rfl (fun h_3 => ?_) (fun h_3 => ?_)
  · refine sm_ldc2 C wd256 dX9_doubt_7 ?_
    exact sm_lret C E rfl dX9_doubt_10
  · refine sm_aload_n C 0 rfl dX9_doubt_11 rfl ?_
    refine sm_iload_n C 1 rfl dX9_doubt_12 rfl ?_
    refine sm_cVIW (As := [.int x1]) C cfX9_lookAtList wd249 kd_0 rfl rfl rfl rfl rfl dX9_doubt_13 (fun r h => mX9_lookAtList  h) (fun r_4 w_5 => ?_)
    refine sm_istore_n (lv1 := [(3, .int r_4), (0, .ref (hB G + 0)), (1, .int x1), (2, .int x2)]) C dX9_doubt_16 rfl rfl rfl ?_
    refine sm_iload_n C 0 rfl dX9_doubt_17 rfl ?_
    refine sm_if_ge C dX9_doubt_18 (tgt := 24) rfl (fun h_6 => ?_) (fun h_6 => ?_)
    · refine sm_iload_n C 0 rfl dX9_doubt_21 rfl ?_
      refine sm_i2l C dX9_doubt_22 ?_
      exact sm_lret C E rfl dX9_doubt_23
    · refine sm_aload_n C 1 rfl dX9_doubt_24 rfl ?_
      refine sm_getR C fo_9_7 rfl wd246 kd_0 dX9_doubt_25 (rv_0_7 w_5) (by decide) ?_
      refine sm_cVL (As := []) C cfX7_waysAsGood wd257 kd_22 rfl rfl rfl rfl rfl dX9_doubt_28 (fun r h => mX7_waysAsGood  h) (fun r_7 => ?_)
      refine sm_lstore (lv1 := [(4, .long r_7), (3, .int r_4), (0, .ref (hB G + 0)), (1, .int x1), (2, .int x2)]) C dX9_doubt_31 rfl rfl ?_
      refine sm_aload_n C 2 rfl dX9_doubt_33 rfl ?_
      refine sm_getR C fo_9_7 rfl wd246 kd_0 dX9_doubt_34 (rv_0_7 w_5) (by decide) ?_
      refine sm_cVL (As := []) C cfX7_allWays wd258 kd_22 rfl rfl rfl rfl rfl dX9_doubt_37 (fun r h => mX7_allWays  h) (fun r_9 => ?_)
      refine sm_lstore (lv1 := [(6, .long r_9), (4, .long r_7), (3, .int r_4), (0, .ref (hB G + 0)), (1, .int x1), (2, .int x2)]) C dX9_doubt_40 rfl rfl ?_
      refine sm_lload C 1 rfl dX9_doubt_42 ?_
      refine sm_lload C 0 rfl dX9_doubt_44 ?_
      refine sm_iload_n C 5 rfl dX9_doubt_46 rfl ?_
      refine sm_cSL (As := [.long r_7, .long r_9, .int x2]) C cfX9_partOfFraction wd259 rfl rfl rfl rfl dX9_doubt_47 (fun r h => mX9_partOfFraction  h) (fun r_11 => ?_)
      exact sm_lret C E rfl dX9_doubt_50
/-! X9_share -/
set_option maxRecDepth 100000 in
set_option maxHeartbeats 4000000 in
theorem mX9_share {b : Bx} {w : HW} {x1 : Int32} {x2 : Int32} {x3 : Int32} {a : Int32 × HW} (h : fX9_share w x1 x2 x3 = some a) : Mt b yX9_share cX9_share 6 (some .int) 3 63 [.ref (bB b + 0), .int x1, .int x2, .int x3] w (some (.int a.1)) a.2 := by
  refine Mt.of ρIW h (by decide) (Nat.le_of_ble_eq_true rfl) (fun G hG C E => ?_)
  subst hG
  have C : Cx G cX9_share RX9 6 3 63 := C
  change Sm G a 0 [(0, .ref (hB G + 0)), (1, .int x1), (2, .int x2), (3, .int x3)] [] w _
  unfold fX9_share
  refine sm_iload_n C 2 rfl dX9_share_0 rfl ?_
  refine sm_cSI (As := [.int x2]) C cfX9_isChoice wd248 rfl rfl rfl rfl dX9_share_1 (fun r h => mX9_isChoice  h) (fun r_1 => ?_)
  refine sm_if_eq C dX9_share_4 (tgt := 14) rfl (fun h_3 => ?_) (fun h_3 => ?_)
  · refine sm_iload_n C 3 rfl dX9_share_7 rfl ?_
    refine sm_cSI (As := [.int x3]) C cfX9_isChoice wd248 rfl rfl rfl rfl dX9_share_8 (fun r h => mX9_isChoice  h) (fun r_4 => ?_)
    refine sm_if_ne C dX9_share_11 (tgt := 17) rfl (fun h_6 => ?_) (fun h_6 => ?_)
    · refine sm_bipush C bp_m2 dX9_share_14 ?_
      exact sm_iret C E rfl dX9_share_16
    · refine sm_aload_n C 0 rfl dX9_share_17 rfl ?_
      refine sm_iload_n C 1 rfl dX9_share_18 rfl ?_
      refine sm_cVIW (As := [.int x1]) C cfX9_lookAtList wd249 kd_0 rfl rfl rfl rfl rfl dX9_share_19 (fun r h => mX9_lookAtList  h) (fun r_7 w_8 => ?_)
      refine sm_istore (lv1 := [(4, .int r_7), (0, .ref (hB G + 0)), (1, .int x1), (2, .int x2), (3, .int x3)]) C dX9_share_22 rfl rfl ?_
      refine sm_iload C 0 rfl dX9_share_24 ?_
      refine sm_if_ge C dX9_share_26 (tgt := 32) rfl (fun h_9 => ?_) (fun h_9 => ?_)
      · refine sm_iload C 0 rfl dX9_share_29 ?_
        exact sm_iret C E rfl dX9_share_31
      · refine sm_aload_n C 1 rfl dX9_share_32 rfl ?_
        refine sm_getR C fo_9_7 rfl wd246 kd_0 dX9_share_33 (rv_0_7 w_8) (by decide) ?_
        refine sm_iload_n C 3 rfl dX9_share_36 rfl ?_
        refine sm_cVI (As := [.int x2]) C cfX7_withSign wd260 kd_22 rfl rfl rfl rfl rfl dX9_share_37 (fun r h => mX7_withSign  h) (fun r_10 => ?_)
        refine sm_istore (lv1 := [(5, .int r_10), (4, .int r_7), (0, .ref (hB G + 0)), (1, .int x1), (2, .int x2), (3, .int x3)]) C dX9_share_40 rfl rfl ?_
        refine sm_iload C 0 rfl dX9_share_42 ?_
        refine sm_if_ne C dX9_share_44 (tgt := 51) rfl (fun h_12 => ?_) (fun h_12 => ?_)
        · refine sm_iconst C ic_m1 dX9_share_47 ?_
          refine sm_goto C dX9_share_48 (tgt := 69) rfl ?_
          exact sm_iret C E rfl dX9_share_69
        · refine sm_aload_n C 2 rfl dX9_share_51 rfl ?_
          refine sm_getR C fo_9_7 rfl wd246 kd_0 dX9_share_52 (rv_0_7 w_8) (by decide) ?_
          refine sm_iload_n C 4 rfl dX9_share_55 rfl ?_
          refine sm_iconst C ic_1 dX9_share_56 ?_
          refine sm_cVI (As := [.int x2, .int 1]) C cfX7_howMany wd250 kd_22 rfl rfl rfl rfl rfl dX9_share_57 (fun r h => mX7_howMany  h) (fun r_13 => ?_)
          refine sm_i2l C dX9_share_60 ?_
          refine sm_iload C 0 rfl dX9_share_61 ?_
          refine sm_i2l C dX9_share_63 ?_
          refine sm_iload_n C 5 rfl dX9_share_64 rfl ?_
          refine sm_cSL (As := [.long (r_13.toInt64), .long (r_10.toInt64), .int x3]) C cfX9_partOfFraction wd259 rfl rfl rfl rfl dX9_share_65 (fun r h => mX9_partOfFraction  h) (fun r_15 => ?_)
          refine sm_l2i C dX9_share_68 ?_
          exact sm_iret C E rfl dX9_share_69
  · refine sm_bipush C bp_m2 dX9_share_14 ?_
    exact sm_iret C E rfl dX9_share_16
/-! J6_compare_7cf53 -/
set_option maxRecDepth 100000 in
set_option maxHeartbeats 4000000 in
theorem mJ6_compare_7cf53 {b : Bx} {w : HW} {x0 : Int32} {x1 : Int32} {a : Int32} (h : fJ6_compare_7cf53 w x0 x1 = some a) : Mt b yJ6_compare_7cf53 cJ6_compare_7cf53 2 (some .int) 0 0 [.int x0, .int x1] w (some (.int a)) w := by
  refine Mt.of (ρI w) h (by decide) (Nat.le_of_ble_eq_true rfl) (fun G hG C E => ?_)
  subst hG
  have C : Cx G cJ6_compare_7cf53 RJ6 2 0 0 := C
  change Sm G a 0 [(0, .int x0), (1, .int x1)] [] w _
  unfold fJ6_compare_7cf53
  refine sm_iload_n C 0 rfl dJ6_compare_7cf53_0 rfl ?_
  refine sm_iload_n C 1 rfl dJ6_compare_7cf53_1 rfl ?_
  refine sm_icmp_ge C dJ6_compare_7cf53_2 (tgt := 9) rfl (fun h_1 => ?_) (fun h_1 => ?_)
  · refine sm_iconst C ic_m1 dJ6_compare_7cf53_5 ?_
    refine sm_goto C dJ6_compare_7cf53_6 (tgt := 19) rfl ?_
    exact sm_iret C E rfl dJ6_compare_7cf53_19
  · refine sm_iload_n C 0 rfl dJ6_compare_7cf53_9 rfl ?_
    refine sm_iload_n C 1 rfl dJ6_compare_7cf53_10 rfl ?_
    refine sm_icmp_ne C dJ6_compare_7cf53_11 (tgt := 18) rfl (fun h_2 => ?_) (fun h_2 => ?_)
    · refine sm_iconst C ic_0 dJ6_compare_7cf53_14 ?_
      refine sm_goto C dJ6_compare_7cf53_15 (tgt := 19) rfl ?_
      exact sm_iret C E rfl dJ6_compare_7cf53_19
    · refine sm_iconst C ic_1 dJ6_compare_7cf53_18 ?_
      exact sm_iret C E rfl dJ6_compare_7cf53_19
/-! X9_leans -/
set_option maxRecDepth 100000 in
set_option maxHeartbeats 4000000 in
theorem mX9_leans {b : Bx} {w : HW} {x1 : Int32} {a : Int32 × HW} (h : fX9_leans w x1 = some a) : Mt b yX9_leans cX9_leans 5 (some .int) 3 63 [.ref (bB b + 0), .int x1] w (some (.int a.1)) a.2 := by
  refine Mt.of ρIW h (by decide) (Nat.le_of_ble_eq_true rfl) (fun G hG C E => ?_)
  subst hG
  have C : Cx G cX9_leans RX9 5 3 63 := C
  change Sm G a 0 [(0, .ref (hB G + 0)), (1, .int x1)] [] w _
  unfold fX9_leans
  refine sm_aload_n C 0 rfl dX9_leans_0 rfl ?_
  refine sm_iload_n C 1 rfl dX9_leans_1 rfl ?_
  refine sm_cVIW (As := [.int x1]) C cfX9_lookAtList wd249 kd_0 rfl rfl rfl rfl rfl dX9_leans_2 (fun r h => mX9_lookAtList  h) (fun r_1 w_2 => ?_)
  refine sm_istore_n (lv1 := [(2, .int r_1), (0, .ref (hB G + 0)), (1, .int x1)]) C dX9_leans_5 rfl rfl rfl ?_
  refine sm_iload_n C 0 rfl dX9_leans_6 rfl ?_
  refine sm_if_ge C dX9_leans_7 (tgt := 12) rfl (fun h_3 => ?_) (fun h_3 => ?_)
  · refine sm_iload_n C 0 rfl dX9_leans_10 rfl ?_
    exact sm_iret C E rfl dX9_leans_11
  · refine sm_aload_n C 1 rfl dX9_leans_12 rfl ?_
    refine sm_getR C fo_9_7 rfl wd246 kd_0 dX9_leans_13 (rv_0_7 w_2) (by decide) ?_
    refine sm_iconst C ic_1 dX9_leans_16 ?_
    refine sm_iconst C ic_1 dX9_leans_17 ?_
    refine sm_cVI (As := [.int 1, .int 1]) C cfX7_howMany wd250 kd_22 rfl rfl rfl rfl rfl dX9_leans_18 (fun r h => mX7_howMany  h) (fun r_4 => ?_)
    refine sm_aload_n C 1 rfl dX9_leans_21 rfl ?_
    refine sm_getR C fo_9_7 rfl wd246 kd_0 dX9_leans_22 (rv_0_7 w_2) (by decide) ?_
    refine sm_iconst C ic_0 dX9_leans_25 ?_
    refine sm_cVI (As := [.int 0]) C cfX7_withSign wd260 kd_22 rfl rfl rfl rfl rfl dX9_leans_26 (fun r h => mX7_withSign  h) (fun r_6 => ?_)
    refine sm_imul C dX9_leans_29 ?_
    refine sm_let (fun x3_8 => ?_)
    refine sm_istore_n (lv1 := [(3, .int x3_8), (2, .int r_1), (0, .ref (hB G + 0)), (1, .int x1)]) C dX9_leans_30 rfl rfl rfl ?_
    refine sm_aload_n C 2 rfl dX9_leans_31 rfl ?_
    refine sm_getR C fo_9_7 rfl wd246 kd_0 dX9_leans_32 (rv_0_7 w_2) (by decide) ?_
    refine sm_iconst C ic_0 dX9_leans_35 ?_
    refine sm_iconst C ic_1 dX9_leans_36 ?_
    refine sm_cVI (As := [.int 0, .int 1]) C cfX7_howMany wd250 kd_22 rfl rfl rfl rfl rfl dX9_leans_37 (fun r h => mX7_howMany  h) (fun r_9 => ?_)
    refine sm_aload_n C 2 rfl dX9_leans_40 rfl ?_
    refine sm_getR C fo_9_7 rfl wd246 kd_0 dX9_leans_41 (rv_0_7 w_2) (by decide) ?_
    refine sm_iconst C ic_1 dX9_leans_44 ?_
    refine sm_cVI (As := [.int 1]) C cfX7_withSign wd260 kd_22 rfl rfl rfl rfl rfl dX9_leans_45 (fun r h => mX7_withSign  h) (fun r_11 => ?_)
    refine sm_imul C dX9_leans_48 ?_
    refine sm_let (fun x4_13 => ?_)
    refine sm_istore (lv1 := [(4, .int x4_13), (3, .int x3_8), (2, .int r_1), (0, .ref (hB G + 0)), (1, .int x1)]) C dX9_leans_49 rfl rfl ?_
    refine sm_iload_n C 1 rfl dX9_leans_51 rfl ?_
    refine sm_iload C 0 rfl dX9_leans_52 ?_
    refine sm_cSI (As := [.int x3_8, .int x4_13]) C cfJ6_compare_7cf53 wd261 rfl rfl rfl rfl dX9_leans_54 (fun r h => mJ6_compare_7cf53  h) (fun r_14 => ?_)
    exact sm_iret C E rfl dX9_leans_57
/-! X9_isWorth -/
set_option maxRecDepth 100000 in
set_option maxHeartbeats 4000000 in
theorem mX9_isWorth {b : Bx} {w : HW} {x0 : Int32} {a : Int32} (h : fX9_isWorth w x0 = some a) : Mt b yX9_isWorth cX9_isWorth 1 (some .boolean) 0 0 [.int x0] w (some (.int a)) w := by
  refine Mt.of (ρI w) h (by decide) (Nat.le_of_ble_eq_true rfl) (fun G hG C E => ?_)
  subst hG
  have C : Cx G cX9_isWorth RX9 1 0 0 := C
  change Sm G a 0 [(0, .int x0)] [] w _
  unfold fX9_isWorth
  refine sm_iload_n C 0 rfl dX9_isWorth_0 rfl ?_
  refine sm_if_lt C dX9_isWorth_1 (tgt := 14) rfl (fun h_1 => ?_) (fun h_1 => ?_)
  · refine sm_iload_n C 0 rfl dX9_isWorth_4 rfl ?_
    refine sm_bipush C bp_99 dX9_isWorth_5 ?_
    refine sm_icmp_gt C dX9_isWorth_7 (tgt := 14) rfl (fun h_2 => ?_) (fun h_2 => ?_)
    · refine sm_iconst C ic_1 dX9_isWorth_10 ?_
      refine sm_goto C dX9_isWorth_11 (tgt := 15) rfl ?_
      exact sm_zret C E rfl rfl dX9_isWorth_15
    · refine sm_iconst C ic_0 dX9_isWorth_14 ?_
      exact sm_zret C E rfl rfl dX9_isWorth_15
  · refine sm_iconst C ic_0 dX9_isWorth_14 ?_
    exact sm_zret C E rfl rfl dX9_isWorth_15
/-! X9_generalHas -/
set_option maxRecDepth 100000 in
set_option maxHeartbeats 4000000 in
theorem mX9_generalHas {b : Bx} {w : HW} {x0 : Int32} {x1 : Int32} {x2 : Int32} {x3 : Int32} {a : Int32} (h : fX9_generalHas w x0 x1 x2 x3 = some a) : Mt b yX9_generalHas cX9_generalHas 4 (some .int) 0 0 [.int x0, .int x1, .int x2, .int x3] w (some (.int a)) w := by
  refine Mt.of (ρI w) h (by decide) (Nat.le_of_ble_eq_true rfl) (fun G hG C E => ?_)
  subst hG
  have C : Cx G cX9_generalHas RX9 4 0 0 := C
  change Sm G a 0 [(0, .int x0), (1, .int x1), (2, .int x2), (3, .int x3)] [] w _
  unfold fX9_generalHas
  refine sm_iload_n C 2 rfl dX9_generalHas_0 rfl ?_
  refine sm_if_ne C dX9_generalHas_1 (tgt := 8) rfl (fun h_1 => ?_) (fun h_1 => ?_)
  · refine sm_iload_n C 0 rfl dX9_generalHas_4 rfl ?_
    refine sm_iload_n C 1 rfl dX9_generalHas_5 rfl ?_
    refine sm_isub C dX9_generalHas_6 ?_
    exact sm_iret C E rfl dX9_generalHas_7
  · refine sm_iload_n C 3 rfl dX9_generalHas_8 rfl ?_
    refine sm_if_eq C dX9_generalHas_9 (tgt := 16) rfl (fun h_2 => ?_) (fun h_2 => ?_)
    · refine sm_iconst C ic_0 dX9_generalHas_12 ?_
      refine sm_goto C dX9_generalHas_13 (tgt := 17) rfl ?_
      exact sm_iret C E rfl dX9_generalHas_17
    · refine sm_iload_n C 0 rfl dX9_generalHas_16 rfl ?_
      exact sm_iret C E rfl dX9_generalHas_17
/-! X9_augurHas -/
set_option maxRecDepth 100000 in
set_option maxHeartbeats 4000000 in
theorem sX9_augurHas_9 {G : Gx} {a : Int32} {w : HW} (C : Cx G cX9_augurHas RX9 5 0 0) (E : Rx G (ρI w) a (some .int)) (x0 : Int32) (x1 : Int32) (x2 : Int32) (x3 : Int32) (s0 : Int32) : Sm G a 9 [(0, .int x0), (1, .int x1), (2, .int x2), (3, .int x3)] [.int s0] w (fX9_augurHas_9 w x0 x1 x2 x3 s0) := by
  unfold fX9_augurHas_9
  refine sm_istore (lv1 := [(4, .int s0), (0, .int x0), (1, .int x1), (2, .int x2), (3, .int x3)]) C dX9_augurHas_9 rfl rfl ?_
  refine sm_iload_n C 3 rfl dX9_augurHas_11 rfl ?_
  refine sm_if_ne C dX9_augurHas_12 (tgt := 20) rfl (fun h_2 => ?_) (fun h_2 => ?_)
  · refine sm_iload_n C 2 rfl dX9_augurHas_15 rfl ?_
    refine sm_iload C 0 rfl dX9_augurHas_16 ?_
    refine sm_isub C dX9_augurHas_18 ?_
    exact sm_iret C E rfl dX9_augurHas_19
  · refine sm_iload_n C 4 rfl dX9_augurHas_20 rfl ?_
    refine sm_if_eq C dX9_augurHas_21 (tgt := 31) rfl (fun h_3 => ?_) (fun h_3 => ?_)
    · refine sm_iload_n C 1 rfl dX9_augurHas_24 rfl ?_
      refine sm_iload C 0 rfl dX9_augurHas_25 ?_
      refine sm_isub C dX9_augurHas_27 ?_
      refine sm_goto C dX9_augurHas_28 (tgt := 32) rfl ?_
      exact sm_iret C E rfl dX9_augurHas_32
    · refine sm_iconst C ic_0 dX9_augurHas_31 ?_
      exact sm_iret C E rfl dX9_augurHas_32
set_option maxRecDepth 100000 in
set_option maxHeartbeats 4000000 in
theorem mX9_augurHas {b : Bx} {w : HW} {x0 : Int32} {x1 : Int32} {x2 : Int32} {x3 : Int32} {a : Int32} (h : fX9_augurHas w x0 x1 x2 x3 = some a) : Mt b yX9_augurHas cX9_augurHas 5 (some .int) 0 0 [.int x0, .int x1, .int x2, .int x3] w (some (.int a)) w := by
  refine Mt.of (ρI w) h (by decide) (Nat.le_of_ble_eq_true rfl) (fun G hG C E => ?_)
  subst hG
  have C : Cx G cX9_augurHas RX9 5 0 0 := C
  change Sm G a 0 [(0, .int x0), (1, .int x1), (2, .int x2), (3, .int x3)] [] w _
  unfold fX9_augurHas
  refine sm_iload_n C 3 rfl dX9_augurHas_0 rfl ?_
  refine sm_if_eq C dX9_augurHas_1 (tgt := 8) rfl (fun h_1 => ?_) (fun h_1 => ?_)
  · refine sm_iconst C ic_1 dX9_augurHas_4 ?_
    refine sm_goto C dX9_augurHas_5 (tgt := 9) rfl ?_
    exact sX9_augurHas_9 C E x0 x1 x2 x3 1
  · refine sm_iconst C ic_0 dX9_augurHas_8 ?_
    exact sX9_augurHas_9 C E x0 x1 x2 x3 0
/-! X9_isAtRest -/
set_option maxRecDepth 100000 in
set_option maxHeartbeats 4000000 in
theorem sX9_isAtRest_18 {G : Gx} {a : Int32} {w : HW} (C : Cx G cX9_isAtRest RX9 4 1 24) (E : Rx G (ρI w) a (some .boolean)) (x0 : Int32) (x1 : Int32) (x2 : Int32) (x3 : Int32) (s0 : Int32) (s1 : Int32) (s2 : Int32) (s3 : Int32) : Sm G a 18 [(0, .int x0), (1, .int x1), (2, .int x2), (3, .int x3)] [.int s0, .int s1, .int s2, .int s3] w (fX9_isAtRest_18 w x0 x1 x2 x3 s0 s1 s2 s3) := by
  unfold fX9_isAtRest_18
  refine sm_iload_n C 3 rfl dX9_isAtRest_18 rfl ?_
  refine sm_cSI (As := [.int s2, .int s1, .int s0, .int x3]) C cfX9_generalHas wd262 rfl rfl rfl rfl dX9_isAtRest_19 (fun r h => mX9_generalHas  h) (fun r_4 => ?_)
  refine sm_icmp_lt C dX9_isAtRest_22 (tgt := 54) rfl (fun h_6 => ?_) (fun h_6 => ?_)
  · refine sm_iload_n C 0 rfl dX9_isAtRest_25 rfl ?_
    refine sm_iload_n C 1 rfl dX9_isAtRest_26 rfl ?_
    refine sm_iload_n C 2 rfl dX9_isAtRest_27 rfl ?_
    refine sm_iload_n C 3 rfl dX9_isAtRest_28 rfl ?_
    refine sm_cSI (As := [.int x0, .int x1, .int x2, .int x3]) C cfX9_augurHas wd263 rfl rfl rfl rfl dX9_isAtRest_29 (fun r h => mX9_augurHas  h) (fun r_7 => ?_)
    refine sm_iload_n C 0 rfl dX9_isAtRest_32 rfl ?_
    refine sm_iload_n C 1 rfl dX9_isAtRest_33 rfl ?_
    refine sm_iload_n C 2 rfl dX9_isAtRest_34 rfl ?_
    refine sm_iload_n C 3 rfl dX9_isAtRest_35 rfl ?_
    refine sm_if_ne C dX9_isAtRest_36 (tgt := 43) rfl (fun h_9 => ?_) (fun h_9 => ?_)
    · refine sm_iconst C ic_1 dX9_isAtRest_39 ?_
      refine sm_goto C dX9_isAtRest_40 (tgt := 44) rfl ?_
      refine sm_cSI (As := [.int x0, .int x1, .int x2, .int 1]) C cfX9_augurHas wd263 rfl rfl rfl rfl dX9_isAtRest_44 (fun r h => mX9_augurHas  h) (fun r_10 => ?_)
      refine sm_icmp_lt C dX9_isAtRest_47 (tgt := 54) rfl (fun h_12 => ?_) (fun h_12 => ?_)
      · refine sm_iconst C ic_1 dX9_isAtRest_50 ?_
        refine sm_goto C dX9_isAtRest_51 (tgt := 55) rfl ?_
        exact sm_zret C E rfl rfl dX9_isAtRest_55
      · refine sm_iconst C ic_0 dX9_isAtRest_54 ?_
        exact sm_zret C E rfl rfl dX9_isAtRest_55
    · refine sm_iconst C ic_0 dX9_isAtRest_43 ?_
      refine sm_cSI (As := [.int x0, .int x1, .int x2, .int 0]) C cfX9_augurHas wd263 rfl rfl rfl rfl dX9_isAtRest_44 (fun r h => mX9_augurHas  h) (fun r_13 => ?_)
      refine sm_icmp_lt C dX9_isAtRest_47 (tgt := 54) rfl (fun h_15 => ?_) (fun h_15 => ?_)
      · refine sm_iconst C ic_1 dX9_isAtRest_50 ?_
        refine sm_goto C dX9_isAtRest_51 (tgt := 55) rfl ?_
        exact sm_zret C E rfl rfl dX9_isAtRest_55
      · refine sm_iconst C ic_0 dX9_isAtRest_54 ?_
        exact sm_zret C E rfl rfl dX9_isAtRest_55
  · refine sm_iconst C ic_0 dX9_isAtRest_54 ?_
    exact sm_zret C E rfl rfl dX9_isAtRest_55
set_option maxRecDepth 100000 in
set_option maxHeartbeats 4000000 in
theorem mX9_isAtRest {b : Bx} {w : HW} {x0 : Int32} {x1 : Int32} {x2 : Int32} {x3 : Int32} {a : Int32} (h : fX9_isAtRest w x0 x1 x2 x3 = some a) : Mt b yX9_isAtRest cX9_isAtRest 4 (some .boolean) 1 24 [.int x0, .int x1, .int x2, .int x3] w (some (.int a)) w := by
  refine Mt.of (ρI w) h (by decide) (Nat.le_of_ble_eq_true rfl) (fun G hG C E => ?_)
  subst hG
  have C : Cx G cX9_isAtRest RX9 4 1 24 := C
  change Sm G a 0 [(0, .int x0), (1, .int x1), (2, .int x2), (3, .int x3)] [] w _
  unfold fX9_isAtRest
  refine sm_iload_n C 0 rfl dX9_isAtRest_0 rfl ?_
  refine sm_iload_n C 1 rfl dX9_isAtRest_1 rfl ?_
  refine sm_iload_n C 2 rfl dX9_isAtRest_2 rfl ?_
  refine sm_iload_n C 3 rfl dX9_isAtRest_3 rfl ?_
  refine sm_cSI (As := [.int x0, .int x1, .int x2, .int x3]) C cfX9_generalHas wd262 rfl rfl rfl rfl dX9_isAtRest_4 (fun r h => mX9_generalHas  h) (fun r_1 => ?_)
  refine sm_iload_n C 0 rfl dX9_isAtRest_7 rfl ?_
  refine sm_iload_n C 1 rfl dX9_isAtRest_8 rfl ?_
  refine sm_iload_n C 2 rfl dX9_isAtRest_9 rfl ?_
  refine sm_if_ne C dX9_isAtRest_10 (tgt := 17) rfl (fun h_3 => ?_) (fun h_3 => ?_)
  · refine sm_iconst C ic_1 dX9_isAtRest_13 ?_
    refine sm_goto C dX9_isAtRest_14 (tgt := 18) rfl ?_
    exact sX9_isAtRest_18 C E x0 x1 x2 x3 1 x1 x0 r_1
  · refine sm_iconst C ic_0 dX9_isAtRest_17 ?_
    exact sX9_isAtRest_18 C E x0 x1 x2 x3 0 x1 x0 r_1
/-! X9_rests -/
set_option maxRecDepth 100000 in
set_option maxHeartbeats 4000000 in
theorem sX9_rests_53 {G : Gx} {a : Int32} {w : HW} (C : Cx G cX9_rests RX9 5 2 47) (E : Rx G (ρI w) a (some .int)) {K12 : Int32 → Int32 → Option Int32} (x1 : Int32) (x2 : Int32) (x3 : Int32) (x4 : Int32) (s0 : Int32) (s1 : Int32) (s2 : Int32) (s3 : Int32) (hK12 : ∀ (x3' : Int32) (x4' : Int32), Sm G a 22 [(1, .int x1), (2, .int x2), (3, .int (x3')), (4, .int (x4'))] [] w (K12 x3' x4')) : Sm G a 53 [(1, .int x1), (2, .int x2), (3, .int x3), (4, .int x4)] [.int s0, .int s1, .int s2, .int s3] w (fX9_rests_53 w K12 x1 x2 x3 x4 s0 s1 s2 s3) := by
  unfold fX9_rests_53
  refine sm_cSI (As := [.int s3, .int s2, .int s1, .int s0]) C cfX9_isAtRest wd265 rfl rfl rfl rfl dX9_rests_53 (fun r h => mX9_isAtRest  h) (fun r_11 => ?_)
  refine sm_if_eq C dX9_rests_56 (tgt := 66) rfl (fun h_13 => ?_) (fun h_13 => ?_)
  · refine sm_iload_n C 2 rfl dX9_rests_59 rfl ?_
    refine sm_iconst C ic_1 dX9_rests_60 ?_
    refine sm_iload C 3 rfl dX9_rests_61 ?_
    refine sm_ishl C dX9_rests_63 ?_
    refine sm_ior C dX9_rests_64 ?_
    refine sm_let (fun x3_14 => ?_)
    refine sm_istore_n (lv1 := [(3, .int x3_14), (1, .int x1), (2, .int x2), (4, .int x4)]) C dX9_rests_65 rfl rfl rfl ?_
    refine sm_iinc (lv1 := [(4, .int (x4 + 1)), (3, .int x3_14), (1, .int x1), (2, .int x2)]) C 3 rfl (iv_1 _) dX9_rests_66 rfl rfl ?_
    refine sm_goto C dX9_rests_69 (tgt := 22) rfl ?_
    refine sm_sub [2, 3, 1, 0] rfl ?_
    exact hK12 x3_14 (x4 + 1)
  · refine sm_iinc (lv1 := [(4, .int (x4 + 1)), (1, .int x1), (2, .int x2), (3, .int x3)]) C 3 rfl (iv_1 _) dX9_rests_66 rfl rfl ?_
    refine sm_goto C dX9_rests_69 (tgt := 22) rfl ?_
    refine sm_sub [1, 2, 3, 0] rfl ?_
    exact hK12 x3 (x4 + 1)
set_option maxRecDepth 100000 in
set_option maxHeartbeats 4000000 in
theorem sX9_rests_22 {G : Gx} {a : Int32} {w : HW} (C : Cx G cX9_rests RX9 5 2 47) (E : Rx G (ρI w) a (some .int)) {x1 : Int32} {x2 : Int32} : ∀ (n : Nat) (x3 : Int32) (x4 : Int32), Sm G a 22 [(1, .int x1), (2, .int x2), (3, .int x3), (4, .int x4)] [] w (fX9_rests_22 w x1 x2 n x3 x4) := by
  intro n
  induction n with
  | zero => intro _ _; exact sm_none
  | succ n ih =>
    intro x3 x4
    rw [fX9_rests_22]
    refine sm_iload C 3 rfl dX9_rests_22 ?_
    refine sm_iconst C ic_4 dX9_rests_24 ?_
    refine sm_icmp_ge C dX9_rests_25 (tgt := 72) rfl (fun h_7 => ?_) (fun h_7 => ?_)
    · refine sm_iload_n C 0 rfl dX9_rests_28 rfl ?_
      refine sm_iload_n C 1 rfl dX9_rests_29 rfl ?_
      refine sm_iload C 3 rfl dX9_rests_30 ?_
      refine sm_iconst C ic_2 dX9_rests_32 ?_
      refine sm_icmp_ge C dX9_rests_33 (tgt := 40) rfl (fun h_8 => ?_) (fun h_8 => ?_)
      · refine sm_iconst C ic_1 dX9_rests_36 ?_
        refine sm_goto C dX9_rests_37 (tgt := 41) rfl ?_
        refine sm_iload C 3 rfl dX9_rests_41 ?_
        refine sm_iconst C ic_2 dX9_rests_43 ?_
        refine sm_irem C (by decide) dX9_rests_44 ?_
        refine sm_if_ne C dX9_rests_45 (tgt := 52) rfl (fun h_9 => ?_) (fun h_9 => ?_)
        · refine sm_iconst C ic_1 dX9_rests_48 ?_
          refine sm_goto C dX9_rests_49 (tgt := 53) rfl ?_
          exact sX9_rests_53 C E x1 x2 x3 x4 1 1 x2 x1 (fun x3 x4 => ih x3 x4)
        · refine sm_iconst C ic_0 dX9_rests_52 ?_
          exact sX9_rests_53 C E x1 x2 x3 x4 0 1 x2 x1 (fun x3 x4 => ih x3 x4)
      · refine sm_iconst C ic_0 dX9_rests_40 ?_
        refine sm_iload C 3 rfl dX9_rests_41 ?_
        refine sm_iconst C ic_2 dX9_rests_43 ?_
        refine sm_irem C (by decide) dX9_rests_44 ?_
        refine sm_if_ne C dX9_rests_45 (tgt := 52) rfl (fun h_10 => ?_) (fun h_10 => ?_)
        · refine sm_iconst C ic_1 dX9_rests_48 ?_
          refine sm_goto C dX9_rests_49 (tgt := 53) rfl ?_
          exact sX9_rests_53 C E x1 x2 x3 x4 1 0 x2 x1 (fun x3 x4 => ih x3 x4)
        · refine sm_iconst C ic_0 dX9_rests_52 ?_
          exact sX9_rests_53 C E x1 x2 x3 x4 0 0 x2 x1 (fun x3 x4 => ih x3 x4)
    · refine sm_iload_n C 2 rfl dX9_rests_72 rfl ?_
      exact sm_iret C E rfl dX9_rests_73
set_option maxRecDepth 100000 in
set_option maxHeartbeats 4000000 in
theorem mX9_rests {b : Bx} {w : HW} {x1 : Int32} {x2 : Int32} {a : Int32} (h : fX9_rests w x1 x2 = some a) : Mt b yX9_rests cX9_rests 5 (some .int) 2 47 [.ref (bB b + 0), .int x1, .int x2] w (some (.int a)) w := by
  refine Mt.of (ρI w) h (by decide) (Nat.le_of_ble_eq_true rfl) (fun G hG C E => ?_)
  subst hG
  have C : Cx G cX9_rests RX9 5 2 47 := C
  change Sm G a 0 [(0, .ref (hB G + 0)), (1, .int x1), (2, .int x2)] [] w _
  unfold fX9_rests
  refine sm_iload_n C 1 rfl dX9_rests_0 rfl ?_
  refine sm_cSI (As := [.int x1]) C cfX9_isWorth wd264 rfl rfl rfl rfl dX9_rests_1 (fun r h => mX9_isWorth  h) (fun r_1 => ?_)
  refine sm_if_eq C dX9_rests_4 (tgt := 14) rfl (fun h_3 => ?_) (fun h_3 => ?_)
  · refine sm_iload_n C 2 rfl dX9_rests_7 rfl ?_
    refine sm_cSI (As := [.int x2]) C cfX9_isWorth wd264 rfl rfl rfl rfl dX9_rests_8 (fun r h => mX9_isWorth  h) (fun r_4 => ?_)
    refine sm_if_ne C dX9_rests_11 (tgt := 17) rfl (fun h_6 => ?_) (fun h_6 => ?_)
    · refine sm_bipush C bp_m2 dX9_rests_14 ?_
      exact sm_iret C E rfl dX9_rests_16
    · refine sm_iconst C ic_0 dX9_rests_17 ?_
      refine sm_istore_n (lv1 := [(3, .int 0), (0, .ref (hB G + 0)), (1, .int x1), (2, .int x2)]) C dX9_rests_18 rfl rfl rfl ?_
      refine sm_iconst C ic_0 dX9_rests_19 ?_
      refine sm_istore (lv1 := [(4, .int 0), (3, .int 0), (0, .ref (hB G + 0)), (1, .int x1), (2, .int x2)]) C dX9_rests_20 rfl rfl ?_
      refine sm_sub [3, 4, 1, 0] rfl ?_
      exact sX9_rests_22 C E FU 0 0
  · refine sm_bipush C bp_m2 dX9_rests_14 ?_
    exact sm_iret C E rfl dX9_rests_16
/-! X9_believes -/
set_option maxRecDepth 100000 in
set_option maxHeartbeats 4000000 in
theorem sX9_believes_12 {G : Gx} {a : Int32} {w : HW} (C : Cx G cX9_believes RX9 3 2 47) (E : Rx G (ρI w) a (some .int)) {x1 : Int32} : ∀ (n : Nat) (x2 : Int32), Sm G a 12 [(1, .int x1), (2, .int x2)] [] w (fX9_believes_12 w x1 n x2) := by
  intro n
  induction n with
  | zero => intro _; exact sm_none
  | succ n ih =>
    intro x2
    rw [fX9_believes_12]
    refine sm_iload_n C 1 rfl dX9_believes_12 rfl ?_
    refine sm_bipush C bp_99 dX9_believes_13 ?_
    refine sm_icmp_gt C dX9_believes_15 (tgt := 36) rfl (fun h_4 => ?_) (fun h_4 => ?_)
    · refine sm_iload_n C 0 rfl dX9_believes_18 rfl ?_
      refine sm_iload_n C 1 rfl dX9_believes_19 rfl ?_
      refine sm_iconst C ic_1 dX9_believes_20 ?_
      refine sm_iconst C ic_1 dX9_believes_21 ?_
      refine sm_cSI (As := [.int x1, .int x2, .int 1, .int 1]) C cfX9_isAtRest wd265 rfl rfl rfl rfl dX9_believes_22 (fun r h => mX9_isAtRest  h) (fun r_5 => ?_)
      refine sm_if_eq C dX9_believes_25 (tgt := 30) rfl (fun h_7 => ?_) (fun h_7 => ?_)
      · refine sm_iload_n C 1 rfl dX9_believes_28 rfl ?_
        exact sm_iret C E rfl dX9_believes_29
      · refine sm_iinc (lv1 := [(2, .int (x2 + 1)), (1, .int x1)]) C 1 rfl (iv_1 _) dX9_believes_30 rfl rfl ?_
        refine sm_goto C dX9_believes_33 (tgt := 12) rfl ?_
        refine sm_sub [1, 0] rfl ?_
        exact ih (x2 + 1)
    · refine sm_iconst C ic_m1 dX9_believes_36 ?_
      exact sm_iret C E rfl dX9_believes_37
set_option maxRecDepth 100000 in
set_option maxHeartbeats 4000000 in
theorem mX9_believes {b : Bx} {w : HW} {x1 : Int32} {a : Int32} (h : fX9_believes w x1 = some a) : Mt b yX9_believes cX9_believes 3 (some .int) 2 47 [.ref (bB b + 0), .int x1] w (some (.int a)) w := by
  refine Mt.of (ρI w) h (by decide) (Nat.le_of_ble_eq_true rfl) (fun G hG C E => ?_)
  subst hG
  have C : Cx G cX9_believes RX9 3 2 47 := C
  change Sm G a 0 [(0, .ref (hB G + 0)), (1, .int x1)] [] w _
  unfold fX9_believes
  refine sm_iload_n C 1 rfl dX9_believes_0 rfl ?_
  refine sm_cSI (As := [.int x1]) C cfX9_isWorth wd264 rfl rfl rfl rfl dX9_believes_1 (fun r h => mX9_isWorth  h) (fun r_1 => ?_)
  refine sm_if_ne C dX9_believes_4 (tgt := 10) rfl (fun h_3 => ?_) (fun h_3 => ?_)
  · refine sm_bipush C bp_m2 dX9_believes_7 ?_
    exact sm_iret C E rfl dX9_believes_9
  · refine sm_iconst C ic_0 dX9_believes_10 ?_
    refine sm_istore_n (lv1 := [(2, .int 0), (0, .ref (hB G + 0)), (1, .int x1)]) C dX9_believes_11 rfl rfl rfl ?_
    refine sm_sub [2, 0] rfl ?_
    exact sX9_believes_12 C E FU 0
/-! X9_chance -/
set_option maxRecDepth 100000 in
set_option maxHeartbeats 4000000 in
theorem sX9_chance_55 {G : Gx} {a : Int64 × HW} (C : Cx G cX9_chance RX9 8 6 135) (E : Rx G ρLW a (some .long)) {x1 : Int32} {x2 : Int32} : ∀ (n : Nat) (w : HW) (x3 : Int64) (x5 : Int64) (x7 : Int32), Sm G a 55 [(0, .ref (hB G + 0)), (1, .int x1), (2, .int x2), (3, .long x3), (5, .long x5), (7, .int x7)] [] w (fX9_chance_55 x1 x2 n w x3 x5 x7) := by
  intro n
  induction n with
  | zero => intro _ _ _ _; exact sm_none
  | succ n ih =>
    intro w x3 x5 x7
    rw [fX9_chance_55]
    refine sm_iload C 5 rfl dX9_chance_55 ?_
    refine sm_iload_n C 2 rfl dX9_chance_57 rfl ?_
    refine sm_icmp_ge C dX9_chance_58 (tgt := 86) rfl (fun h_16 => ?_) (fun h_16 => ?_)
    · refine sm_lload_n C 3 rfl dX9_chance_61 rfl ?_
      refine sm_aload_n C 0 rfl dX9_chance_62 rfl ?_
      refine sm_getC C fo_9_10 rfl wd58 kd_0 dX9_chance_63 rfl (fun j_17 hj_17 => ?_)
      refine sm_getI C fo_0_4 rfl wd266 (kdC hj_17) dX9_chance_66 ?_
      refine sm_i2l C dX9_chance_69 ?_
      refine sm_lmul C dX9_chance_70 ?_
      refine sm_letL (fun x3_18 => ?_)
      refine sm_lstore_n (lv1 := [(3, .long x3_18), (0, .ref (hB G + 0)), (1, .int x1), (2, .int x2), (5, .long x5), (7, .int x7)]) C dX9_chance_71 rfl rfl rfl ?_
      refine sm_lload C 4 rfl dX9_chance_72 ?_
      refine sm_ldc2 C wd267 dX9_chance_74 ?_
      refine sm_lmul C dX9_chance_77 ?_
      refine sm_letL (fun x5_19 => ?_)
      refine sm_lstore (lv1 := [(5, .long x5_19), (3, .long x3_18), (0, .ref (hB G + 0)), (1, .int x1), (2, .int x2), (7, .int x7)]) C dX9_chance_78 rfl rfl ?_
      refine sm_iinc (lv1 := [(7, .int (x7 + 1)), (5, .long x5_19), (3, .long x3_18), (0, .ref (hB G + 0)), (1, .int x1), (2, .int x2)]) C 5 rfl (iv_1 _) dX9_chance_80 rfl rfl ?_
      refine sm_goto C dX9_chance_83 (tgt := 55) rfl ?_
      refine sm_sub [3, 4, 5, 2, 1, 0] rfl ?_
      exact ih w x3_18 x5_19 (x7 + 1)
    · refine sm_lload_n C 3 rfl dX9_chance_86 rfl ?_
      refine sm_lload C 4 rfl dX9_chance_87 ?_
      refine sm_iload_n C 1 rfl dX9_chance_89 rfl ?_
      refine sm_cSL (As := [.long x3, .long x5, .int x1]) C cfX9_partOfFraction wd259 rfl rfl rfl rfl dX9_chance_90 (fun r h => mX9_partOfFraction  h) (fun r_20 => ?_)
      exact sm_lret C E rfl dX9_chance_93
set_option maxRecDepth 100000 in
set_option maxHeartbeats 4000000 in
theorem mX9_chance {b : Bx} {w : HW} {x1 : Int32} {a : Int64 × HW} (h : fX9_chance w x1 = some a) : Mt b yX9_chance cX9_chance 8 (some .long) 6 135 [.ref (bB b + 0), .int x1] w (some (.long a.1)) a.2 := by
  refine Mt.of ρLW h (by decide) (Nat.le_of_ble_eq_true rfl) (fun G hG C E => ?_)
  subst hG
  have C : Cx G cX9_chance RX9 8 6 135 := C
  change Sm G a 0 [(0, .ref (hB G + 0)), (1, .int x1)] [] w _
  unfold fX9_chance
  refine sm_iload_n C 1 rfl dX9_chance_0 rfl ?_
  refine sm_cSI (As := [.int x1]) C cfX9_isChoice wd248 rfl rfl rfl rfl dX9_chance_1 (fun r h => mX9_isChoice  h) (fun r_1 => ?_)
  refine sm_if_eq C dX9_chance_4 (tgt := 17) rfl (fun h_3 => ?_) (fun h_3 => ?_)
  · refine sm_aload_n C 0 rfl dX9_chance_7 rfl ?_
    refine sm_getC C fo_9_10 rfl wd58 kd_0 dX9_chance_8 rfl (fun j_4 hj_4 => ?_)
    refine sm_cVI (As := []) C cfX0_isTold wd70 (kdC hj_4) rfl rfl rfl rfl rfl dX9_chance_11 (fun r h => mX0_isTold hj_4 h) (fun r_5 => ?_)
    refine sm_if_ne C dX9_chance_14 (tgt := 21) rfl (fun h_7 => ?_) (fun h_7 => ?_)
    · refine sm_ldc2 C wd256 dX9_chance_17 ?_
      exact sm_lret C E rfl dX9_chance_20
    · refine sm_aload_n C 0 rfl dX9_chance_21 rfl ?_
      refine sm_getR C fo_9_2 rfl wd115 kd_0 dX9_chance_22 (rv_0_2 w) (by decide) ?_
      refine sm_aload_n C 0 rfl dX9_chance_25 rfl ?_
      refine sm_getC C fo_9_10 rfl wd58 kd_0 dX9_chance_26 rfl (fun j_8 hj_8 => ?_)
      refine sm_cVW (As := [.ref (hB G + j_8)]) C cfX6_play wd116 kd_4 rfl rfl rfl rfl rfl dX9_chance_29 (fun r h => mX6_play hj_8 h) (fun w_10 => ?_)
      refine sm_aload_n C 0 rfl dX9_chance_32 rfl ?_
      refine sm_getR C fo_9_2 rfl wd115 kd_0 dX9_chance_33 (rv_0_2 w_10) (by decide) ?_
      refine sm_aload_n C 0 rfl dX9_chance_36 rfl ?_
      refine sm_getC C fo_9_10 rfl wd58 kd_0 dX9_chance_37 rfl (fun j_11 hj_11 => ?_)
      refine sm_cVI (As := [.ref (hB G + j_11)]) C cfX6_passing wd137 kd_4 rfl rfl rfl rfl rfl dX9_chance_40 (fun r h => mX6_passing hj_11 h) (fun r_12 => ?_)
      refine sm_cSI (As := [.int r_12]) C cfJ6_bitCount_0f7a4 wd194 rfl rfl rfl rfl dX9_chance_43 (fun r h => mJ6_bitCount_0f7a4  h) (fun r_14 => ?_)
      refine sm_istore_n (lv1 := [(2, .int r_14), (0, .ref (hB G + 0)), (1, .int x1)]) C dX9_chance_46 rfl rfl rfl ?_
      refine sm_lconst C lc_1 dX9_chance_47 ?_
      refine sm_lstore_n (lv1 := [(3, .long 1), (2, .int r_14), (0, .ref (hB G + 0)), (1, .int x1)]) C dX9_chance_48 rfl rfl rfl ?_
      refine sm_lconst C lc_1 dX9_chance_49 ?_
      refine sm_lstore (lv1 := [(5, .long 1), (3, .long 1), (2, .int r_14), (0, .ref (hB G + 0)), (1, .int x1)]) C dX9_chance_50 rfl rfl ?_
      refine sm_iconst C ic_0 dX9_chance_52 ?_
      refine sm_istore (lv1 := [(7, .int 0), (5, .long 1), (3, .long 1), (2, .int r_14), (0, .ref (hB G + 0)), (1, .int x1)]) C dX9_chance_53 rfl rfl ?_
      refine sm_sub [4, 5, 3, 2, 1, 0] rfl ?_
      exact sX9_chance_55 C E FU w_10 1 1 0
  · refine sm_ldc2 C wd256 dX9_chance_17 ?_
    exact sm_lret C E rfl dX9_chance_20
/-! X0_isFree -/
set_option maxRecDepth 100000 in
set_option maxHeartbeats 4000000 in
theorem mX0_isFree {b : Bx} {w : HW} {k0 : Nat} {x1 : Int32} (hk0 : isC k0 = true) {a : Int32} (h : fX0_isFree w k0 x1 = some a) : Mt b yX0_isFree cX0_isFree 2 (some .boolean) 1 22 [.ref (bB b + k0), .int x1] w (some (.int a)) w := by
  refine Mt.of (ρI w) h (by decide) (Nat.le_of_ble_eq_true rfl) (fun G hG C E => ?_)
  subst hG
  have C : Cx G cX0_isFree RX0 2 1 22 := C
  change Sm G a 0 [(0, .ref (hB G + k0)), (1, .int x1)] [] w _
  unfold fX0_isFree
  refine sm_aload_n C 0 rfl dX0_isFree_0 rfl ?_
  refine sm_cVI (As := []) C cfX0_askedDays wd268 (kdC hk0) rfl rfl rfl rfl rfl dX0_isFree_1 (fun r h => mX0_askedDays hk0 h) (fun r_1 => ?_)
  refine sm_aload_n C 0 rfl dX0_isFree_4 rfl ?_
  refine sm_cVI (As := []) C cfX0_fedDays wd269 (kdC hk0) rfl rfl rfl rfl rfl dX0_isFree_5 (fun r h => mX0_fedDays hk0 h) (fun r_3 => ?_)
  refine sm_ior C dX0_isFree_8 ?_
  refine sm_iload_n C 1 rfl dX0_isFree_9 rfl ?_
  refine sm_cNI (As := [.int (r_1 ||| r_3), .int x1]) C cfX9_holds 10 rfl rfl rfl rfl rfl dX0_isFree_10 (fun r h => mX9_holds  h) (fun r_5 => ?_)
  refine sm_if_ne C dX0_isFree_13 (tgt := 20) rfl (fun h_7 => ?_) (fun h_7 => ?_)
  · refine sm_iconst C ic_1 dX0_isFree_16 ?_
    refine sm_goto C dX0_isFree_17 (tgt := 21) rfl ?_
    exact sm_zret C E rfl rfl dX0_isFree_21
  · refine sm_iconst C ic_0 dX0_isFree_20 ?_
    exact sm_zret C E rfl rfl dX0_isFree_21
/-! X0_isAskedFor -/
set_option maxRecDepth 100000 in
set_option maxHeartbeats 4000000 in
theorem sX0_isAskedFor_2 {G : Gx} {a : Int32} {w : HW} (C : Cx G cX0_isAskedFor RX0 3 0 0) (E : Rx G (ρI w) a (some .boolean)) {k0 : Nat} (hk0 : isC k0 = true) {x1 : Int32} : ∀ (n : Nat) (x2 : Int32), Sm G a 2 [(0, .ref (hB G + k0)), (1, .int x1), (2, .int x2)] [] w (fX0_isAskedFor_2 w k0 x1 n x2) := by
  intro n
  induction n with
  | zero => intro _; exact sm_none
  | succ n ih =>
    intro x2
    rw [fX0_isAskedFor_2]
    refine sm_iload_n C 2 rfl dX0_isAskedFor_2 rfl ?_
    refine sm_aload_n C 0 rfl dX0_isAskedFor_3 rfl ?_
    refine sm_getI C fo_0_14 rfl wd13 (kdC hk0) dX0_isAskedFor_4 ?_
    refine sm_icmp_ge C dX0_isAskedFor_7 (tgt := 28) rfl (fun h_1 => ?_) (fun h_1 => ?_)
    · refine sm_aload_n C 0 rfl dX0_isAskedFor_10 rfl ?_
      refine sm_getR C fo_0_16 rfl wd122 (kdC hk0) dX0_isAskedFor_11 (rvC_16 hk0 w) (nzC_8 hk0) ?_
      refine sm_iload_n C 2 rfl dX0_isAskedFor_14 rfl ?_
      refine sm_iald C (kdC_8 hk0) dX0_isAskedFor_15 (fun h_2 => ?_)
      refine sm_iload_n C 1 rfl dX0_isAskedFor_16 rfl ?_
      refine sm_icmp_ne C dX0_isAskedFor_17 (tgt := 22) rfl (fun h_3 => ?_) (fun h_3 => ?_)
      · refine sm_iconst C ic_1 dX0_isAskedFor_20 ?_
        exact sm_zret C E rfl rfl dX0_isAskedFor_21
      · refine sm_iinc (lv1 := [(2, .int (x2 + 1)), (0, .ref (hB G + k0)), (1, .int x1)]) C 2 rfl (iv_1 _) dX0_isAskedFor_22 rfl rfl ?_
        refine sm_goto C dX0_isAskedFor_25 (tgt := 2) rfl ?_
        refine sm_sub [1, 2, 0] rfl ?_
        exact ih (x2 + 1)
    · refine sm_iconst C ic_0 dX0_isAskedFor_28 ?_
      exact sm_zret C E rfl rfl dX0_isAskedFor_29
set_option maxRecDepth 100000 in
set_option maxHeartbeats 4000000 in
theorem mX0_isAskedFor {b : Bx} {w : HW} {k0 : Nat} {x1 : Int32} (hk0 : isC k0 = true) {a : Int32} (h : fX0_isAskedFor w k0 x1 = some a) : Mt b yX0_isAskedFor cX0_isAskedFor 3 (some .boolean) 0 0 [.ref (bB b + k0), .int x1] w (some (.int a)) w := by
  refine Mt.of (ρI w) h (by decide) (Nat.le_of_ble_eq_true rfl) (fun G hG C E => ?_)
  subst hG
  have C : Cx G cX0_isAskedFor RX0 3 0 0 := C
  change Sm G a 0 [(0, .ref (hB G + k0)), (1, .int x1)] [] w _
  unfold fX0_isAskedFor
  refine sm_iconst C ic_0 dX0_isAskedFor_0 ?_
  refine sm_istore_n (lv1 := [(2, .int 0), (0, .ref (hB G + k0)), (1, .int x1)]) C dX0_isAskedFor_1 rfl rfl rfl ?_
  refine sm_sub [1, 2, 0] rfl ?_
  exact sX0_isAskedFor_2 C E hk0 FU 0
/-! X0_act -/
set_option maxRecDepth 100000 in
set_option maxHeartbeats 4000000 in
theorem mX0_act {b : Bx} {w : HW} {k0 : Nat} {x1 : Int32} {x2 : Int32} (hk0 : isC k0 = true) {a : HW} (h : fX0_act w k0 x1 x2 = some a) : Mt b yX0_act cX0_act 3 (none) 0 0 [.ref (bB b + k0), .int x1, .int x2] w none a := by
  refine Mt.of ρW h (by decide) (Nat.le_of_ble_eq_true rfl) (fun G hG C E => ?_)
  subst hG
  have C : Cx G cX0_act RX0 3 0 0 := C
  change Sm G a 0 [(0, .ref (hB G + k0)), (1, .int x1), (2, .int x2)] [] w _
  unfold fX0_act
  refine sm_aload_n C 0 rfl dX0_act_0 rfl ?_
  refine sm_getI C fo_0_14 rfl wd13 (kdC hk0) dX0_act_1 ?_
  refine sm_bipush C bp_20 dX0_act_4 ?_
  refine sm_icmp_ge C dX0_act_6 (tgt := 39) rfl (fun h_1 => ?_) (fun h_1 => ?_)
  · refine sm_aload_n C 0 rfl dX0_act_9 rfl ?_
    refine sm_getR C fo_0_15 rfl wd123 (kdC hk0) dX0_act_10 (rvC_15 hk0 w) (nzC_7 hk0) ?_
    refine sm_aload_n C 0 rfl dX0_act_13 rfl ?_
    refine sm_getI C fo_0_14 rfl wd13 (kdC hk0) dX0_act_14 ?_
    refine sm_iload_n C 1 rfl dX0_act_17 rfl ?_
    refine sm_iast C (kdC_7 hk0) dX0_act_18 (fun h_2 w_3 => ?_)
    refine sm_aload_n C 0 rfl dX0_act_19 rfl ?_
    refine sm_getR C fo_0_16 rfl wd122 (kdC hk0) dX0_act_20 (rvC_16 hk0 w_3) (nzC_8 hk0) ?_
    refine sm_aload_n C 0 rfl dX0_act_23 rfl ?_
    refine sm_getI C fo_0_14 rfl wd13 (kdC hk0) dX0_act_24 ?_
    refine sm_iload_n C 2 rfl dX0_act_27 rfl ?_
    refine sm_iast C (kdC_8 hk0) dX0_act_28 (fun h_4 w_5 => ?_)
    refine sm_aload_n C 0 rfl dX0_act_29 rfl ?_
    refine sm_dup C rfl dX0_act_30 ?_
    refine sm_getI C fo_0_14 rfl wd13 (kdC hk0) dX0_act_31 ?_
    refine sm_iconst C ic_1 dX0_act_34 ?_
    refine sm_iadd C dX0_act_35 ?_
    refine sm_putI C fo_0_14 rfl wd13 (kdC hk0) rfl dX0_act_36 (fun w_6 => ?_)
    exact sm_vret C E rfl dX0_act_39
  · exact sm_vret C E rfl dX0_act_39
/-! X9_asks -/
set_option maxRecDepth 100000 in
set_option maxHeartbeats 4000000 in
theorem mX9_asks {b : Bx} {w : HW} {x1 : Int32} {x2 : Int32} {a : Int32 × HW} (h : fX9_asks w x1 x2 = some a) : Mt b yX9_asks cX9_asks 3 (some .int) 6 135 [.ref (bB b + 0), .int x1, .int x2] w (some (.int a.1)) a.2 := by
  refine Mt.of ρIW h (by decide) (Nat.le_of_ble_eq_true rfl) (fun G hG C E => ?_)
  subst hG
  have C : Cx G cX9_asks RX9 3 6 135 := C
  change Sm G a 0 [(0, .ref (hB G + 0)), (1, .int x1), (2, .int x2)] [] w _
  unfold fX9_asks
  refine sm_aload_n C 0 rfl dX9_asks_0 rfl ?_
  refine sm_getC C fo_9_10 rfl wd58 kd_0 dX9_asks_1 rfl (fun j_1 hj_1 => ?_)
  refine sm_iload_n C 1 rfl dX9_asks_4 rfl ?_
  refine sm_cVI (As := [.int x1]) C cfX0_hasBill wd66 (kdC hj_1) rfl rfl rfl rfl rfl dX9_asks_5 (fun r h => mX0_hasBill hj_1 h) (fun r_2 => ?_)
  refine sm_if_eq C dX9_asks_8 (tgt := 22) rfl (fun h_4 => ?_) (fun h_4 => ?_)
  · refine sm_aload_n C 0 rfl dX9_asks_11 rfl ?_
    refine sm_getC C fo_9_10 rfl wd58 kd_0 dX9_asks_12 rfl (fun j_5 hj_5 => ?_)
    refine sm_iload_n C 2 rfl dX9_asks_15 rfl ?_
    refine sm_cVI (As := [.int x2]) C cfX0_hasDay wd80 (kdC hj_5) rfl rfl rfl rfl rfl dX9_asks_16 (fun r h => mX0_hasDay hj_5 h) (fun r_6 => ?_)
    refine sm_if_ne C dX9_asks_19 (tgt := 25) rfl (fun h_8 => ?_) (fun h_8 => ?_)
    · refine sm_bipush C bp_m2 dX9_asks_22 ?_
      exact sm_iret C E rfl dX9_asks_24
    · refine sm_aload_n C 0 rfl dX9_asks_25 rfl ?_
      refine sm_getC C fo_9_10 rfl wd58 kd_0 dX9_asks_26 rfl (fun j_9 hj_9 => ?_)
      refine sm_iload_n C 2 rfl dX9_asks_29 rfl ?_
      refine sm_cVI (As := [.int x2]) C cfX0_isFree wd270 (kdC hj_9) rfl rfl rfl rfl rfl dX9_asks_30 (fun r h => mX0_isFree hj_9 h) (fun r_10 => ?_)
      refine sm_if_eq C dX9_asks_33 (tgt := 59) rfl (fun h_12 => ?_) (fun h_12 => ?_)
      · refine sm_aload_n C 0 rfl dX9_asks_36 rfl ?_
        refine sm_getC C fo_9_10 rfl wd58 kd_0 dX9_asks_37 rfl (fun j_13 hj_13 => ?_)
        refine sm_iload_n C 1 rfl dX9_asks_40 rfl ?_
        refine sm_cVI (As := [.int x1]) C cfX0_isAskedFor wd271 (kdC hj_13) rfl rfl rfl rfl rfl dX9_asks_41 (fun r h => mX0_isAskedFor hj_13 h) (fun r_14 => ?_)
        refine sm_if_ne C dX9_asks_44 (tgt := 59) rfl (fun h_16 => ?_) (fun h_16 => ?_)
        · refine sm_aload_n C 0 rfl dX9_asks_47 rfl ?_
          refine sm_getC C fo_9_10 rfl wd58 kd_0 dX9_asks_48 rfl (fun j_17 hj_17 => ?_)
          refine sm_getI C fo_0_14 rfl wd272 (kdC hj_17) dX9_asks_51 ?_
          refine sm_bipush C bp_20 dX9_asks_54 ?_
          refine sm_icmp_lt C dX9_asks_56 (tgt := 62) rfl (fun h_18 => ?_) (fun h_18 => ?_)
          · refine sm_bipush C bp_m5 dX9_asks_59 ?_
            exact sm_iret C E rfl dX9_asks_61
          · refine sm_aload_n C 0 rfl dX9_asks_62 rfl ?_
            refine sm_getC C fo_9_10 rfl wd58 kd_0 dX9_asks_63 rfl (fun j_19 hj_19 => ?_)
            refine sm_iload_n C 2 rfl dX9_asks_66 rfl ?_
            refine sm_iload_n C 1 rfl dX9_asks_67 rfl ?_
            refine sm_cVW (As := [.int x2, .int x1]) C cfX0_act wd273 (kdC hj_19) rfl rfl rfl rfl rfl dX9_asks_68 (fun r h => mX0_act hj_19 h) (fun w_21 => ?_)
            refine sm_aload_n C 0 rfl dX9_asks_71 rfl ?_
            refine sm_getR C fo_9_2 rfl wd115 kd_0 dX9_asks_72 (rv_0_2 w_21) (by decide) ?_
            refine sm_aload_n C 0 rfl dX9_asks_75 rfl ?_
            refine sm_getC C fo_9_10 rfl wd58 kd_0 dX9_asks_76 rfl (fun j_22 hj_22 => ?_)
            refine sm_cVW (As := [.ref (hB G + j_22)]) C cfX6_play wd116 kd_4 rfl rfl rfl rfl rfl dX9_asks_79 (fun r h => mX6_play hj_22 h) (fun w_24 => ?_)
            refine sm_aload_n C 0 rfl dX9_asks_82 rfl ?_
            refine sm_getR C fo_9_2 rfl wd115 kd_0 dX9_asks_83 (rv_0_2 w_24) (by decide) ?_
            refine sm_getR C fo_6_2 rfl wd133 kd_4 dX9_asks_86 (rv_4_2 w_24) (by decide) ?_
            refine sm_iload_n C 1 rfl dX9_asks_89 rfl ?_
            refine sm_iald C kd_7 dX9_asks_90 (fun h_25 => ?_)
            refine sm_iconst C ic_m1 dX9_asks_91 ?_
            refine sm_icmp_ne C dX9_asks_92 (tgt := 99) rfl (fun h_26 => ?_) (fun h_26 => ?_)
            · refine sm_iconst C ic_0 dX9_asks_95 ?_
              refine sm_goto C dX9_asks_96 (tgt := 100) rfl ?_
              exact sm_iret C E rfl dX9_asks_100
            · refine sm_iconst C ic_1 dX9_asks_99 ?_
              exact sm_iret C E rfl dX9_asks_100
        · refine sm_bipush C bp_m5 dX9_asks_59 ?_
          exact sm_iret C E rfl dX9_asks_61
      · refine sm_bipush C bp_m5 dX9_asks_59 ?_
        exact sm_iret C E rfl dX9_asks_61
  · refine sm_bipush C bp_m2 dX9_asks_22 ?_
    exact sm_iret C E rfl dX9_asks_24
/-! X9_feeds -/
set_option maxRecDepth 100000 in
set_option maxHeartbeats 4000000 in
theorem mX9_feeds {b : Bx} {w : HW} {x1 : Int32} {a : Int32 × HW} (h : fX9_feeds w x1 = some a) : Mt b yX9_feeds cX9_feeds 2 (some .int) 6 135 [.ref (bB b + 0), .int x1] w (some (.int a.1)) a.2 := by
  refine Mt.of ρIW h (by decide) (Nat.le_of_ble_eq_true rfl) (fun G hG C E => ?_)
  subst hG
  have C : Cx G cX9_feeds RX9 2 6 135 := C
  change Sm G a 0 [(0, .ref (hB G + 0)), (1, .int x1)] [] w _
  unfold fX9_feeds
  refine sm_aload_n C 0 rfl dX9_feeds_0 rfl ?_
  refine sm_getC C fo_9_10 rfl wd58 kd_0 dX9_feeds_1 rfl (fun j_1 hj_1 => ?_)
  refine sm_iload_n C 1 rfl dX9_feeds_4 rfl ?_
  refine sm_cVI (As := [.int x1]) C cfX0_hasDay wd80 (kdC hj_1) rfl rfl rfl rfl rfl dX9_feeds_5 (fun r h => mX0_hasDay hj_1 h) (fun r_2 => ?_)
  refine sm_if_ne C dX9_feeds_8 (tgt := 14) rfl (fun h_4 => ?_) (fun h_4 => ?_)
  · refine sm_bipush C bp_m2 dX9_feeds_11 ?_
    exact sm_iret C E rfl dX9_feeds_13
  · refine sm_aload_n C 0 rfl dX9_feeds_14 rfl ?_
    refine sm_getC C fo_9_10 rfl wd58 kd_0 dX9_feeds_15 rfl (fun j_5 hj_5 => ?_)
    refine sm_iload_n C 1 rfl dX9_feeds_18 rfl ?_
    refine sm_cVI (As := [.int x1]) C cfX0_isFree wd270 (kdC hj_5) rfl rfl rfl rfl rfl dX9_feeds_19 (fun r h => mX0_isFree hj_5 h) (fun r_6 => ?_)
    refine sm_if_eq C dX9_feeds_22 (tgt := 37) rfl (fun h_8 => ?_) (fun h_8 => ?_)
    · refine sm_aload_n C 0 rfl dX9_feeds_25 rfl ?_
      refine sm_getC C fo_9_10 rfl wd58 kd_0 dX9_feeds_26 rfl (fun j_9 hj_9 => ?_)
      refine sm_getI C fo_0_14 rfl wd272 (kdC hj_9) dX9_feeds_29 ?_
      refine sm_bipush C bp_20 dX9_feeds_32 ?_
      refine sm_icmp_lt C dX9_feeds_34 (tgt := 40) rfl (fun h_10 => ?_) (fun h_10 => ?_)
      · refine sm_bipush C bp_m5 dX9_feeds_37 ?_
        exact sm_iret C E rfl dX9_feeds_39
      · refine sm_aload_n C 0 rfl dX9_feeds_40 rfl ?_
        refine sm_getC C fo_9_10 rfl wd58 kd_0 dX9_feeds_41 rfl (fun j_11 hj_11 => ?_)
        refine sm_iload_n C 1 rfl dX9_feeds_44 rfl ?_
        refine sm_iconst C ic_m1 dX9_feeds_45 ?_
        refine sm_cVW (As := [.int x1, .int (-1)]) C cfX0_act wd273 (kdC hj_11) rfl rfl rfl rfl rfl dX9_feeds_46 (fun r h => mX0_act hj_11 h) (fun w_13 => ?_)
        refine sm_aload_n C 0 rfl dX9_feeds_49 rfl ?_
        refine sm_getR C fo_9_2 rfl wd115 kd_0 dX9_feeds_50 (rv_0_2 w_13) (by decide) ?_
        refine sm_aload_n C 0 rfl dX9_feeds_53 rfl ?_
        refine sm_getC C fo_9_10 rfl wd58 kd_0 dX9_feeds_54 rfl (fun j_14 hj_14 => ?_)
        refine sm_cVW (As := [.ref (hB G + j_14)]) C cfX6_play wd116 kd_4 rfl rfl rfl rfl rfl dX9_feeds_57 (fun r h => mX6_play hj_14 h) (fun w_16 => ?_)
        refine sm_aload_n C 0 rfl dX9_feeds_60 rfl ?_
        refine sm_getR C fo_9_2 rfl wd115 kd_0 dX9_feeds_61 (rv_0_2 w_16) (by decide) ?_
        refine sm_getR C fo_6_0 rfl wd117 kd_4 dX9_feeds_64 (rv_4_0 w_16) (by decide) ?_
        refine sm_iload_n C 1 rfl dX9_feeds_67 rfl ?_
        refine sm_iald C kd_5 dX9_feeds_68 (fun h_17 => ?_)
        exact sm_iret C E rfl dX9_feeds_69
    · refine sm_bipush C bp_m5 dX9_feeds_37 ?_
      exact sm_iret C E rfl dX9_feeds_39
/-! X9_undo -/
set_option maxRecDepth 100000 in
set_option maxHeartbeats 4000000 in
theorem mX9_undo {b : Bx} {w : HW} {a : Int32 × HW} (h : fX9_undo w = some a) : Mt b yX9_undo cX9_undo 1 (some .int) 1 20 [.ref (bB b + 0)] w (some (.int a.1)) a.2 := by
  refine Mt.of ρIW h (by decide) (Nat.le_of_ble_eq_true rfl) (fun G hG C E => ?_)
  subst hG
  have C : Cx G cX9_undo RX9 1 1 20 := C
  change Sm G a 0 [(0, .ref (hB G + 0))] [] w _
  unfold fX9_undo
  refine sm_aload_n C 0 rfl dX9_undo_0 rfl ?_
  refine sm_getC C fo_9_10 rfl wd58 kd_0 dX9_undo_1 rfl (fun j_1 hj_1 => ?_)
  refine sm_cVI (As := []) C cfX0_isTold wd70 (kdC hj_1) rfl rfl rfl rfl rfl dX9_undo_4 (fun r h => mX0_isTold hj_1 h) (fun r_2 => ?_)
  refine sm_if_ne C dX9_undo_7 (tgt := 13) rfl (fun h_4 => ?_) (fun h_4 => ?_)
  · refine sm_bipush C bp_m2 dX9_undo_10 ?_
    exact sm_iret C E rfl dX9_undo_12
  · refine sm_aload_n C 0 rfl dX9_undo_13 rfl ?_
    refine sm_getC C fo_9_10 rfl wd58 kd_0 dX9_undo_14 rfl (fun j_5 hj_5 => ?_)
    refine sm_getI C fo_0_14 rfl wd272 (kdC hj_5) dX9_undo_17 ?_
    refine sm_if_gt C dX9_undo_20 (tgt := 26) rfl (fun h_6 => ?_) (fun h_6 => ?_)
    · refine sm_bipush C bp_m5 dX9_undo_23 ?_
      exact sm_iret C E rfl dX9_undo_25
    · refine sm_aload_n C 0 rfl dX9_undo_26 rfl ?_
      refine sm_getC C fo_9_10 rfl wd58 kd_0 dX9_undo_27 rfl (fun j_7 hj_7 => ?_)
      refine sm_dup C rfl dX9_undo_30 ?_
      refine sm_getI C fo_0_14 rfl wd272 (kdC hj_7) dX9_undo_31 ?_
      refine sm_iconst C ic_1 dX9_undo_34 ?_
      refine sm_isub C dX9_undo_35 ?_
      refine sm_putI C fo_0_14 rfl wd272 (kdC hj_7) rfl dX9_undo_36 (fun w_8 => ?_)
      refine sm_aload_n C 0 rfl dX9_undo_39 rfl ?_
      refine sm_getC C fo_9_10 rfl wd58 kd_0 dX9_undo_40 rfl (fun j_9 hj_9 => ?_)
      refine sm_getI C fo_0_14 rfl wd272 (kdC hj_9) dX9_undo_43 ?_
      exact sm_iret C E rfl dX9_undo_46
/-! X9_anew -/
set_option maxRecDepth 100000 in
set_option maxHeartbeats 4000000 in
theorem mX9_anew {b : Bx} {w : HW} {a : Int32 × HW} (h : fX9_anew w = some a) : Mt b yX9_anew cX9_anew 2 (some .int) 1 20 [.ref (bB b + 0)] w (some (.int a.1)) a.2 := by
  refine Mt.of ρIW h (by decide) (Nat.le_of_ble_eq_true rfl) (fun G hG C E => ?_)
  subst hG
  have C : Cx G cX9_anew RX9 2 1 20 := C
  change Sm G a 0 [(0, .ref (hB G + 0))] [] w _
  unfold fX9_anew
  refine sm_aload_n C 0 rfl dX9_anew_0 rfl ?_
  refine sm_getC C fo_9_10 rfl wd58 kd_0 dX9_anew_1 rfl (fun j_1 hj_1 => ?_)
  refine sm_cVI (As := []) C cfX0_isTold wd70 (kdC hj_1) rfl rfl rfl rfl rfl dX9_anew_4 (fun r h => mX0_isTold hj_1 h) (fun r_2 => ?_)
  refine sm_if_ne C dX9_anew_7 (tgt := 13) rfl (fun h_4 => ?_) (fun h_4 => ?_)
  · refine sm_bipush C bp_m2 dX9_anew_10 ?_
    exact sm_iret C E rfl dX9_anew_12
  · refine sm_aload_n C 0 rfl dX9_anew_13 rfl ?_
    refine sm_getC C fo_9_10 rfl wd58 kd_0 dX9_anew_14 rfl (fun j_5 hj_5 => ?_)
    refine sm_getI C fo_0_14 rfl wd272 (kdC hj_5) dX9_anew_17 ?_
    refine sm_let (fun x1_6 => ?_)
    refine sm_istore_n (lv1 := [(1, .int x1_6), (0, .ref (hB G + 0))]) C dX9_anew_20 rfl rfl rfl ?_
    refine sm_aload_n C 1 rfl dX9_anew_21 rfl ?_
    refine sm_getC C fo_9_10 rfl wd58 kd_0 dX9_anew_22 rfl (fun j_7 hj_7 => ?_)
    refine sm_iconst C ic_0 dX9_anew_25 ?_
    refine sm_putI C fo_0_14 rfl wd272 (kdC hj_7) rfl dX9_anew_26 (fun w_8 => ?_)
    refine sm_iload_n C 0 rfl dX9_anew_29 rfl ?_
    exact sm_iret C E rfl dX9_anew_30
/-! X9_isSeed -/
set_option maxRecDepth 100000 in
set_option maxHeartbeats 4000000 in
theorem mX9_isSeed {b : Bx} {w : HW} {x0 : Int32} {a : Int32} (h : fX9_isSeed w x0 = some a) : Mt b yX9_isSeed cX9_isSeed 1 (some .boolean) 0 0 [.int x0] w (some (.int a)) w := by
  refine Mt.of (ρI w) h (by decide) (Nat.le_of_ble_eq_true rfl) (fun G hG C E => ?_)
  subst hG
  have C : Cx G cX9_isSeed RX9 1 0 0 := C
  change Sm G a 0 [(0, .int x0)] [] w _
  unfold fX9_isSeed
  refine sm_iload_n C 0 rfl dX9_isSeed_0 rfl ?_
  refine sm_if_lt C dX9_isSeed_1 (tgt := 15) rfl (fun h_1 => ?_) (fun h_1 => ?_)
  · refine sm_iload_n C 0 rfl dX9_isSeed_4 rfl ?_
    refine sm_ldcw C wd274 dX9_isSeed_5 ?_
    refine sm_icmp_gt C dX9_isSeed_8 (tgt := 15) rfl (fun h_2 => ?_) (fun h_2 => ?_)
    · refine sm_iconst C ic_1 dX9_isSeed_11 ?_
      refine sm_goto C dX9_isSeed_12 (tgt := 16) rfl ?_
      exact sm_zret C E rfl rfl dX9_isSeed_16
    · refine sm_iconst C ic_0 dX9_isSeed_15 ?_
      exact sm_zret C E rfl rfl dX9_isSeed_16
  · refine sm_iconst C ic_0 dX9_isSeed_15 ?_
    exact sm_zret C E rfl rfl dX9_isSeed_16
/-! X6_draw -/
set_option maxRecDepth 100000 in
set_option maxHeartbeats 4000000 in
theorem mX6_draw {b : Bx} {w : HW} {k1 : Nat} {x2 : Int32} (hk1 : isC k1 = true) {a : HW} (h : fX6_draw w k1 x2 = some a) : Mt b yX6_draw cX6_draw 3 (none) 5 114 [.ref (bB b + 4), .ref (bB b + k1), .int x2] w none a := by
  refine Mt.of ρW h (by decide) (Nat.le_of_ble_eq_true rfl) (fun G hG C E => ?_)
  subst hG
  have C : Cx G cX6_draw RX6 3 5 114 := C
  change Sm G a 0 [(0, .ref (hB G + 4)), (1, .ref (hB G + k1)), (2, .int x2)] [] w _
  unfold fX6_draw
  refine sm_aload_n C 0 rfl dX6_draw_0 rfl ?_
  refine sm_iload_n C 2 rfl dX6_draw_1 rfl ?_
  refine sm_i2l C dX6_draw_2 ?_
  refine sm_putL C fo_6_7 rfl wd96 kd_4 rfl dX6_draw_3 (fun w_1 => ?_)
  refine sm_aload_n C 0 rfl dX6_draw_6 rfl ?_
  refine sm_aload_n C 1 rfl dX6_draw_7 rfl ?_
  refine sm_iconst C ic_1 dX6_draw_8 ?_
  refine sm_cVW (As := [.ref (hB G + k1), .int 1]) C cfX6_live wd114 kd_4 rfl rfl rfl rfl rfl dX6_draw_9 (fun r h => mX6_live hk1 h) (fun w_3 => ?_)
  exact sm_vret C E rfl dX6_draw_12
/-! X9_drawn -/
set_option maxRecDepth 100000 in
set_option maxHeartbeats 4000000 in
theorem mX9_drawn {b : Bx} {w : HW} {x1 : Int32} {x2 : Int32} {a : Int32 × HW} (h : fX9_drawn w x1 x2 = some a) : Mt b yX9_drawn cX9_drawn 3 (some .int) 6 136 [.ref (bB b + 0), .int x1, .int x2] w (some (.int a.1)) a.2 := by
  refine Mt.of ρIW h (by decide) (Nat.le_of_ble_eq_true rfl) (fun G hG C E => ?_)
  subst hG
  have C : Cx G cX9_drawn RX9 3 6 136 := C
  change Sm G a 0 [(0, .ref (hB G + 0)), (1, .int x1), (2, .int x2)] [] w _
  unfold fX9_drawn
  refine sm_iload_n C 1 rfl dX9_drawn_0 rfl ?_
  refine sm_cSI (As := [.int x1]) C cfX9_isSeed wd275 rfl rfl rfl rfl dX9_drawn_1 (fun r h => mX9_isSeed  h) (fun r_1 => ?_)
  refine sm_if_eq C dX9_drawn_4 (tgt := 24) rfl (fun h_3 => ?_) (fun h_3 => ?_)
  · refine sm_iload_n C 2 rfl dX9_drawn_7 rfl ?_
    refine sm_cSI (As := [.int x2]) C cfX9_isChoice wd248 rfl rfl rfl rfl dX9_drawn_8 (fun r h => mX9_isChoice  h) (fun r_4 => ?_)
    refine sm_if_eq C dX9_drawn_11 (tgt := 24) rfl (fun h_6 => ?_) (fun h_6 => ?_)
    · refine sm_aload_n C 0 rfl dX9_drawn_14 rfl ?_
      refine sm_getC C fo_9_10 rfl wd58 kd_0 dX9_drawn_15 rfl (fun j_7 hj_7 => ?_)
      refine sm_cVI (As := []) C cfX0_isTold wd70 (kdC hj_7) rfl rfl rfl rfl rfl dX9_drawn_18 (fun r h => mX0_isTold hj_7 h) (fun r_8 => ?_)
      refine sm_if_ne C dX9_drawn_21 (tgt := 27) rfl (fun h_10 => ?_) (fun h_10 => ?_)
      · refine sm_bipush C bp_m2 dX9_drawn_24 ?_
        exact sm_iret C E rfl dX9_drawn_26
      · refine sm_aload_n C 0 rfl dX9_drawn_27 rfl ?_
        refine sm_getR C fo_9_2 rfl wd115 kd_0 dX9_drawn_28 (rv_0_2 w) (by decide) ?_
        refine sm_aload_n C 0 rfl dX9_drawn_31 rfl ?_
        refine sm_getC C fo_9_10 rfl wd58 kd_0 dX9_drawn_32 rfl (fun j_11 hj_11 => ?_)
        refine sm_iload_n C 1 rfl dX9_drawn_35 rfl ?_
        refine sm_cVW (As := [.ref (hB G + j_11), .int x1]) C cfX6_draw wd276 kd_4 rfl rfl rfl rfl rfl dX9_drawn_36 (fun r h => mX6_draw hj_11 h) (fun w_13 => ?_)
        refine sm_iload_n C 2 rfl dX9_drawn_39 rfl ?_
        refine sm_if_ne C dX9_drawn_40 (tgt := 57) rfl (fun h_14 => ?_) (fun h_14 => ?_)
        · refine sm_aload_n C 0 rfl dX9_drawn_43 rfl ?_
          refine sm_getR C fo_9_2 rfl wd115 kd_0 dX9_drawn_44 (rv_0_2 w_13) (by decide) ?_
          refine sm_aload_n C 0 rfl dX9_drawn_47 rfl ?_
          refine sm_getC C fo_9_10 rfl wd58 kd_0 dX9_drawn_48 rfl (fun j_15 hj_15 => ?_)
          refine sm_cVI (As := [.ref (hB G + j_15)]) C cfX6_passing wd137 kd_4 rfl rfl rfl rfl rfl dX9_drawn_51 (fun r h => mX6_passing hj_15 h) (fun r_16 => ?_)
          refine sm_goto C dX9_drawn_54 (tgt := 64) rfl ?_
          exact sm_iret C E rfl dX9_drawn_64
        · refine sm_aload_n C 0 rfl dX9_drawn_57 rfl ?_
          refine sm_getR C fo_9_2 rfl wd115 kd_0 dX9_drawn_58 (rv_0_2 w_13) (by decide) ?_
          refine sm_getI C fo_6_4 rfl wd277 kd_4 dX9_drawn_61 ?_
          exact sm_iret C E rfl dX9_drawn_64
    · refine sm_bipush C bp_m2 dX9_drawn_24 ?_
      exact sm_iret C E rfl dX9_drawn_26
  · refine sm_bipush C bp_m2 dX9_drawn_24 ?_
    exact sm_iret C E rfl dX9_drawn_26
