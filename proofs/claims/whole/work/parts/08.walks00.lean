/-! X8_append -/
set_option maxRecDepth 100000 in
set_option maxHeartbeats 4000000 in
theorem sX8_append_3 {G : Gx} {a : HW} (C : Cx G cX8_append RX8 3 0 0) (E : Rx G ρW a (none)) {x1 : Int32} : ∀ (n : Nat) (w : HW) (x2 : Int32), Sm G a 3 [(0, .ref (hB G + 1)), (1, .int x1), (2, .int x2)] [] w (fX8_append_3 x1 n w x2) := by
  intro n
  induction n with
  | zero => intro _ _; exact sm_none
  | succ n ih =>
    intro w x2
    rw [fX8_append_3]
    refine sm_iload_n C 2 rfl dX8_append_3 rfl ?_
    refine sm_if_lt C dX8_append_4 (tgt := 55) rfl (fun h_1 => ?_) (fun h_1 => ?_)
    · refine sm_aload_n C 0 rfl dX8_append_7 rfl ?_
      refine sm_getI C fo_8_1 rfl wd0 kd_1 dX8_append_8 ?_
      refine sm_if_lt C dX8_append_11 (tgt := 49) rfl (fun h_2 => ?_) (fun h_2 => ?_)
      · refine sm_aload_n C 0 rfl dX8_append_14 rfl ?_
        refine sm_getI C fo_8_1 rfl wd0 kd_1 dX8_append_15 ?_
        refine sm_aload_n C 0 rfl dX8_append_18 rfl ?_
        refine sm_getR C fo_8_0 rfl wd1 kd_1 dX8_append_19 (rv_1_0 w) (by decide) ?_
        refine sm_alen C (by decide) kd_2 (v := 800) (by decide) dX8_append_22 ?_
        refine sm_icmp_ge C dX8_append_23 (tgt := 49) rfl (fun h_3 => ?_) (fun h_3 => ?_)
        · refine sm_aload_n C 0 rfl dX8_append_26 rfl ?_
          refine sm_getR C fo_8_0 rfl wd1 kd_1 dX8_append_27 (rv_1_0 w) (by decide) ?_
          refine sm_aload_n C 0 rfl dX8_append_30 rfl ?_
          refine sm_getI C fo_8_1 rfl wd0 kd_1 dX8_append_31 ?_
          refine sm_iload_n C 1 rfl dX8_append_34 rfl ?_
          refine sm_iload_n C 2 rfl dX8_append_35 rfl ?_
          refine sm_ishr C dX8_append_36 ?_
          refine sm_i2b C dX8_append_37 ?_
          refine sm_bast C kd_2 dX8_append_38 (fun h_4 w_5 => ?_)
          refine sm_aload_n C 0 rfl dX8_append_39 rfl ?_
          refine sm_dup C rfl dX8_append_40 ?_
          refine sm_getI C fo_8_1 rfl wd0 kd_1 dX8_append_41 ?_
          refine sm_iconst C ic_1 dX8_append_44 ?_
          refine sm_iadd C dX8_append_45 ?_
          refine sm_putI C fo_8_1 rfl wd0 kd_1 rfl dX8_append_46 (fun w_6 => ?_)
          refine sm_iinc (lv1 := [(2, .int (x2 + (-8))), (0, .ref (hB G + 1)), (1, .int x1)]) C 2 rfl (iv_m8 _) dX8_append_49 rfl rfl ?_
          refine sm_goto C dX8_append_52 (tgt := 3) rfl ?_
          refine sm_sub [1, 2, 0] rfl ?_
          exact ih w_6 (x2 + (-8))
        · refine sm_iinc (lv1 := [(2, .int (x2 + (-8))), (0, .ref (hB G + 1)), (1, .int x1)]) C 2 rfl (iv_m8 _) dX8_append_49 rfl rfl ?_
          refine sm_goto C dX8_append_52 (tgt := 3) rfl ?_
          refine sm_sub [1, 2, 0] rfl ?_
          exact ih w (x2 + (-8))
      · refine sm_iinc (lv1 := [(2, .int (x2 + (-8))), (0, .ref (hB G + 1)), (1, .int x1)]) C 2 rfl (iv_m8 _) dX8_append_49 rfl rfl ?_
        refine sm_goto C dX8_append_52 (tgt := 3) rfl ?_
        refine sm_sub [1, 2, 0] rfl ?_
        exact ih w (x2 + (-8))
    · exact sm_vret C E rfl dX8_append_55
set_option maxRecDepth 100000 in
set_option maxHeartbeats 4000000 in
theorem mX8_append {b : Bx} {w : HW} {x1 : Int32} {a : HW} (h : fX8_append w x1 = some a) : Mt b yX8_append cX8_append 3 (none) 0 0 [.ref (bB b + 1), .int x1] w none a := by
  refine Mt.of ρW h (by decide) (Nat.le_of_ble_eq_true rfl) (fun G hG C E => ?_)
  subst hG
  have C : Cx G cX8_append RX8 3 0 0 := C
  change Sm G a 0 [(0, .ref (hB G + 1)), (1, .int x1)] [] w _
  unfold fX8_append
  refine sm_bipush C bp_24 dX8_append_0 ?_
  refine sm_istore_n (lv1 := [(2, .int 24), (0, .ref (hB G + 1)), (1, .int x1)]) C dX8_append_2 rfl rfl rfl ?_
  refine sm_sub [1, 2, 0] rfl ?_
  exact sX8_append_3 C E FU w 24
/-! X9_feed -/
set_option maxRecDepth 100000 in
set_option maxHeartbeats 4000000 in
theorem mX9_feed {b : Bx} {w : HW} {x1 : Int32} {x2 : Int32} {x3 : Int32} {x4 : Int32} {x5 : Int32} {a : Int32 × HW} (h : fX9_feed w x1 x2 x3 x4 x5 = some a) : Mt b yX9_feed cX9_feed 6 (some .int) 1 22 [.ref (bB b + 0), .int x1, .int x2, .int x3, .int x4, .int x5] w (some (.int a.1)) a.2 := by
  refine Mt.of ρIW h (by decide) (Nat.le_of_ble_eq_true rfl) (fun G hG C E => ?_)
  subst hG
  have C : Cx G cX9_feed RX9 6 1 22 := C
  change Sm G a 0 [(0, .ref (hB G + 0)), (1, .int x1), (2, .int x2), (3, .int x3), (4, .int x4), (5, .int x5)] [] w _
  unfold fX9_feed
  refine sm_aload_n C 0 rfl dX9_feed_0 rfl ?_
  refine sm_getR C fo_9_0 rfl wd2 kd_0 dX9_feed_1 (rv_0_0 w) (by decide) ?_
  refine sm_getI C fo_8_1 rfl wd3 kd_1 dX9_feed_4 ?_
  refine sm_sipush C sp_780 dX9_feed_7 ?_
  refine sm_icmp_le C dX9_feed_10 (tgt := 15) rfl (fun h_1 => ?_) (fun h_1 => ?_)
  · refine sm_iconst C ic_m1 dX9_feed_13 ?_
    exact sm_iret C E rfl dX9_feed_14
  · refine sm_aload_n C 0 rfl dX9_feed_15 rfl ?_
    refine sm_getR C fo_9_0 rfl wd2 kd_0 dX9_feed_16 (rv_0_0 w) (by decide) ?_
    refine sm_iload_n C 1 rfl dX9_feed_19 rfl ?_
    refine sm_cVW (As := [.int x1]) C cfX8_append wd4 kd_1 rfl rfl rfl rfl rfl dX9_feed_20 (fun r h => mX8_append  h) (fun w_3 => ?_)
    refine sm_aload_n C 0 rfl dX9_feed_23 rfl ?_
    refine sm_getR C fo_9_0 rfl wd2 kd_0 dX9_feed_24 (rv_0_0 w_3) (by decide) ?_
    refine sm_iload_n C 2 rfl dX9_feed_27 rfl ?_
    refine sm_cVW (As := [.int x2]) C cfX8_append wd4 kd_1 rfl rfl rfl rfl rfl dX9_feed_28 (fun r h => mX8_append  h) (fun w_5 => ?_)
    refine sm_aload_n C 0 rfl dX9_feed_31 rfl ?_
    refine sm_getR C fo_9_0 rfl wd2 kd_0 dX9_feed_32 (rv_0_0 w_5) (by decide) ?_
    refine sm_iload_n C 3 rfl dX9_feed_35 rfl ?_
    refine sm_cVW (As := [.int x3]) C cfX8_append wd4 kd_1 rfl rfl rfl rfl rfl dX9_feed_36 (fun r h => mX8_append  h) (fun w_7 => ?_)
    refine sm_aload_n C 0 rfl dX9_feed_39 rfl ?_
    refine sm_getR C fo_9_0 rfl wd2 kd_0 dX9_feed_40 (rv_0_0 w_7) (by decide) ?_
    refine sm_iload C 4 rfl dX9_feed_43 ?_
    refine sm_cVW (As := [.int x4]) C cfX8_append wd4 kd_1 rfl rfl rfl rfl rfl dX9_feed_45 (fun r h => mX8_append  h) (fun w_9 => ?_)
    refine sm_aload_n C 0 rfl dX9_feed_48 rfl ?_
    refine sm_getR C fo_9_0 rfl wd2 kd_0 dX9_feed_49 (rv_0_0 w_9) (by decide) ?_
    refine sm_iload C 5 rfl dX9_feed_52 ?_
    refine sm_cVW (As := [.int x5]) C cfX8_append wd4 kd_1 rfl rfl rfl rfl rfl dX9_feed_54 (fun r h => mX8_append  h) (fun w_11 => ?_)
    refine sm_aload_n C 0 rfl dX9_feed_57 rfl ?_
    refine sm_getR C fo_9_0 rfl wd2 kd_0 dX9_feed_58 (rv_0_0 w_11) (by decide) ?_
    refine sm_getI C fo_8_1 rfl wd3 kd_1 dX9_feed_61 ?_
    exact sm_iret C E rfl dX9_feed_64
/-! X9_end -/
set_option maxRecDepth 100000 in
set_option maxHeartbeats 4000000 in
theorem mX9_end {b : Bx} {w : HW} {x1 : Int32} {a : Int32 × HW} (h : fX9_end w x1 = some a) : Mt b yX9_end cX9_end 2 (some .int) 0 0 [.ref (bB b + 0), .int x1] w (some (.int a.1)) a.2 := by
  refine Mt.of ρIW h (by decide) (Nat.le_of_ble_eq_true rfl) (fun G hG C E => ?_)
  subst hG
  have C : Cx G cX9_end RX9 2 0 0 := C
  change Sm G a 0 [(0, .ref (hB G + 0)), (1, .int x1)] [] w _
  unfold fX9_end
  refine sm_iload_n C 1 rfl dX9_end_0 rfl ?_
  refine sm_if_lt C dX9_end_1 (tgt := 15) rfl (fun h_1 => ?_) (fun h_1 => ?_)
  · refine sm_iload_n C 1 rfl dX9_end_4 rfl ?_
    refine sm_aload_n C 0 rfl dX9_end_5 rfl ?_
    refine sm_getR C fo_9_0 rfl wd2 kd_0 dX9_end_6 (rv_0_0 w) (by decide) ?_
    refine sm_getI C fo_8_1 rfl wd3 kd_1 dX9_end_9 ?_
    refine sm_icmp_le C dX9_end_12 (tgt := 17) rfl (fun h_2 => ?_) (fun h_2 => ?_)
    · refine sm_iconst C ic_m1 dX9_end_15 ?_
      exact sm_iret C E rfl dX9_end_16
    · refine sm_aload_n C 0 rfl dX9_end_17 rfl ?_
      refine sm_getR C fo_9_0 rfl wd2 kd_0 dX9_end_18 (rv_0_0 w) (by decide) ?_
      refine sm_iload_n C 1 rfl dX9_end_21 rfl ?_
      refine sm_putI C fo_8_1 rfl wd3 kd_1 rfl dX9_end_22 (fun w_3 => ?_)
      refine sm_iload_n C 1 rfl dX9_end_25 rfl ?_
      exact sm_iret C E rfl dX9_end_26
  · refine sm_iconst C ic_m1 dX9_end_15 ?_
    exact sm_iret C E rfl dX9_end_16
/-! X0_forget -/
set_option maxRecDepth 100000 in
set_option maxHeartbeats 4000000 in
theorem mX0_forget {b : Bx} {w : HW} {k0 : Nat} (hk0 : isC k0 = true) {a : HW} (h : fX0_forget w k0 = some a) : Mt b yX0_forget cX0_forget 1 (none) 0 0 [.ref (bB b + k0)] w none a := by
  refine Mt.of ρW h (by decide) (Nat.le_of_ble_eq_true rfl) (fun G hG C E => ?_)
  subst hG
  have C : Cx G cX0_forget RX0 1 0 0 := C
  change Sm G a 0 [(0, .ref (hB G + k0))] [] w _
  unfold fX0_forget
  refine sm_aload_n C 0 rfl dX0_forget_0 rfl ?_
  refine sm_iconst C ic_0 dX0_forget_1 ?_
  refine sm_putI C fo_0_0 rfl wd5 (kdC hk0) rfl dX0_forget_2 (fun w_1 => ?_)
  refine sm_aload_n C 0 rfl dX0_forget_5 rfl ?_
  refine sm_iconst C ic_0 dX0_forget_6 ?_
  refine sm_putI C fo_0_1 rfl wd6 (kdC hk0) rfl dX0_forget_7 (fun w_2 => ?_)
  refine sm_aload_n C 0 rfl dX0_forget_10 rfl ?_
  refine sm_iconst C ic_0 dX0_forget_11 ?_
  refine sm_putI C fo_0_2 rfl wd7 (kdC hk0) rfl dX0_forget_12 (fun w_3 => ?_)
  refine sm_aload_n C 0 rfl dX0_forget_15 rfl ?_
  refine sm_iconst C ic_0 dX0_forget_16 ?_
  refine sm_putI C fo_0_3 rfl wd8 (kdC hk0) rfl dX0_forget_17 (fun w_4 => ?_)
  refine sm_aload_n C 0 rfl dX0_forget_20 rfl ?_
  refine sm_iconst C ic_0 dX0_forget_21 ?_
  refine sm_putI C fo_0_4 rfl wd9 (kdC hk0) rfl dX0_forget_22 (fun w_5 => ?_)
  refine sm_aload_n C 0 rfl dX0_forget_25 rfl ?_
  refine sm_iconst C ic_0 dX0_forget_26 ?_
  refine sm_putI C fo_0_5 rfl wd10 (kdC hk0) rfl dX0_forget_27 (fun w_6 => ?_)
  refine sm_aload_n C 0 rfl dX0_forget_30 rfl ?_
  refine sm_iconst C ic_0 dX0_forget_31 ?_
  refine sm_putI C fo_0_6 rfl wd11 (kdC hk0) rfl dX0_forget_32 (fun w_7 => ?_)
  refine sm_aload_n C 0 rfl dX0_forget_35 rfl ?_
  refine sm_iconst C ic_0 dX0_forget_36 ?_
  refine sm_putI C fo_0_10 rfl wd12 (kdC hk0) rfl dX0_forget_37 (fun w_8 => ?_)
  refine sm_aload_n C 0 rfl dX0_forget_40 rfl ?_
  refine sm_iconst C ic_0 dX0_forget_41 ?_
  refine sm_putI C fo_0_14 rfl wd13 (kdC hk0) rfl dX0_forget_42 (fun w_9 => ?_)
  exact sm_vret C E rfl dX0_forget_45
/-! X4_byteAt -/
set_option maxRecDepth 100000 in
set_option maxHeartbeats 4000000 in
theorem mX4_byteAt {b : Bx} {w : HW} {x1 : Int32} {a : Int32} (h : fX4_byteAt w x1 = some a) : Mt b yX4_byteAt cX4_byteAt 2 (some .int) 0 0 [.ref (bB b + 3), .int x1] w (some (.int a)) w := by
  refine Mt.of (ρI w) h (by decide) (Nat.le_of_ble_eq_true rfl) (fun G hG C E => ?_)
  subst hG
  have C : Cx G cX4_byteAt RX4 2 0 0 := C
  change Sm G a 0 [(0, .ref (hB G + 3)), (1, .int x1)] [] w _
  unfold fX4_byteAt
  refine sm_iload_n C 1 rfl dX4_byteAt_0 rfl ?_
  refine sm_if_lt C dX4_byteAt_1 (tgt := 27) rfl (fun h_1 => ?_) (fun h_1 => ?_)
  · refine sm_iload_n C 1 rfl dX4_byteAt_4 rfl ?_
    refine sm_aload_n C 0 rfl dX4_byteAt_5 rfl ?_
    refine sm_getT C fo_4_2 rfl wd14 kd_3 dX4_byteAt_6 rfl (fun h_2 => ?_)
    refine sm_getI C fo_8_1 rfl wd15 kd_1 dX4_byteAt_9 ?_
    refine sm_icmp_ge C dX4_byteAt_12 (tgt := 27) rfl (fun h_3 => ?_) (fun h_3 => ?_)
    · refine sm_iload_n C 1 rfl dX4_byteAt_15 rfl ?_
      refine sm_aload_n C 0 rfl dX4_byteAt_16 rfl ?_
      refine sm_getT C fo_4_2 rfl wd14 kd_3 dX4_byteAt_17 rfl (fun h_4 => ?_)
      refine sm_getR C fo_8_0 rfl wd16 kd_1 dX4_byteAt_20 (rv_1_0 w) (by decide) ?_
      refine sm_alen C (by decide) kd_2 (v := 800) (by decide) dX4_byteAt_23 ?_
      refine sm_icmp_lt C dX4_byteAt_24 (tgt := 29) rfl (fun h_5 => ?_) (fun h_5 => ?_)
      · refine sm_iconst C ic_m1 dX4_byteAt_27 ?_
        exact sm_iret C E rfl dX4_byteAt_28
      · refine sm_aload_n C 0 rfl dX4_byteAt_29 rfl ?_
        refine sm_getT C fo_4_2 rfl wd14 kd_3 dX4_byteAt_30 rfl (fun h_6 => ?_)
        refine sm_getR C fo_8_0 rfl wd16 kd_1 dX4_byteAt_33 (rv_1_0 w) (by decide) ?_
        refine sm_iload_n C 1 rfl dX4_byteAt_36 rfl ?_
        refine sm_bald C kd_2 dX4_byteAt_37 (fun h_7 => ?_)
        refine sm_sipush C sp_255 dX4_byteAt_38 ?_
        refine sm_iand C dX4_byteAt_41 ?_
        exact sm_iret C E rfl dX4_byteAt_42
    · refine sm_iconst C ic_m1 dX4_byteAt_27 ?_
      exact sm_iret C E rfl dX4_byteAt_28
  · refine sm_iconst C ic_m1 dX4_byteAt_27 ?_
    exact sm_iret C E rfl dX4_byteAt_28
/-! X4_kindOf -/
set_option maxRecDepth 100000 in
set_option maxHeartbeats 4000000 in
theorem sX4_kindOf_35 {G : Gx} {a : Int32} {w : HW} (C : Cx G cX4_kindOf RX4 1 0 0) (E : Rx G (ρI w) a (some .int)) (x0 : Int32) : Sm G a 35 [(0, .int x0)] [] w (fX4_kindOf_35 w x0) := by
  unfold fX4_kindOf_35
  refine sm_iload_n C 0 rfl dX4_kindOf_35 rfl ?_
  refine sm_bipush C bp_48 dX4_kindOf_36 ?_
  refine sm_icmp_lt C dX4_kindOf_38 (tgt := 49) rfl (fun h_6 => ?_) (fun h_6 => ?_)
  · refine sm_iload_n C 0 rfl dX4_kindOf_41 rfl ?_
    refine sm_bipush C bp_57 dX4_kindOf_42 ?_
    refine sm_icmp_gt C dX4_kindOf_44 (tgt := 49) rfl (fun h_7 => ?_) (fun h_7 => ?_)
    · refine sm_iconst C ic_2 dX4_kindOf_47 ?_
      exact sm_iret C E rfl dX4_kindOf_48
    · refine sm_iload_n C 0 rfl dX4_kindOf_49 rfl ?_
      refine sm_bipush C bp_59 dX4_kindOf_50 ?_
      refine sm_icmp_ne C dX4_kindOf_52 (tgt := 59) rfl (fun h_8 => ?_) (fun h_8 => ?_)
      · refine sm_iconst C ic_3 dX4_kindOf_55 ?_
        refine sm_goto C dX4_kindOf_56 (tgt := 60) rfl ?_
        exact sm_iret C E rfl dX4_kindOf_60
      · refine sm_iconst C ic_4 dX4_kindOf_59 ?_
        exact sm_iret C E rfl dX4_kindOf_60
  · refine sm_iload_n C 0 rfl dX4_kindOf_49 rfl ?_
    refine sm_bipush C bp_59 dX4_kindOf_50 ?_
    refine sm_icmp_ne C dX4_kindOf_52 (tgt := 59) rfl (fun h_9 => ?_) (fun h_9 => ?_)
    · refine sm_iconst C ic_3 dX4_kindOf_55 ?_
      refine sm_goto C dX4_kindOf_56 (tgt := 60) rfl ?_
      exact sm_iret C E rfl dX4_kindOf_60
    · refine sm_iconst C ic_4 dX4_kindOf_59 ?_
      exact sm_iret C E rfl dX4_kindOf_60
set_option maxRecDepth 100000 in
set_option maxHeartbeats 4000000 in
theorem mX4_kindOf {b : Bx} {w : HW} {x0 : Int32} {a : Int32} (h : fX4_kindOf w x0 = some a) : Mt b yX4_kindOf cX4_kindOf 1 (some .int) 0 0 [.int x0] w (some (.int a)) w := by
  refine Mt.of (ρI w) h (by decide) (Nat.le_of_ble_eq_true rfl) (fun G hG C E => ?_)
  subst hG
  have C : Cx G cX4_kindOf RX4 1 0 0 := C
  change Sm G a 0 [(0, .int x0)] [] w _
  unfold fX4_kindOf
  refine sm_iload_n C 0 rfl dX4_kindOf_0 rfl ?_
  refine sm_iconst C ic_m1 dX4_kindOf_1 ?_
  refine sm_icmp_ne C dX4_kindOf_2 (tgt := 7) rfl (fun h_1 => ?_) (fun h_1 => ?_)
  · refine sm_iconst C ic_0 dX4_kindOf_5 ?_
    exact sm_iret C E rfl dX4_kindOf_6
  · refine sm_iload_n C 0 rfl dX4_kindOf_7 rfl ?_
    refine sm_bipush C bp_32 dX4_kindOf_8 ?_
    refine sm_icmp_eq C dX4_kindOf_10 (tgt := 19) rfl (fun h_2 => ?_) (fun h_2 => ?_)
    · refine sm_iload_n C 0 rfl dX4_kindOf_13 rfl ?_
      refine sm_bipush C bp_10 dX4_kindOf_14 ?_
      refine sm_icmp_ne C dX4_kindOf_16 (tgt := 21) rfl (fun h_3 => ?_) (fun h_3 => ?_)
      · refine sm_iconst C ic_5 dX4_kindOf_19 ?_
        exact sm_iret C E rfl dX4_kindOf_20
      · refine sm_iload_n C 0 rfl dX4_kindOf_21 rfl ?_
        refine sm_bipush C bp_97 dX4_kindOf_22 ?_
        refine sm_icmp_lt C dX4_kindOf_24 (tgt := 35) rfl (fun h_4 => ?_) (fun h_4 => ?_)
        · refine sm_iload_n C 0 rfl dX4_kindOf_27 rfl ?_
          refine sm_bipush C bp_122 dX4_kindOf_28 ?_
          refine sm_icmp_gt C dX4_kindOf_30 (tgt := 35) rfl (fun h_5 => ?_) (fun h_5 => ?_)
          · refine sm_iconst C ic_1 dX4_kindOf_33 ?_
            exact sm_iret C E rfl dX4_kindOf_34
          · exact sX4_kindOf_35 C E x0
        · exact sX4_kindOf_35 C E x0
    · refine sm_iconst C ic_5 dX4_kindOf_19 ?_
      exact sm_iret C E rfl dX4_kindOf_20
/-! X4_step -/
set_option maxRecDepth 100000 in
set_option maxHeartbeats 4000000 in
theorem sX4_step_172 {G : Gx} {a : HW} (C : Cx G cX4_step RX4 2 1 21) (E : Rx G ρW a (none)) {K45 : HW → Int32 → Option HW} (w : HW) (hK45 : ∀ (w' : HW) (x1' : Int32), Sm G a 91 [(0, .ref (hB G + 3)), (1, .int (x1'))] [] w' (K45 w' x1')) : Sm G a 172 [(0, .ref (hB G + 3))] [] w (fX4_step_172 w K45) := by
  unfold fX4_step_172
  refine sm_aload_n C 0 rfl dX4_step_172 rfl ?_
  refine sm_aload_n C 0 rfl dX4_step_173 rfl ?_
  refine sm_getI C fo_4_6 rfl wd17 kd_3 dX4_step_174 ?_
  refine sm_cVI (As := [.int (gI w 3 6)]) C cfX4_byteAt wd19 kd_3 rfl rfl rfl rfl rfl dX4_step_177 (fun r h => mX4_byteAt  h) (fun r_28 => ?_)
  refine sm_cSI (As := [.int r_28]) C cfX4_kindOf wd20 rfl rfl rfl rfl dX4_step_180 (fun r h => mX4_kindOf  h) (fun r_30 => ?_)
  refine sm_aload_n C 0 rfl dX4_step_183 rfl ?_
  refine sm_getI C fo_4_4 rfl wd21 kd_3 dX4_step_184 ?_
  refine sm_icmp_ne C dX4_step_187 (tgt := 194) rfl (fun h_32 => ?_) (fun h_32 => ?_)
  · refine sm_iconst C ic_1 dX4_step_190 ?_
    refine sm_goto C dX4_step_191 (tgt := 195) rfl ?_
    refine sm_istore_n (lv1 := [(1, .int 1), (0, .ref (hB G + 3))]) C dX4_step_195 rfl rfl rfl ?_
    refine sm_goto C dX4_step_196 (tgt := 91) rfl ?_
    refine sm_sub [1, 0] rfl ?_
    exact hK45 w 1
  · refine sm_iconst C ic_0 dX4_step_194 ?_
    refine sm_istore_n (lv1 := [(1, .int 0), (0, .ref (hB G + 3))]) C dX4_step_195 rfl rfl rfl ?_
    refine sm_goto C dX4_step_196 (tgt := 91) rfl ?_
    refine sm_sub [1, 0] rfl ?_
    exact hK45 w 0
set_option maxRecDepth 100000 in
set_option maxHeartbeats 4000000 in
theorem sX4_step_146 {G : Gx} {a : HW} (C : Cx G cX4_step RX4 2 1 21) (E : Rx G ρW a (none)) {K45 : HW → Int32 → Option HW} (w : HW) (hK45 : ∀ (w' : HW) (x1' : Int32), Sm G a 91 [(0, .ref (hB G + 3)), (1, .int (x1'))] [] w' (K45 w' x1')) : Sm G a 146 [(0, .ref (hB G + 3))] [] w (fX4_step_146 w K45) := by
  unfold fX4_step_146
  refine sm_aload_n C 0 rfl dX4_step_146 rfl ?_
  refine sm_dup C rfl dX4_step_147 ?_
  refine sm_getI C fo_4_6 rfl wd17 kd_3 dX4_step_148 ?_
  refine sm_iconst C ic_1 dX4_step_151 ?_
  refine sm_iadd C dX4_step_152 ?_
  refine sm_putI C fo_4_6 rfl wd17 kd_3 rfl dX4_step_153 (fun w_25 => ?_)
  refine sm_aload_n C 0 rfl dX4_step_156 rfl ?_
  refine sm_getI C fo_4_4 rfl wd21 kd_3 dX4_step_157 ?_
  refine sm_iconst C ic_1 dX4_step_160 ?_
  refine sm_icmp_eq C dX4_step_161 (tgt := 172) rfl (fun h_26 => ?_) (fun h_26 => ?_)
  · refine sm_aload_n C 0 rfl dX4_step_164 rfl ?_
    refine sm_getI C fo_4_4 rfl wd21 kd_3 dX4_step_165 ?_
    refine sm_iconst C ic_2 dX4_step_168 ?_
    refine sm_icmp_ne C dX4_step_169 (tgt := 194) rfl (fun h_27 => ?_) (fun h_27 => ?_)
    · exact sX4_step_172 C E w_25 hK45
    · refine sm_iconst C ic_0 dX4_step_194 ?_
      refine sm_istore_n (lv1 := [(1, .int 0), (0, .ref (hB G + 3))]) C dX4_step_195 rfl rfl rfl ?_
      refine sm_goto C dX4_step_196 (tgt := 91) rfl ?_
      refine sm_sub [1, 0] rfl ?_
      exact hK45 w_25 0
  · exact sX4_step_172 C E w_25 hK45
set_option maxRecDepth 100000 in
set_option maxHeartbeats 4000000 in
theorem sX4_step_91 {G : Gx} {a : HW} (C : Cx G cX4_step RX4 2 1 21) (E : Rx G ρW a (none)) : ∀ (n : Nat) (w : HW) (x1 : Int32), Sm G a 91 [(0, .ref (hB G + 3)), (1, .int x1)] [] w (fX4_step_91 n w x1) := by
  intro n
  induction n with
  | zero => intro _ _; exact sm_none
  | succ n ih =>
    intro w x1
    rw [fX4_step_91]
    refine sm_iload_n C 1 rfl dX4_step_91 rfl ?_
    refine sm_if_eq C dX4_step_92 (tgt := 199) rfl (fun h_18 => ?_) (fun h_18 => ?_)
    · refine sm_aload_n C 0 rfl dX4_step_95 rfl ?_
      refine sm_getI C fo_4_6 rfl wd17 kd_3 dX4_step_96 ?_
      refine sm_aload_n C 0 rfl dX4_step_99 rfl ?_
      refine sm_getT C fo_4_2 rfl wd14 kd_3 dX4_step_100 rfl (fun h_19 => ?_)
      refine sm_getI C fo_8_1 rfl wd15 kd_1 dX4_step_103 ?_
      refine sm_icmp_ge C dX4_step_106 (tgt := 199) rfl (fun h_20 => ?_) (fun h_20 => ?_)
      · refine sm_aload_n C 0 rfl dX4_step_109 rfl ?_
        refine sm_getI C fo_4_4 rfl wd21 kd_3 dX4_step_110 ?_
        refine sm_iconst C ic_2 dX4_step_113 ?_
        refine sm_icmp_ne C dX4_step_114 (tgt := 146) rfl (fun h_21 => ?_) (fun h_21 => ?_)
        · refine sm_aload_n C 0 rfl dX4_step_117 rfl ?_
          refine sm_sipush C sp_1000 dX4_step_118 ?_
          refine sm_aload_n C 0 rfl dX4_step_121 rfl ?_
          refine sm_getI C fo_4_7 rfl wd22 kd_3 dX4_step_122 ?_
          refine sm_bipush C bp_10 dX4_step_125 ?_
          refine sm_imul C dX4_step_127 ?_
          refine sm_aload_n C 0 rfl dX4_step_128 rfl ?_
          refine sm_aload_n C 0 rfl dX4_step_129 rfl ?_
          refine sm_getI C fo_4_6 rfl wd17 kd_3 dX4_step_130 ?_
          refine sm_cVI (As := [.int (gI w 3 6)]) C cfX4_byteAt wd19 kd_3 rfl rfl rfl rfl rfl dX4_step_133 (fun r h => mX4_byteAt  h) (fun r_22 => ?_)
          refine sm_iadd C dX4_step_136 ?_
          refine sm_bipush C bp_48 dX4_step_137 ?_
          refine sm_isub C dX4_step_139 ?_
          refine sm_min C wd23 min_st math_in min_co rfl dX4_step_140 ?_
          refine sm_putI C fo_4_7 rfl wd22 kd_3 rfl dX4_step_143 (fun w_24 => ?_)
          refine sm_sub [0] rfl ?_
          exact sX4_step_146 C E w_24 (fun w x1 => ih w x1)
        · refine sm_sub [0] rfl ?_
          exact sX4_step_146 C E w (fun w x1 => ih w x1)
      · exact sm_vret C E rfl dX4_step_199
    · exact sm_vret C E rfl dX4_step_199
set_option maxRecDepth 100000 in
set_option maxHeartbeats 4000000 in
theorem sX4_step_50 {G : Gx} {a : HW} (C : Cx G cX4_step RX4 2 1 21) (E : Rx G ρW a (none)) (w : HW) : Sm G a 50 [(0, .ref (hB G + 3))] [] w (fX4_step_50 w) := by
  unfold fX4_step_50
  refine sm_aload_n C 0 rfl dX4_step_50 rfl ?_
  refine sm_aload_n C 0 rfl dX4_step_51 rfl ?_
  refine sm_getI C fo_4_5 rfl wd18 kd_3 dX4_step_52 ?_
  refine sm_putI C fo_4_6 rfl wd17 kd_3 rfl dX4_step_55 (fun w_10 => ?_)
  refine sm_aload_n C 0 rfl dX4_step_58 rfl ?_
  refine sm_aload_n C 0 rfl dX4_step_59 rfl ?_
  refine sm_aload_n C 0 rfl dX4_step_60 rfl ?_
  refine sm_getI C fo_4_5 rfl wd18 kd_3 dX4_step_61 ?_
  refine sm_cVI (As := [.int (gI w_10 3 5)]) C cfX4_byteAt wd19 kd_3 rfl rfl rfl rfl rfl dX4_step_64 (fun r h => mX4_byteAt  h) (fun r_11 => ?_)
  refine sm_cSI (As := [.int r_11]) C cfX4_kindOf wd20 rfl rfl rfl rfl dX4_step_67 (fun r h => mX4_kindOf  h) (fun r_13 => ?_)
  refine sm_putI C fo_4_4 rfl wd21 kd_3 rfl dX4_step_70 (fun w_15 => ?_)
  refine sm_aload_n C 0 rfl dX4_step_73 rfl ?_
  refine sm_iconst C ic_0 dX4_step_74 ?_
  refine sm_putI C fo_4_7 rfl wd22 kd_3 rfl dX4_step_75 (fun w_16 => ?_)
  refine sm_aload_n C 0 rfl dX4_step_78 rfl ?_
  refine sm_getI C fo_4_4 rfl wd21 kd_3 dX4_step_79 ?_
  refine sm_if_eq C dX4_step_82 (tgt := 89) rfl (fun h_17 => ?_) (fun h_17 => ?_)
  · refine sm_iconst C ic_1 dX4_step_85 ?_
    refine sm_goto C dX4_step_86 (tgt := 90) rfl ?_
    refine sm_istore_n (lv1 := [(1, .int 1), (0, .ref (hB G + 3))]) C dX4_step_90 rfl rfl rfl ?_
    refine sm_sub [1, 0] rfl ?_
    exact sX4_step_91 C E FU w_16 1
  · refine sm_iconst C ic_0 dX4_step_89 ?_
    refine sm_istore_n (lv1 := [(1, .int 0), (0, .ref (hB G + 3))]) C dX4_step_90 rfl rfl rfl ?_
    refine sm_sub [1, 0] rfl ?_
    exact sX4_step_91 C E FU w_16 0
set_option maxRecDepth 100000 in
set_option maxHeartbeats 4000000 in
theorem sX4_step_8 {G : Gx} {a : HW} (C : Cx G cX4_step RX4 2 1 21) (E : Rx G ρW a (none)) : ∀ (n : Nat) (w : HW), Sm G a 8 [(0, .ref (hB G + 3))] [] w (fX4_step_8 n w) := by
  intro n
  induction n with
  | zero => intro _; exact sm_none
  | succ n ih =>
    intro w
    rw [fX4_step_8]
    refine sm_aload_n C 0 rfl dX4_step_8 rfl ?_
    refine sm_getI C fo_4_5 rfl wd18 kd_3 dX4_step_9 ?_
    refine sm_aload_n C 0 rfl dX4_step_12 rfl ?_
    refine sm_getT C fo_4_2 rfl wd14 kd_3 dX4_step_13 rfl (fun h_2 => ?_)
    refine sm_getI C fo_8_1 rfl wd15 kd_1 dX4_step_16 ?_
    refine sm_icmp_ge C dX4_step_19 (tgt := 50) rfl (fun h_3 => ?_) (fun h_3 => ?_)
    · refine sm_aload_n C 0 rfl dX4_step_22 rfl ?_
      refine sm_aload_n C 0 rfl dX4_step_23 rfl ?_
      refine sm_getI C fo_4_5 rfl wd18 kd_3 dX4_step_24 ?_
      refine sm_cVI (As := [.int (gI w 3 5)]) C cfX4_byteAt wd19 kd_3 rfl rfl rfl rfl rfl dX4_step_27 (fun r h => mX4_byteAt  h) (fun r_4 => ?_)
      refine sm_cSI (As := [.int r_4]) C cfX4_kindOf wd20 rfl rfl rfl rfl dX4_step_30 (fun r h => mX4_kindOf  h) (fun r_6 => ?_)
      refine sm_iconst C ic_5 dX4_step_33 ?_
      refine sm_icmp_ne C dX4_step_34 (tgt := 50) rfl (fun h_8 => ?_) (fun h_8 => ?_)
      · refine sm_aload_n C 0 rfl dX4_step_37 rfl ?_
        refine sm_dup C rfl dX4_step_38 ?_
        refine sm_getI C fo_4_5 rfl wd18 kd_3 dX4_step_39 ?_
        refine sm_iconst C ic_1 dX4_step_42 ?_
        refine sm_iadd C dX4_step_43 ?_
        refine sm_putI C fo_4_5 rfl wd18 kd_3 rfl dX4_step_44 (fun w_9 => ?_)
        refine sm_goto C dX4_step_47 (tgt := 8) rfl ?_
        exact ih w_9
      · exact sX4_step_50 C E w
    · exact sX4_step_50 C E w
set_option maxRecDepth 100000 in
set_option maxHeartbeats 4000000 in
theorem mX4_step {b : Bx} {w : HW} {a : HW} (h : fX4_step w = some a) : Mt b yX4_step cX4_step 2 (none) 1 21 [.ref (bB b + 3)] w none a := by
  refine Mt.of ρW h (by decide) (Nat.le_of_ble_eq_true rfl) (fun G hG C E => ?_)
  subst hG
  have C : Cx G cX4_step RX4 2 1 21 := C
  change Sm G a 0 [(0, .ref (hB G + 3))] [] w _
  unfold fX4_step
  refine sm_aload_n C 0 rfl dX4_step_0 rfl ?_
  refine sm_aload_n C 0 rfl dX4_step_1 rfl ?_
  refine sm_getI C fo_4_6 rfl wd17 kd_3 dX4_step_2 ?_
  refine sm_putI C fo_4_5 rfl wd18 kd_3 rfl dX4_step_5 (fun w_1 => ?_)
  exact sX4_step_8 C E FU w_1
/-! X4_isWord -/
set_option maxRecDepth 100000 in
set_option maxHeartbeats 4000000 in
theorem sX4_isWord_28 {G : Gx} {a : Int32} {w : HW} (C : Cx G cX4_isWord RX4 3 4 93) (E : Rx G (ρI w) a (some .boolean)) {q1 : Nat} : ∀ (n : Nat) (x2 : Int32), Sm G a 28 [(0, .ref (hB G + 3)), (1, .ref (hA G q1).1), (2, .int x2)] [] w (fX4_isWord_28 w q1 n x2) := by
  intro n
  induction n with
  | zero => intro _; exact sm_none
  | succ n ih =>
    intro x2
    rw [fX4_isWord_28]
    refine sm_iload_n C 2 rfl dX4_isWord_28 rfl ?_
    refine sm_aload_n C 1 rfl dX4_isWord_29 rfl ?_
    refine sm_slen C wd24 rfl dX4_isWord_30 (fun h_4 => ?_)
    refine sm_icmp_ge C dX4_isWord_33 (tgt := 62) rfl (fun h_5 => ?_) (fun h_5 => ?_)
    · refine sm_aload_n C 0 rfl dX4_isWord_36 rfl ?_
      refine sm_aload_n C 0 rfl dX4_isWord_37 rfl ?_
      refine sm_getI C fo_4_5 rfl wd18 kd_3 dX4_isWord_38 ?_
      refine sm_iload_n C 2 rfl dX4_isWord_41 rfl ?_
      refine sm_iadd C dX4_isWord_42 ?_
      refine sm_cVI (As := [.int ((gI w 3 5) + x2)]) C cfX4_byteAt wd19 kd_3 rfl rfl rfl rfl rfl dX4_isWord_43 (fun r h => mX4_byteAt  h) (fun r_6 => ?_)
      refine sm_aload_n C 1 rfl dX4_isWord_46 rfl ?_
      refine sm_iload_n C 2 rfl dX4_isWord_47 rfl ?_
      refine sm_schr C wd25 rfl dX4_isWord_48 (fun h_8 => ?_)
      refine sm_icmp_eq C dX4_isWord_51 (tgt := 56) rfl (fun h_9 => ?_) (fun h_9 => ?_)
      · refine sm_iconst C ic_0 dX4_isWord_54 ?_
        exact sm_zret C E rfl rfl dX4_isWord_55
      · refine sm_iinc (lv1 := [(2, .int (x2 + 1)), (0, .ref (hB G + 3)), (1, .ref (hA G q1).1)]) C 2 rfl (iv_1 _) dX4_isWord_56 rfl rfl ?_
        refine sm_goto C dX4_isWord_59 (tgt := 28) rfl ?_
        refine sm_sub [1, 2, 0] rfl ?_
        exact ih (x2 + 1)
    · refine sm_iconst C ic_1 dX4_isWord_62 ?_
      exact sm_zret C E rfl rfl dX4_isWord_63
set_option maxRecDepth 100000 in
set_option maxHeartbeats 4000000 in
theorem mX4_isWord {b : Bx} {w : HW} {q1 : Nat} {a : Int32} (h : fX4_isWord w q1 = some a) : Mt b yX4_isWord cX4_isWord 3 (some .boolean) 4 93 [.ref (bB b + 3), .ref (bA b q1).1] w (some (.int a)) w := by
  refine Mt.of (ρI w) h (by decide) (Nat.le_of_ble_eq_true rfl) (fun G hG C E => ?_)
  subst hG
  have C : Cx G cX4_isWord RX4 3 4 93 := C
  change Sm G a 0 [(0, .ref (hB G + 3)), (1, .ref (hA G q1).1)] [] w _
  unfold fX4_isWord
  refine sm_aload_n C 0 rfl dX4_isWord_0 rfl ?_
  refine sm_getI C fo_4_4 rfl wd21 kd_3 dX4_isWord_1 ?_
  refine sm_iconst C ic_1 dX4_isWord_4 ?_
  refine sm_icmp_ne C dX4_isWord_5 (tgt := 24) rfl (fun h_1 => ?_) (fun h_1 => ?_)
  · refine sm_aload_n C 0 rfl dX4_isWord_8 rfl ?_
    refine sm_getI C fo_4_6 rfl wd17 kd_3 dX4_isWord_9 ?_
    refine sm_aload_n C 0 rfl dX4_isWord_12 rfl ?_
    refine sm_getI C fo_4_5 rfl wd18 kd_3 dX4_isWord_13 ?_
    refine sm_isub C dX4_isWord_16 ?_
    refine sm_aload_n C 1 rfl dX4_isWord_17 rfl ?_
    refine sm_slen C wd24 rfl dX4_isWord_18 (fun h_2 => ?_)
    refine sm_icmp_eq C dX4_isWord_21 (tgt := 26) rfl (fun h_3 => ?_) (fun h_3 => ?_)
    · refine sm_iconst C ic_0 dX4_isWord_24 ?_
      exact sm_zret C E rfl rfl dX4_isWord_25
    · refine sm_iconst C ic_0 dX4_isWord_26 ?_
      refine sm_istore_n (lv1 := [(2, .int 0), (0, .ref (hB G + 3)), (1, .ref (hA G q1).1)]) C dX4_isWord_27 rfl rfl rfl ?_
      refine sm_sub [1, 2, 0] rfl ?_
      exact sX4_isWord_28 C E FU 0
  · refine sm_iconst C ic_0 dX4_isWord_24 ?_
    exact sm_zret C E rfl rfl dX4_isWord_25
/-! X4_fail -/
set_option maxRecDepth 100000 in
set_option maxHeartbeats 4000000 in
theorem mX4_fail {b : Bx} {w : HW} {x1 : Int32} {a : HW} (h : fX4_fail w x1 = some a) : Mt b yX4_fail cX4_fail 2 (none) 0 0 [.ref (bB b + 3), .int x1] w none a := by
  refine Mt.of ρW h (by decide) (Nat.le_of_ble_eq_true rfl) (fun G hG C E => ?_)
  subst hG
  have C : Cx G cX4_fail RX4 2 0 0 := C
  change Sm G a 0 [(0, .ref (hB G + 3)), (1, .int x1)] [] w _
  unfold fX4_fail
  refine sm_aload_n C 0 rfl dX4_fail_0 rfl ?_
  refine sm_getI C fo_4_0 rfl wd26 kd_3 dX4_fail_1 ?_
  refine sm_if_ne C dX4_fail_4 (tgt := 20) rfl (fun h_1 => ?_) (fun h_1 => ?_)
  · refine sm_aload_n C 0 rfl dX4_fail_7 rfl ?_
    refine sm_iload_n C 1 rfl dX4_fail_8 rfl ?_
    refine sm_putI C fo_4_0 rfl wd26 kd_3 rfl dX4_fail_9 (fun w_2 => ?_)
    refine sm_aload_n C 0 rfl dX4_fail_12 rfl ?_
    refine sm_aload_n C 0 rfl dX4_fail_13 rfl ?_
    refine sm_getI C fo_4_5 rfl wd18 kd_3 dX4_fail_14 ?_
    refine sm_putI C fo_4_1 rfl wd27 kd_3 rfl dX4_fail_17 (fun w_3 => ?_)
    exact sm_vret C E rfl dX4_fail_20
  · exact sm_vret C E rfl dX4_fail_20
/-! X4_takeWord -/
set_option maxRecDepth 100000 in
set_option maxHeartbeats 4000000 in
theorem mX4_takeWord {b : Bx} {w : HW} {q1 : Nat} {a : HW} (h : fX4_takeWord w q1 = some a) : Mt b yX4_takeWord cX4_takeWord 2 (none) 5 115 [.ref (bB b + 3), .ref (bA b q1).1] w none a := by
  refine Mt.of ρW h (by decide) (Nat.le_of_ble_eq_true rfl) (fun G hG C E => ?_)
  subst hG
  have C : Cx G cX4_takeWord RX4 2 5 115 := C
  change Sm G a 0 [(0, .ref (hB G + 3)), (1, .ref (hA G q1).1)] [] w _
  unfold fX4_takeWord
  refine sm_aload_n C 0 rfl dX4_takeWord_0 rfl ?_
  refine sm_getI C fo_4_0 rfl wd26 kd_3 dX4_takeWord_1 ?_
  refine sm_if_eq C dX4_takeWord_4 (tgt := 8) rfl (fun h_1 => ?_) (fun h_1 => ?_)
  · exact sm_vret C E rfl dX4_takeWord_7
  · refine sm_aload_n C 0 rfl dX4_takeWord_8 rfl ?_
    refine sm_aload_n C 1 rfl dX4_takeWord_9 rfl ?_
    refine sm_cVI (As := [.ref (hA G q1).1]) C cfX4_isWord wd28 kd_3 rfl rfl rfl rfl rfl dX4_takeWord_10 (fun r h => mX4_isWord  h) (fun r_2 => ?_)
    refine sm_if_ne C dX4_takeWord_13 (tgt := 22) rfl (fun h_4 => ?_) (fun h_4 => ?_)
    · refine sm_aload_n C 0 rfl dX4_takeWord_16 rfl ?_
      refine sm_iconst C ic_1 dX4_takeWord_17 ?_
      refine sm_cVW (As := [.int 1]) C cfX4_fail wd29 kd_3 rfl rfl rfl rfl rfl dX4_takeWord_18 (fun r h => mX4_fail  h) (fun w_6 => ?_)
      exact sm_vret C E rfl dX4_takeWord_21
    · refine sm_aload_n C 0 rfl dX4_takeWord_22 rfl ?_
      refine sm_cVW (As := []) C cfX4_step wd30 kd_3 rfl rfl rfl rfl rfl dX4_takeWord_23 (fun r h => mX4_step  h) (fun w_8 => ?_)
      exact sm_vret C E rfl dX4_takeWord_26
/-! X4_takeNumber -/
set_option maxRecDepth 100000 in
set_option maxHeartbeats 4000000 in
theorem mX4_takeNumber {b : Bx} {w : HW} {x1 : Int32} {x2 : Int32} {a : Int32 × HW} (h : fX4_takeNumber w x1 x2 = some a) : Mt b yX4_takeNumber cX4_takeNumber 4 (some .int) 2 42 [.ref (bB b + 3), .int x1, .int x2] w (some (.int a.1)) a.2 := by
  refine Mt.of ρIW h (by decide) (Nat.le_of_ble_eq_true rfl) (fun G hG C E => ?_)
  subst hG
  have C : Cx G cX4_takeNumber RX4 4 2 42 := C
  change Sm G a 0 [(0, .ref (hB G + 3)), (1, .int x1), (2, .int x2)] [] w _
  unfold fX4_takeNumber
  refine sm_aload_n C 0 rfl dX4_takeNumber_0 rfl ?_
  refine sm_getI C fo_4_0 rfl wd26 kd_3 dX4_takeNumber_1 ?_
  refine sm_if_eq C dX4_takeNumber_4 (tgt := 9) rfl (fun h_1 => ?_) (fun h_1 => ?_)
  · refine sm_iconst C ic_0 dX4_takeNumber_7 ?_
    exact sm_iret C E rfl dX4_takeNumber_8
  · refine sm_aload_n C 0 rfl dX4_takeNumber_9 rfl ?_
    refine sm_getI C fo_4_4 rfl wd21 kd_3 dX4_takeNumber_10 ?_
    refine sm_iconst C ic_2 dX4_takeNumber_13 ?_
    refine sm_icmp_eq C dX4_takeNumber_14 (tgt := 24) rfl (fun h_2 => ?_) (fun h_2 => ?_)
    · refine sm_aload_n C 0 rfl dX4_takeNumber_17 rfl ?_
      refine sm_iconst C ic_1 dX4_takeNumber_18 ?_
      refine sm_cVW (As := [.int 1]) C cfX4_fail wd29 kd_3 rfl rfl rfl rfl rfl dX4_takeNumber_19 (fun r h => mX4_fail  h) (fun w_4 => ?_)
      refine sm_iconst C ic_0 dX4_takeNumber_22 ?_
      exact sm_iret C E rfl dX4_takeNumber_23
    · refine sm_aload_n C 0 rfl dX4_takeNumber_24 rfl ?_
      refine sm_getI C fo_4_7 rfl wd22 kd_3 dX4_takeNumber_25 ?_
      refine sm_iload_n C 1 rfl dX4_takeNumber_28 rfl ?_
      refine sm_icmp_lt C dX4_takeNumber_29 (tgt := 40) rfl (fun h_5 => ?_) (fun h_5 => ?_)
      · refine sm_aload_n C 0 rfl dX4_takeNumber_32 rfl ?_
        refine sm_getI C fo_4_7 rfl wd22 kd_3 dX4_takeNumber_33 ?_
        refine sm_iload_n C 2 rfl dX4_takeNumber_36 rfl ?_
        refine sm_icmp_le C dX4_takeNumber_37 (tgt := 47) rfl (fun h_6 => ?_) (fun h_6 => ?_)
        · refine sm_aload_n C 0 rfl dX4_takeNumber_40 rfl ?_
          refine sm_iconst C ic_2 dX4_takeNumber_41 ?_
          refine sm_cVW (As := [.int 2]) C cfX4_fail wd29 kd_3 rfl rfl rfl rfl rfl dX4_takeNumber_42 (fun r h => mX4_fail  h) (fun w_8 => ?_)
          refine sm_iconst C ic_0 dX4_takeNumber_45 ?_
          exact sm_iret C E rfl dX4_takeNumber_46
        · refine sm_aload_n C 0 rfl dX4_takeNumber_47 rfl ?_
          refine sm_getI C fo_4_7 rfl wd22 kd_3 dX4_takeNumber_48 ?_
          refine sm_let (fun x3_9 => ?_)
          refine sm_istore_n (lv1 := [(3, .int x3_9), (0, .ref (hB G + 3)), (1, .int x1), (2, .int x2)]) C dX4_takeNumber_51 rfl rfl rfl ?_
          refine sm_aload_n C 1 rfl dX4_takeNumber_52 rfl ?_
          refine sm_cVW (As := []) C cfX4_step wd30 kd_3 rfl rfl rfl rfl rfl dX4_takeNumber_53 (fun r h => mX4_step  h) (fun w_11 => ?_)
          refine sm_iload_n C 0 rfl dX4_takeNumber_56 rfl ?_
          exact sm_iret C E rfl dX4_takeNumber_57
      · refine sm_aload_n C 0 rfl dX4_takeNumber_40 rfl ?_
        refine sm_iconst C ic_2 dX4_takeNumber_41 ?_
        refine sm_cVW (As := [.int 2]) C cfX4_fail wd29 kd_3 rfl rfl rfl rfl rfl dX4_takeNumber_42 (fun r h => mX4_fail  h) (fun w_13 => ?_)
        refine sm_iconst C ic_0 dX4_takeNumber_45 ?_
        exact sm_iret C E rfl dX4_takeNumber_46
/-! X4_readCamp -/
set_option maxRecDepth 100000 in
set_option maxHeartbeats 4000000 in
theorem mX4_readCamp {b : Bx} {w : HW} {a : HW} (h : fX4_readCamp w = some a) : Mt b yX4_readCamp cX4_readCamp 5 (none) 6 136 [.ref (bB b + 3)] w none a := by
  refine Mt.of ρW h (by decide) (Nat.le_of_ble_eq_true rfl) (fun G hG C E => ?_)
  subst hG
  have C : Cx G cX4_readCamp RX4 5 6 136 := C
  change Sm G a 0 [(0, .ref (hB G + 3))] [] w _
  unfold fX4_readCamp
  refine sm_aload_n C 0 rfl dX4_readCamp_0 rfl ?_
  refine sm_ldcS C 0 rfl dX4_readCamp_1 ?_
  refine sm_cVW (As := [.ref (hA G 0).1]) C cfX4_takeWord wd31 kd_3 rfl rfl rfl rfl rfl dX4_readCamp_3 (fun r h => mX4_takeWord  h) (fun w_2 => ?_)
  refine sm_aload_n C 0 rfl dX4_readCamp_6 rfl ?_
  refine sm_ldcS C 1 rfl dX4_readCamp_7 ?_
  refine sm_cVW (As := [.ref (hA G 1).1]) C cfX4_takeWord wd31 kd_3 rfl rfl rfl rfl rfl dX4_readCamp_9 (fun r h => mX4_takeWord  h) (fun w_4 => ?_)
  refine sm_aload_n C 0 rfl dX4_readCamp_12 rfl ?_
  refine sm_iconst C ic_1 dX4_readCamp_13 ?_
  refine sm_bipush C bp_14 dX4_readCamp_14 ?_
  refine sm_cVIW (As := [.int 1, .int 14]) C cfX4_takeNumber wd32 kd_3 rfl rfl rfl rfl rfl dX4_readCamp_16 (fun r h => mX4_takeNumber  h) (fun r_5 w_6 => ?_)
  refine sm_istore_n (lv1 := [(1, .int r_5), (0, .ref (hB G + 3))]) C dX4_readCamp_19 rfl rfl rfl ?_
  refine sm_aload_n C 1 rfl dX4_readCamp_20 rfl ?_
  refine sm_ldcS C 2 rfl dX4_readCamp_21 ?_
  refine sm_cVW (As := [.ref (hA G 2).1]) C cfX4_takeWord wd31 kd_3 rfl rfl rfl rfl rfl dX4_readCamp_23 (fun r h => mX4_takeWord  h) (fun w_8 => ?_)
  refine sm_aload_n C 1 rfl dX4_readCamp_26 rfl ?_
  refine sm_iconst C ic_0 dX4_readCamp_27 ?_
  refine sm_bipush C bp_9 dX4_readCamp_28 ?_
  refine sm_cVIW (As := [.int 0, .int 9]) C cfX4_takeNumber wd32 kd_3 rfl rfl rfl rfl rfl dX4_readCamp_30 (fun r h => mX4_takeNumber  h) (fun r_9 w_10 => ?_)
  refine sm_istore_n (lv1 := [(2, .int r_9), (1, .int r_5), (0, .ref (hB G + 3))]) C dX4_readCamp_33 rfl rfl rfl ?_
  refine sm_aload_n C 2 rfl dX4_readCamp_34 rfl ?_
  refine sm_ldcS C 3 rfl dX4_readCamp_35 ?_
  refine sm_cVW (As := [.ref (hA G 3).1]) C cfX4_takeWord wd31 kd_3 rfl rfl rfl rfl rfl dX4_readCamp_37 (fun r h => mX4_takeWord  h) (fun w_12 => ?_)
  refine sm_aload_n C 2 rfl dX4_readCamp_40 rfl ?_
  refine sm_iconst C ic_1 dX4_readCamp_41 ?_
  refine sm_bipush C bp_9 dX4_readCamp_42 ?_
  refine sm_cVIW (As := [.int 1, .int 9]) C cfX4_takeNumber wd32 kd_3 rfl rfl rfl rfl rfl dX4_readCamp_44 (fun r h => mX4_takeNumber  h) (fun r_13 w_14 => ?_)
  refine sm_istore_n (lv1 := [(3, .int r_13), (2, .int r_9), (1, .int r_5), (0, .ref (hB G + 3))]) C dX4_readCamp_47 rfl rfl rfl ?_
  refine sm_aload_n C 3 rfl dX4_readCamp_48 rfl ?_
  refine sm_ldcS C 4 rfl dX4_readCamp_49 ?_
  refine sm_cVW (As := [.ref (hA G 4).1]) C cfX4_takeWord wd31 kd_3 rfl rfl rfl rfl rfl dX4_readCamp_51 (fun r h => mX4_takeWord  h) (fun w_16 => ?_)
  refine sm_aload_n C 3 rfl dX4_readCamp_54 rfl ?_
  refine sm_iconst C ic_0 dX4_readCamp_55 ?_
  refine sm_bipush C bp_10 dX4_readCamp_56 ?_
  refine sm_cVIW (As := [.int 0, .int 10]) C cfX4_takeNumber wd32 kd_3 rfl rfl rfl rfl rfl dX4_readCamp_58 (fun r h => mX4_takeNumber  h) (fun r_17 w_18 => ?_)
  refine sm_istore (lv1 := [(4, .int r_17), (3, .int r_13), (2, .int r_9), (1, .int r_5), (0, .ref (hB G + 3))]) C dX4_readCamp_61 rfl rfl ?_
  refine sm_aload_n C 4 rfl dX4_readCamp_63 rfl ?_
  refine sm_getI C fo_4_0 rfl wd26 kd_3 dX4_readCamp_64 ?_
  refine sm_if_ne C dX4_readCamp_67 (tgt := 103) rfl (fun h_19 => ?_) (fun h_19 => ?_)
  · refine sm_aload_n C 4 rfl dX4_readCamp_70 rfl ?_
    refine sm_getC C fo_4_3 rfl wd33 kd_3 dX4_readCamp_71 rfl (fun j_20 hj_20 => ?_)
    refine sm_iload_n C 3 rfl dX4_readCamp_74 rfl ?_
    refine sm_putI C fo_0_1 rfl wd34 (kdC hj_20) rfl dX4_readCamp_75 (fun w_21 => ?_)
    refine sm_aload_n C 4 rfl dX4_readCamp_78 rfl ?_
    refine sm_getC C fo_4_3 rfl wd33 kd_3 dX4_readCamp_79 rfl (fun j_22 hj_22 => ?_)
    refine sm_iload_n C 2 rfl dX4_readCamp_82 rfl ?_
    refine sm_putI C fo_0_2 rfl wd35 (kdC hj_22) rfl dX4_readCamp_83 (fun w_23 => ?_)
    refine sm_aload_n C 4 rfl dX4_readCamp_86 rfl ?_
    refine sm_getC C fo_4_3 rfl wd33 kd_3 dX4_readCamp_87 rfl (fun j_24 hj_24 => ?_)
    refine sm_iload_n C 1 rfl dX4_readCamp_90 rfl ?_
    refine sm_putI C fo_0_3 rfl wd36 (kdC hj_24) rfl dX4_readCamp_91 (fun w_25 => ?_)
    refine sm_aload_n C 4 rfl dX4_readCamp_94 rfl ?_
    refine sm_getC C fo_4_3 rfl wd33 kd_3 dX4_readCamp_95 rfl (fun j_26 hj_26 => ?_)
    refine sm_iload C 0 rfl dX4_readCamp_98 ?_
    refine sm_putI C fo_0_4 rfl wd37 (kdC hj_26) rfl dX4_readCamp_100 (fun w_27 => ?_)
    exact sm_vret C E rfl dX4_readCamp_103
  · exact sm_vret C E rfl dX4_readCamp_103
/-! X4_readMark -/
set_option maxRecDepth 100000 in
set_option maxHeartbeats 4000000 in
theorem mX4_readMark {b : Bx} {w : HW} {a : HW} (h : fX4_readMark w = some a) : Mt b yX4_readMark cX4_readMark 2 (none) 6 136 [.ref (bB b + 3)] w none a := by
  refine Mt.of ρW h (by decide) (Nat.le_of_ble_eq_true rfl) (fun G hG C E => ?_)
  subst hG
  have C : Cx G cX4_readMark RX4 2 6 136 := C
  change Sm G a 0 [(0, .ref (hB G + 3))] [] w _
  unfold fX4_readMark
  refine sm_aload_n C 0 rfl dX4_readMark_0 rfl ?_
  refine sm_ldcS C 5 rfl dX4_readMark_1 ?_
  refine sm_cVW (As := [.ref (hA G 5).1]) C cfX4_takeWord wd31 kd_3 rfl rfl rfl rfl rfl dX4_readMark_3 (fun r h => mX4_takeWord  h) (fun w_2 => ?_)
  refine sm_aload_n C 0 rfl dX4_readMark_6 rfl ?_
  refine sm_iconst C ic_0 dX4_readMark_7 ?_
  refine sm_aload_n C 0 rfl dX4_readMark_8 rfl ?_
  refine sm_getC C fo_4_3 rfl wd33 kd_3 dX4_readMark_9 rfl (fun j_3 hj_3 => ?_)
  refine sm_getI C fo_0_1 rfl wd34 (kdC hj_3) dX4_readMark_12 ?_
  refine sm_iconst C ic_1 dX4_readMark_15 ?_
  refine sm_isub C dX4_readMark_16 ?_
  refine sm_cVIW (As := [.int 0, .int ((gI w_2 j_3 1) - 1)]) C cfX4_takeNumber wd32 kd_3 rfl rfl rfl rfl rfl dX4_readMark_17 (fun r h => mX4_takeNumber  h) (fun r_4 w_5 => ?_)
  refine sm_istore_n (lv1 := [(1, .int r_4), (0, .ref (hB G + 3))]) C dX4_readMark_20 rfl rfl rfl ?_
  refine sm_aload_n C 1 rfl dX4_readMark_21 rfl ?_
  refine sm_getI C fo_4_0 rfl wd26 kd_3 dX4_readMark_22 ?_
  refine sm_if_ne C dX4_readMark_25 (tgt := 43) rfl (fun h_6 => ?_) (fun h_6 => ?_)
  · refine sm_aload_n C 1 rfl dX4_readMark_28 rfl ?_
    refine sm_getC C fo_4_3 rfl wd33 kd_3 dX4_readMark_29 rfl (fun j_7 hj_7 => ?_)
    refine sm_dup C rfl dX4_readMark_32 ?_
    refine sm_getI C fo_0_5 rfl wd38 (kdC hj_7) dX4_readMark_33 ?_
    refine sm_iconst C ic_1 dX4_readMark_36 ?_
    refine sm_iload_n C 0 rfl dX4_readMark_37 rfl ?_
    refine sm_ishl C dX4_readMark_38 ?_
    refine sm_ior C dX4_readMark_39 ?_
    refine sm_putI C fo_0_5 rfl wd38 (kdC hj_7) rfl dX4_readMark_40 (fun w_8 => ?_)
    exact sm_vret C E rfl dX4_readMark_43
  · exact sm_vret C E rfl dX4_readMark_43
/-! X4_readAugur -/
set_option maxRecDepth 100000 in
set_option maxHeartbeats 4000000 in
theorem mX4_readAugur {b : Bx} {w : HW} {a : HW} (h : fX4_readAugur w = some a) : Mt b yX4_readAugur cX4_readAugur 4 (none) 6 136 [.ref (bB b + 3)] w none a := by
  refine Mt.of ρW h (by decide) (Nat.le_of_ble_eq_true rfl) (fun G hG C E => ?_)
  subst hG
  have C : Cx G cX4_readAugur RX4 4 6 136 := C
  change Sm G a 0 [(0, .ref (hB G + 3))] [] w _
  unfold fX4_readAugur
  refine sm_aload_n C 0 rfl dX4_readAugur_0 rfl ?_
  refine sm_getC C fo_4_3 rfl wd33 kd_3 dX4_readAugur_1 rfl (fun j_1 hj_1 => ?_)
  refine sm_getI C fo_0_6 rfl wd39 (kdC hj_1) dX4_readAugur_4 ?_
  refine sm_bipush C bp_8 dX4_readAugur_7 ?_
  refine sm_icmp_lt C dX4_readAugur_9 (tgt := 18) rfl (fun h_2 => ?_) (fun h_2 => ?_)
  · refine sm_aload_n C 0 rfl dX4_readAugur_12 rfl ?_
    refine sm_iconst C ic_3 dX4_readAugur_13 ?_
    refine sm_cVW (As := [.int 3]) C cfX4_fail wd29 kd_3 rfl rfl rfl rfl rfl dX4_readAugur_14 (fun r h => mX4_fail  h) (fun w_4 => ?_)
    exact sm_vret C E rfl dX4_readAugur_17
  · refine sm_aload_n C 0 rfl dX4_readAugur_18 rfl ?_
    refine sm_ldcS C 6 rfl dX4_readAugur_19 ?_
    refine sm_cVW (As := [.ref (hA G 6).1]) C cfX4_takeWord wd31 kd_3 rfl rfl rfl rfl rfl dX4_readAugur_21 (fun r h => mX4_takeWord  h) (fun w_6 => ?_)
    refine sm_aload_n C 0 rfl dX4_readAugur_24 rfl ?_
    refine sm_ldcS C 7 rfl dX4_readAugur_25 ?_
    refine sm_cVW (As := [.ref (hA G 7).1]) C cfX4_takeWord wd31 kd_3 rfl rfl rfl rfl rfl dX4_readAugur_27 (fun r h => mX4_takeWord  h) (fun w_8 => ?_)
    refine sm_aload_n C 0 rfl dX4_readAugur_30 rfl ?_
    refine sm_iconst C ic_0 dX4_readAugur_31 ?_
    refine sm_iconst C ic_1 dX4_readAugur_32 ?_
    refine sm_cVIW (As := [.int 0, .int 1]) C cfX4_takeNumber wd32 kd_3 rfl rfl rfl rfl rfl dX4_readAugur_33 (fun r h => mX4_takeNumber  h) (fun r_9 w_10 => ?_)
    refine sm_istore_n (lv1 := [(1, .int r_9), (0, .ref (hB G + 3))]) C dX4_readAugur_36 rfl rfl rfl ?_
    refine sm_aload_n C 1 rfl dX4_readAugur_37 rfl ?_
    refine sm_ldcS C 8 rfl dX4_readAugur_38 ?_
    refine sm_cVW (As := [.ref (hA G 8).1]) C cfX4_takeWord wd31 kd_3 rfl rfl rfl rfl rfl dX4_readAugur_40 (fun r h => mX4_takeWord  h) (fun w_12 => ?_)
    refine sm_aload_n C 1 rfl dX4_readAugur_43 rfl ?_
    refine sm_iconst C ic_0 dX4_readAugur_44 ?_
    refine sm_aload_n C 1 rfl dX4_readAugur_45 rfl ?_
    refine sm_getC C fo_4_3 rfl wd33 kd_3 dX4_readAugur_46 rfl (fun j_13 hj_13 => ?_)
    refine sm_getI C fo_0_1 rfl wd34 (kdC hj_13) dX4_readAugur_49 ?_
    refine sm_iconst C ic_1 dX4_readAugur_52 ?_
    refine sm_isub C dX4_readAugur_53 ?_
    refine sm_cVIW (As := [.int 0, .int ((gI w_12 j_13 1) - 1)]) C cfX4_takeNumber wd32 kd_3 rfl rfl rfl rfl rfl dX4_readAugur_54 (fun r h => mX4_takeNumber  h) (fun r_14 w_15 => ?_)
    refine sm_istore_n (lv1 := [(2, .int r_14), (1, .int r_9), (0, .ref (hB G + 3))]) C dX4_readAugur_57 rfl rfl rfl ?_
    refine sm_aload_n C 2 rfl dX4_readAugur_58 rfl ?_
    refine sm_ldcS C 9 rfl dX4_readAugur_59 ?_
    refine sm_cVW (As := [.ref (hA G 9).1]) C cfX4_takeWord wd31 kd_3 rfl rfl rfl rfl rfl dX4_readAugur_61 (fun r h => mX4_takeWord  h) (fun w_17 => ?_)
    refine sm_aload_n C 2 rfl dX4_readAugur_64 rfl ?_
    refine sm_iload_n C 0 rfl dX4_readAugur_65 rfl ?_
    refine sm_aload_n C 2 rfl dX4_readAugur_66 rfl ?_
    refine sm_getC C fo_4_3 rfl wd33 kd_3 dX4_readAugur_67 rfl (fun j_18 hj_18 => ?_)
    refine sm_getI C fo_0_1 rfl wd34 (kdC hj_18) dX4_readAugur_70 ?_
    refine sm_iconst C ic_1 dX4_readAugur_73 ?_
    refine sm_isub C dX4_readAugur_74 ?_
    refine sm_cVIW (As := [.int r_14, .int ((gI w_17 j_18 1) - 1)]) C cfX4_takeNumber wd32 kd_3 rfl rfl rfl rfl rfl dX4_readAugur_75 (fun r h => mX4_takeNumber  h) (fun r_19 w_20 => ?_)
    refine sm_istore_n (lv1 := [(3, .int r_19), (2, .int r_14), (1, .int r_9), (0, .ref (hB G + 3))]) C dX4_readAugur_78 rfl rfl rfl ?_
    refine sm_aload_n C 3 rfl dX4_readAugur_79 rfl ?_
    refine sm_getI C fo_4_0 rfl wd26 kd_3 dX4_readAugur_80 ?_
    refine sm_if_ne C dX4_readAugur_83 (tgt := 147) rfl (fun h_21 => ?_) (fun h_21 => ?_)
    · refine sm_aload_n C 3 rfl dX4_readAugur_86 rfl ?_
      refine sm_getC C fo_4_3 rfl wd33 kd_3 dX4_readAugur_87 rfl (fun j_22 hj_22 => ?_)
      refine sm_getR C fo_0_7 rfl wd40 (kdC hj_22) dX4_readAugur_90 (rvC_7 hj_22 w_20) (nzC_1 hj_22) ?_
      refine sm_aload_n C 3 rfl dX4_readAugur_93 rfl ?_
      refine sm_getC C fo_4_3 rfl wd33 kd_3 dX4_readAugur_94 rfl (fun j_23 hj_23 => ?_)
      refine sm_getI C fo_0_6 rfl wd39 (kdC hj_23) dX4_readAugur_97 ?_
      refine sm_iload_n C 2 rfl dX4_readAugur_100 rfl ?_
      refine sm_iast C (kdC_1 hj_22) dX4_readAugur_101 (fun h_24 w_25 => ?_)
      refine sm_aload_n C 3 rfl dX4_readAugur_102 rfl ?_
      refine sm_getC C fo_4_3 rfl wd33 kd_3 dX4_readAugur_103 rfl (fun j_26 hj_26 => ?_)
      refine sm_getR C fo_0_8 rfl wd41 (kdC hj_26) dX4_readAugur_106 (rvC_8 hj_26 w_25) (nzC_2 hj_26) ?_
      refine sm_aload_n C 3 rfl dX4_readAugur_109 rfl ?_
      refine sm_getC C fo_4_3 rfl wd33 kd_3 dX4_readAugur_110 rfl (fun j_27 hj_27 => ?_)
      refine sm_getI C fo_0_6 rfl wd39 (kdC hj_27) dX4_readAugur_113 ?_
      refine sm_iload_n C 1 rfl dX4_readAugur_116 rfl ?_
      refine sm_iast C (kdC_2 hj_26) dX4_readAugur_117 (fun h_28 w_29 => ?_)
      refine sm_aload_n C 3 rfl dX4_readAugur_118 rfl ?_
      refine sm_getC C fo_4_3 rfl wd33 kd_3 dX4_readAugur_119 rfl (fun j_30 hj_30 => ?_)
      refine sm_getR C fo_0_9 rfl wd42 (kdC hj_30) dX4_readAugur_122 (rvC_9 hj_30 w_29) (nzC_3 hj_30) ?_
      refine sm_aload_n C 3 rfl dX4_readAugur_125 rfl ?_
      refine sm_getC C fo_4_3 rfl wd33 kd_3 dX4_readAugur_126 rfl (fun j_31 hj_31 => ?_)
      refine sm_getI C fo_0_6 rfl wd39 (kdC hj_31) dX4_readAugur_129 ?_
      refine sm_iload_n C 0 rfl dX4_readAugur_132 rfl ?_
      refine sm_iast C (kdC_3 hj_30) dX4_readAugur_133 (fun h_32 w_33 => ?_)
      refine sm_aload_n C 3 rfl dX4_readAugur_134 rfl ?_
      refine sm_getC C fo_4_3 rfl wd33 kd_3 dX4_readAugur_135 rfl (fun j_34 hj_34 => ?_)
      refine sm_dup C rfl dX4_readAugur_138 ?_
      refine sm_getI C fo_0_6 rfl wd39 (kdC hj_34) dX4_readAugur_139 ?_
      refine sm_iconst C ic_1 dX4_readAugur_142 ?_
      refine sm_iadd C dX4_readAugur_143 ?_
      refine sm_putI C fo_0_6 rfl wd39 (kdC hj_34) rfl dX4_readAugur_144 (fun w_35 => ?_)
      exact sm_vret C E rfl dX4_readAugur_147
    · exact sm_vret C E rfl dX4_readAugur_147
/-! X4_readBill -/
set_option maxRecDepth 100000 in
set_option maxHeartbeats 4000000 in
theorem sX4_readBill_83 {G : Gx} {a : HW} (C : Cx G cX4_readBill RX4 4 6 136) (E : Rx G ρW a (none)) (w : HW) (x1 : Int32) (x2 : Int32) (x3 : Int32) : Sm G a 83 [(0, .ref (hB G + 3)), (1, .int x1), (2, .int x2), (3, .int x3)] [] w (fX4_readBill_83 w x1 x2 x3) := by
  unfold fX4_readBill_83
  refine sm_aload_n C 0 rfl dX4_readBill_83 rfl ?_
  refine sm_getI C fo_4_0 rfl wd26 kd_3 dX4_readBill_84 ?_
  refine sm_if_ne C dX4_readBill_87 (tgt := 151) rfl (fun h_23 => ?_) (fun h_23 => ?_)
  · refine sm_aload_n C 0 rfl dX4_readBill_90 rfl ?_
    refine sm_getC C fo_4_3 rfl wd33 kd_3 dX4_readBill_91 rfl (fun j_24 hj_24 => ?_)
    refine sm_getR C fo_0_11 rfl wd44 (kdC hj_24) dX4_readBill_94 (rvC_11 hj_24 w) (nzC_4 hj_24) ?_
    refine sm_aload_n C 0 rfl dX4_readBill_97 rfl ?_
    refine sm_getC C fo_4_3 rfl wd33 kd_3 dX4_readBill_98 rfl (fun j_25 hj_25 => ?_)
    refine sm_getI C fo_0_10 rfl wd43 (kdC hj_25) dX4_readBill_101 ?_
    refine sm_iload_n C 1 rfl dX4_readBill_104 rfl ?_
    refine sm_iast C (kdC_4 hj_24) dX4_readBill_105 (fun h_26 w_27 => ?_)
    refine sm_aload_n C 0 rfl dX4_readBill_106 rfl ?_
    refine sm_getC C fo_4_3 rfl wd33 kd_3 dX4_readBill_107 rfl (fun j_28 hj_28 => ?_)
    refine sm_getR C fo_0_12 rfl wd45 (kdC hj_28) dX4_readBill_110 (rvC_12 hj_28 w_27) (nzC_5 hj_28) ?_
    refine sm_aload_n C 0 rfl dX4_readBill_113 rfl ?_
    refine sm_getC C fo_4_3 rfl wd33 kd_3 dX4_readBill_114 rfl (fun j_29 hj_29 => ?_)
    refine sm_getI C fo_0_10 rfl wd43 (kdC hj_29) dX4_readBill_117 ?_
    refine sm_iload_n C 2 rfl dX4_readBill_120 rfl ?_
    refine sm_iast C (kdC_5 hj_28) dX4_readBill_121 (fun h_30 w_31 => ?_)
    refine sm_aload_n C 0 rfl dX4_readBill_122 rfl ?_
    refine sm_getC C fo_4_3 rfl wd33 kd_3 dX4_readBill_123 rfl (fun j_32 hj_32 => ?_)
    refine sm_getR C fo_0_13 rfl wd46 (kdC hj_32) dX4_readBill_126 (rvC_13 hj_32 w_31) (nzC_6 hj_32) ?_
    refine sm_aload_n C 0 rfl dX4_readBill_129 rfl ?_
    refine sm_getC C fo_4_3 rfl wd33 kd_3 dX4_readBill_130 rfl (fun j_33 hj_33 => ?_)
    refine sm_getI C fo_0_10 rfl wd43 (kdC hj_33) dX4_readBill_133 ?_
    refine sm_iload_n C 3 rfl dX4_readBill_136 rfl ?_
    refine sm_iast C (kdC_6 hj_32) dX4_readBill_137 (fun h_34 w_35 => ?_)
    refine sm_aload_n C 0 rfl dX4_readBill_138 rfl ?_
    refine sm_getC C fo_4_3 rfl wd33 kd_3 dX4_readBill_139 rfl (fun j_36 hj_36 => ?_)
    refine sm_dup C rfl dX4_readBill_142 ?_
    refine sm_getI C fo_0_10 rfl wd43 (kdC hj_36) dX4_readBill_143 ?_
    refine sm_iconst C ic_1 dX4_readBill_146 ?_
    refine sm_iadd C dX4_readBill_147 ?_
    refine sm_putI C fo_0_10 rfl wd43 (kdC hj_36) rfl dX4_readBill_148 (fun w_37 => ?_)
    exact sm_vret C E rfl dX4_readBill_151
  · exact sm_vret C E rfl dX4_readBill_151
set_option maxRecDepth 100000 in
set_option maxHeartbeats 4000000 in
theorem mX4_readBill {b : Bx} {w : HW} {a : HW} (h : fX4_readBill w = some a) : Mt b yX4_readBill cX4_readBill 4 (none) 6 136 [.ref (bB b + 3)] w none a := by
  refine Mt.of ρW h (by decide) (Nat.le_of_ble_eq_true rfl) (fun G hG C E => ?_)
  subst hG
  have C : Cx G cX4_readBill RX4 4 6 136 := C
  change Sm G a 0 [(0, .ref (hB G + 3))] [] w _
  unfold fX4_readBill
  refine sm_aload_n C 0 rfl dX4_readBill_0 rfl ?_
  refine sm_getC C fo_4_3 rfl wd33 kd_3 dX4_readBill_1 rfl (fun j_1 hj_1 => ?_)
  refine sm_getI C fo_0_10 rfl wd43 (kdC hj_1) dX4_readBill_4 ?_
  refine sm_bipush C bp_8 dX4_readBill_7 ?_
  refine sm_icmp_lt C dX4_readBill_9 (tgt := 18) rfl (fun h_2 => ?_) (fun h_2 => ?_)
  · refine sm_aload_n C 0 rfl dX4_readBill_12 rfl ?_
    refine sm_iconst C ic_3 dX4_readBill_13 ?_
    refine sm_cVW (As := [.int 3]) C cfX4_fail wd29 kd_3 rfl rfl rfl rfl rfl dX4_readBill_14 (fun r h => mX4_fail  h) (fun w_4 => ?_)
    exact sm_vret C E rfl dX4_readBill_17
  · refine sm_aload_n C 0 rfl dX4_readBill_18 rfl ?_
    refine sm_ldcS C 10 rfl dX4_readBill_19 ?_
    refine sm_cVW (As := [.ref (hA G 10).1]) C cfX4_takeWord wd31 kd_3 rfl rfl rfl rfl rfl dX4_readBill_21 (fun r h => mX4_takeWord  h) (fun w_6 => ?_)
    refine sm_aload_n C 0 rfl dX4_readBill_24 rfl ?_
    refine sm_ldcS C 7 rfl dX4_readBill_25 ?_
    refine sm_cVW (As := [.ref (hA G 7).1]) C cfX4_takeWord wd31 kd_3 rfl rfl rfl rfl rfl dX4_readBill_27 (fun r h => mX4_takeWord  h) (fun w_8 => ?_)
    refine sm_aload_n C 0 rfl dX4_readBill_30 rfl ?_
    refine sm_iconst C ic_0 dX4_readBill_31 ?_
    refine sm_iconst C ic_1 dX4_readBill_32 ?_
    refine sm_cVIW (As := [.int 0, .int 1]) C cfX4_takeNumber wd32 kd_3 rfl rfl rfl rfl rfl dX4_readBill_33 (fun r h => mX4_takeNumber  h) (fun r_9 w_10 => ?_)
    refine sm_istore_n (lv1 := [(1, .int r_9), (0, .ref (hB G + 3))]) C dX4_readBill_36 rfl rfl rfl ?_
    refine sm_aload_n C 1 rfl dX4_readBill_37 rfl ?_
    refine sm_ldcS C 11 rfl dX4_readBill_38 ?_
    refine sm_cVW (As := [.ref (hA G 11).1]) C cfX4_takeWord wd31 kd_3 rfl rfl rfl rfl rfl dX4_readBill_40 (fun r h => mX4_takeWord  h) (fun w_12 => ?_)
    refine sm_aload_n C 1 rfl dX4_readBill_43 rfl ?_
    refine sm_iconst C ic_0 dX4_readBill_44 ?_
    refine sm_bipush C bp_99 dX4_readBill_45 ?_
    refine sm_cVIW (As := [.int 0, .int 99]) C cfX4_takeNumber wd32 kd_3 rfl rfl rfl rfl rfl dX4_readBill_47 (fun r h => mX4_takeNumber  h) (fun r_13 w_14 => ?_)
    refine sm_istore_n (lv1 := [(2, .int r_13), (1, .int r_9), (0, .ref (hB G + 3))]) C dX4_readBill_50 rfl rfl rfl ?_
    refine sm_iconst C ic_m1 dX4_readBill_51 ?_
    refine sm_istore_n (lv1 := [(3, .int (-1)), (2, .int r_13), (1, .int r_9), (0, .ref (hB G + 3))]) C dX4_readBill_52 rfl rfl rfl ?_
    refine sm_aload_n C 3 rfl dX4_readBill_53 rfl ?_
    refine sm_ldcS C 12 rfl dX4_readBill_54 ?_
    refine sm_cVI (As := [.ref (hA G 12).1]) C cfX4_isWord wd28 kd_3 rfl rfl rfl rfl rfl dX4_readBill_56 (fun r h => mX4_isWord  h) (fun r_15 => ?_)
    refine sm_if_eq C dX4_readBill_59 (tgt := 83) rfl (fun h_17 => ?_) (fun h_17 => ?_)
    · refine sm_aload_n C 3 rfl dX4_readBill_62 rfl ?_
      refine sm_ldcS C 12 rfl dX4_readBill_63 ?_
      refine sm_cVW (As := [.ref (hA G 12).1]) C cfX4_takeWord wd31 kd_3 rfl rfl rfl rfl rfl dX4_readBill_65 (fun r h => mX4_takeWord  h) (fun w_19 => ?_)
      refine sm_aload_n C 3 rfl dX4_readBill_68 rfl ?_
      refine sm_iconst C ic_0 dX4_readBill_69 ?_
      refine sm_aload_n C 3 rfl dX4_readBill_70 rfl ?_
      refine sm_getC C fo_4_3 rfl wd33 kd_3 dX4_readBill_71 rfl (fun j_20 hj_20 => ?_)
      refine sm_getI C fo_0_10 rfl wd43 (kdC hj_20) dX4_readBill_74 ?_
      refine sm_iconst C ic_1 dX4_readBill_77 ?_
      refine sm_isub C dX4_readBill_78 ?_
      refine sm_cVIW (As := [.int 0, .int ((gI w_19 j_20 10) - 1)]) C cfX4_takeNumber wd32 kd_3 rfl rfl rfl rfl rfl dX4_readBill_79 (fun r h => mX4_takeNumber  h) (fun r_21 w_22 => ?_)
      refine sm_istore_n (lv1 := [(3, .int r_21), (2, .int r_13), (1, .int r_9), (0, .ref (hB G + 3))]) C dX4_readBill_82 rfl rfl rfl ?_
      refine sm_sub [3, 2, 1, 0] rfl ?_
      exact sX4_readBill_83 C E w_22 r_9 r_13 r_21
    · refine sm_sub [3, 2, 1, 0] rfl ?_
      exact sX4_readBill_83 C E w_14 r_9 r_13 (-1)
/-! X4_takeSign -/
set_option maxRecDepth 100000 in
set_option maxHeartbeats 4000000 in
theorem mX4_takeSign {b : Bx} {w : HW} {a : HW} (h : fX4_takeSign w = some a) : Mt b yX4_takeSign cX4_takeSign 1 (none) 2 42 [.ref (bB b + 3)] w none a := by
  refine Mt.of ρW h (by decide) (Nat.le_of_ble_eq_true rfl) (fun G hG C E => ?_)
  subst hG
  have C : Cx G cX4_takeSign RX4 1 2 42 := C
  change Sm G a 0 [(0, .ref (hB G + 3))] [] w _
  unfold fX4_takeSign
  refine sm_aload_n C 0 rfl dX4_takeSign_0 rfl ?_
  refine sm_getI C fo_4_0 rfl wd26 kd_3 dX4_takeSign_1 ?_
  refine sm_if_eq C dX4_takeSign_4 (tgt := 8) rfl (fun h_1 => ?_) (fun h_1 => ?_)
  · exact sm_vret C E rfl dX4_takeSign_7
  · refine sm_aload_n C 0 rfl dX4_takeSign_8 rfl ?_
    refine sm_getI C fo_4_4 rfl wd21 kd_3 dX4_takeSign_9 ?_
    refine sm_iconst C ic_3 dX4_takeSign_12 ?_
    refine sm_icmp_eq C dX4_takeSign_13 (tgt := 22) rfl (fun h_2 => ?_) (fun h_2 => ?_)
    · refine sm_aload_n C 0 rfl dX4_takeSign_16 rfl ?_
      refine sm_iconst C ic_1 dX4_takeSign_17 ?_
      refine sm_cVW (As := [.int 1]) C cfX4_fail wd29 kd_3 rfl rfl rfl rfl rfl dX4_takeSign_18 (fun r h => mX4_fail  h) (fun w_4 => ?_)
      exact sm_vret C E rfl dX4_takeSign_21
    · refine sm_aload_n C 0 rfl dX4_takeSign_22 rfl ?_
      refine sm_getC C fo_4_3 rfl wd33 kd_3 dX4_takeSign_23 rfl (fun j_5 hj_5 => ?_)
      refine sm_dup C rfl dX4_takeSign_26 ?_
      refine sm_getI C fo_0_0 rfl wd47 (kdC hj_5) dX4_takeSign_27 ?_
      refine sm_iconst C ic_1 dX4_takeSign_30 ?_
      refine sm_iadd C dX4_takeSign_31 ?_
      refine sm_putI C fo_0_0 rfl wd47 (kdC hj_5) rfl dX4_takeSign_32 (fun w_6 => ?_)
      refine sm_aload_n C 0 rfl dX4_takeSign_35 rfl ?_
      refine sm_cVW (As := []) C cfX4_step wd30 kd_3 rfl rfl rfl rfl rfl dX4_takeSign_36 (fun r h => mX4_step  h) (fun w_8 => ?_)
      exact sm_vret C E rfl dX4_takeSign_39
/-! X4_readLine -/
set_option maxRecDepth 100000 in
set_option maxHeartbeats 4000000 in
theorem mX4_readLine {b : Bx} {w : HW} {a : HW} (h : fX4_readLine w = some a) : Mt b yX4_readLine cX4_readLine 1 (none) 7 160 [.ref (bB b + 3)] w none a := by
  refine Mt.of ρW h (by decide) (Nat.le_of_ble_eq_true rfl) (fun G hG C E => ?_)
  subst hG
  have C : Cx G cX4_readLine RX4 1 7 160 := C
  change Sm G a 0 [(0, .ref (hB G + 3))] [] w _
  unfold fX4_readLine
  refine sm_aload_n C 0 rfl dX4_readLine_0 rfl ?_
  refine sm_getC C fo_4_3 rfl wd33 kd_3 dX4_readLine_1 rfl (fun j_1 hj_1 => ?_)
  refine sm_getI C fo_0_0 rfl wd47 (kdC hj_1) dX4_readLine_4 ?_
  refine sm_if_ne C dX4_readLine_7 (tgt := 17) rfl (fun h_2 => ?_) (fun h_2 => ?_)
  · refine sm_aload_n C 0 rfl dX4_readLine_10 rfl ?_
    refine sm_cVW (As := []) C cfX4_readCamp wd48 kd_3 rfl rfl rfl rfl rfl dX4_readLine_11 (fun r h => mX4_readCamp  h) (fun w_4 => ?_)
    refine sm_goto C dX4_readLine_14 (tgt := 70) rfl ?_
    refine sm_aload_n C 0 rfl dX4_readLine_70 rfl ?_
    refine sm_cVW (As := []) C cfX4_takeSign wd49 kd_3 rfl rfl rfl rfl rfl dX4_readLine_71 (fun r h => mX4_takeSign  h) (fun w_6 => ?_)
    exact sm_vret C E rfl dX4_readLine_74
  · refine sm_aload_n C 0 rfl dX4_readLine_17 rfl ?_
    refine sm_ldcS C 5 rfl dX4_readLine_18 ?_
    refine sm_cVI (As := [.ref (hA G 5).1]) C cfX4_isWord wd28 kd_3 rfl rfl rfl rfl rfl dX4_readLine_20 (fun r h => mX4_isWord  h) (fun r_7 => ?_)
    refine sm_if_eq C dX4_readLine_23 (tgt := 33) rfl (fun h_9 => ?_) (fun h_9 => ?_)
    · refine sm_aload_n C 0 rfl dX4_readLine_26 rfl ?_
      refine sm_cVW (As := []) C cfX4_readMark wd50 kd_3 rfl rfl rfl rfl rfl dX4_readLine_27 (fun r h => mX4_readMark  h) (fun w_11 => ?_)
      refine sm_goto C dX4_readLine_30 (tgt := 70) rfl ?_
      refine sm_aload_n C 0 rfl dX4_readLine_70 rfl ?_
      refine sm_cVW (As := []) C cfX4_takeSign wd49 kd_3 rfl rfl rfl rfl rfl dX4_readLine_71 (fun r h => mX4_takeSign  h) (fun w_13 => ?_)
      exact sm_vret C E rfl dX4_readLine_74
    · refine sm_aload_n C 0 rfl dX4_readLine_33 rfl ?_
      refine sm_ldcS C 6 rfl dX4_readLine_34 ?_
      refine sm_cVI (As := [.ref (hA G 6).1]) C cfX4_isWord wd28 kd_3 rfl rfl rfl rfl rfl dX4_readLine_36 (fun r h => mX4_isWord  h) (fun r_14 => ?_)
      refine sm_if_eq C dX4_readLine_39 (tgt := 49) rfl (fun h_16 => ?_) (fun h_16 => ?_)
      · refine sm_aload_n C 0 rfl dX4_readLine_42 rfl ?_
        refine sm_cVW (As := []) C cfX4_readAugur wd51 kd_3 rfl rfl rfl rfl rfl dX4_readLine_43 (fun r h => mX4_readAugur  h) (fun w_18 => ?_)
        refine sm_goto C dX4_readLine_46 (tgt := 70) rfl ?_
        refine sm_aload_n C 0 rfl dX4_readLine_70 rfl ?_
        refine sm_cVW (As := []) C cfX4_takeSign wd49 kd_3 rfl rfl rfl rfl rfl dX4_readLine_71 (fun r h => mX4_takeSign  h) (fun w_20 => ?_)
        exact sm_vret C E rfl dX4_readLine_74
      · refine sm_aload_n C 0 rfl dX4_readLine_49 rfl ?_
        refine sm_ldcS C 10 rfl dX4_readLine_50 ?_
        refine sm_cVI (As := [.ref (hA G 10).1]) C cfX4_isWord wd28 kd_3 rfl rfl rfl rfl rfl dX4_readLine_52 (fun r h => mX4_isWord  h) (fun r_21 => ?_)
        refine sm_if_eq C dX4_readLine_55 (tgt := 65) rfl (fun h_23 => ?_) (fun h_23 => ?_)
        · refine sm_aload_n C 0 rfl dX4_readLine_58 rfl ?_
          refine sm_cVW (As := []) C cfX4_readBill wd52 kd_3 rfl rfl rfl rfl rfl dX4_readLine_59 (fun r h => mX4_readBill  h) (fun w_25 => ?_)
          refine sm_goto C dX4_readLine_62 (tgt := 70) rfl ?_
          refine sm_aload_n C 0 rfl dX4_readLine_70 rfl ?_
          refine sm_cVW (As := []) C cfX4_takeSign wd49 kd_3 rfl rfl rfl rfl rfl dX4_readLine_71 (fun r h => mX4_takeSign  h) (fun w_27 => ?_)
          exact sm_vret C E rfl dX4_readLine_74
        · refine sm_aload_n C 0 rfl dX4_readLine_65 rfl ?_
          refine sm_iconst C ic_1 dX4_readLine_66 ?_
          refine sm_cVW (As := [.int 1]) C cfX4_fail wd29 kd_3 rfl rfl rfl rfl rfl dX4_readLine_67 (fun r h => mX4_fail  h) (fun w_29 => ?_)
          refine sm_aload_n C 0 rfl dX4_readLine_70 rfl ?_
          refine sm_cVW (As := []) C cfX4_takeSign wd49 kd_3 rfl rfl rfl rfl rfl dX4_readLine_71 (fun r h => mX4_takeSign  h) (fun w_31 => ?_)
          exact sm_vret C E rfl dX4_readLine_74
/-! X4_read -/
set_option maxRecDepth 100000 in
set_option maxHeartbeats 4000000 in
theorem sX4_read_38 {G : Gx} {a : Int32 × HW} (C : Cx G cX4_read RX4 4 8 180) (E : Rx G ρIW a (some .boolean)) : ∀ (n : Nat) (w : HW) (x3 : Int32), Sm G a 38 [(0, .ref (hB G + 3)), (3, .int x3)] [] w (fX4_read_38 n w x3) := by
  intro n
  induction n with
  | zero => intro _ _; exact sm_none
  | succ n ih =>
    intro w x3
    rw [fX4_read_38]
    refine sm_iload_n C 1 rfl dX4_read_38 rfl ?_
    refine sm_sipush C sp_800 dX4_read_39 ?_
    refine sm_icmp_ge C dX4_read_42 (tgt := 69) rfl (fun h_11 => ?_) (fun h_11 => ?_)
    · refine sm_aload_n C 0 rfl dX4_read_45 rfl ?_
      refine sm_getI C fo_4_4 rfl wd21 kd_3 dX4_read_46 ?_
      refine sm_if_eq C dX4_read_49 (tgt := 69) rfl (fun h_12 => ?_) (fun h_12 => ?_)
      · refine sm_aload_n C 0 rfl dX4_read_52 rfl ?_
        refine sm_getI C fo_4_0 rfl wd26 kd_3 dX4_read_53 ?_
        refine sm_if_ne C dX4_read_56 (tgt := 69) rfl (fun h_13 => ?_) (fun h_13 => ?_)
        · refine sm_aload_n C 0 rfl dX4_read_59 rfl ?_
          refine sm_cVW (As := []) C cfX4_readLine wd54 kd_3 rfl rfl rfl rfl rfl dX4_read_60 (fun r h => mX4_readLine  h) (fun w_15 => ?_)
          refine sm_iinc (lv1 := [(3, .int (x3 + 1)), (0, .ref (hB G + 3))]) C 1 rfl (iv_1 _) dX4_read_63 rfl rfl ?_
          refine sm_goto C dX4_read_66 (tgt := 38) rfl ?_
          refine sm_sub [1, 0] rfl ?_
          exact ih w_15 (x3 + 1)
        · refine sm_aload_n C 0 rfl dX4_read_69 rfl ?_
          refine sm_getI C fo_4_0 rfl wd26 kd_3 dX4_read_70 ?_
          refine sm_if_ne C dX4_read_73 (tgt := 80) rfl (fun h_16 => ?_) (fun h_16 => ?_)
          · refine sm_iconst C ic_1 dX4_read_76 ?_
            refine sm_goto C dX4_read_77 (tgt := 81) rfl ?_
            exact sm_zret C E rfl rfl dX4_read_81
          · refine sm_iconst C ic_0 dX4_read_80 ?_
            exact sm_zret C E rfl rfl dX4_read_81
      · refine sm_aload_n C 0 rfl dX4_read_69 rfl ?_
        refine sm_getI C fo_4_0 rfl wd26 kd_3 dX4_read_70 ?_
        refine sm_if_ne C dX4_read_73 (tgt := 80) rfl (fun h_17 => ?_) (fun h_17 => ?_)
        · refine sm_iconst C ic_1 dX4_read_76 ?_
          refine sm_goto C dX4_read_77 (tgt := 81) rfl ?_
          exact sm_zret C E rfl rfl dX4_read_81
        · refine sm_iconst C ic_0 dX4_read_80 ?_
          exact sm_zret C E rfl rfl dX4_read_81
    · refine sm_aload_n C 0 rfl dX4_read_69 rfl ?_
      refine sm_getI C fo_4_0 rfl wd26 kd_3 dX4_read_70 ?_
      refine sm_if_ne C dX4_read_73 (tgt := 80) rfl (fun h_18 => ?_) (fun h_18 => ?_)
      · refine sm_iconst C ic_1 dX4_read_76 ?_
        refine sm_goto C dX4_read_77 (tgt := 81) rfl ?_
        exact sm_zret C E rfl rfl dX4_read_81
      · refine sm_iconst C ic_0 dX4_read_80 ?_
        exact sm_zret C E rfl rfl dX4_read_81
set_option maxRecDepth 100000 in
set_option maxHeartbeats 4000000 in
theorem mX4_read {b : Bx} {w : HW} {k2 : Nat} (hk2 : isC k2 = true) {a : Int32 × HW} (h : fX4_read w k2 = some a) : Mt b yX4_read cX4_read 4 (some .boolean) 8 180 [.ref (bB b + 3), .ref (bB b + 1), .ref (bB b + k2)] w (some (.int a.1)) a.2 := by
  refine Mt.of ρIW h (by decide) (Nat.le_of_ble_eq_true rfl) (fun G hG C E => ?_)
  subst hG
  have C : Cx G cX4_read RX4 4 8 180 := C
  change Sm G a 0 [(0, .ref (hB G + 3)), (1, .ref (hB G + 1)), (2, .ref (hB G + k2))] [] w _
  unfold fX4_read
  refine sm_aload_n C 0 rfl dX4_read_0 rfl ?_
  refine sm_aload_n C 1 rfl dX4_read_1 rfl ?_
  refine sm_putR C fo_4_2 rfl wd14 kd_3 rfl (by decide) ⟨_, rfl⟩ dX4_read_2 (fun w_1 => ?_)
  refine sm_aload_n C 0 rfl dX4_read_5 rfl ?_
  refine sm_aload_n C 2 rfl dX4_read_6 rfl ?_
  refine sm_putR C fo_4_3 rfl wd33 kd_3 rfl (isC_nz hk2) ⟨_, rfl⟩ dX4_read_7 (fun w_2 => ?_)
  refine sm_aload_n C 0 rfl dX4_read_10 rfl ?_
  refine sm_getC C fo_4_3 rfl wd33 kd_3 dX4_read_11 rfl (fun j_3 hj_3 => ?_)
  refine sm_cVW (As := []) C cfX0_forget wd53 (kdC hj_3) rfl rfl rfl rfl rfl dX4_read_14 (fun r h => mX0_forget hj_3 h) (fun w_5 => ?_)
  refine sm_aload_n C 0 rfl dX4_read_17 rfl ?_
  refine sm_iconst C ic_0 dX4_read_18 ?_
  refine sm_putI C fo_4_0 rfl wd26 kd_3 rfl dX4_read_19 (fun w_6 => ?_)
  refine sm_aload_n C 0 rfl dX4_read_22 rfl ?_
  refine sm_iconst C ic_m1 dX4_read_23 ?_
  refine sm_putI C fo_4_1 rfl wd27 kd_3 rfl dX4_read_24 (fun w_7 => ?_)
  refine sm_aload_n C 0 rfl dX4_read_27 rfl ?_
  refine sm_iconst C ic_0 dX4_read_28 ?_
  refine sm_putI C fo_4_6 rfl wd17 kd_3 rfl dX4_read_29 (fun w_8 => ?_)
  refine sm_aload_n C 0 rfl dX4_read_32 rfl ?_
  refine sm_cVW (As := []) C cfX4_step wd30 kd_3 rfl rfl rfl rfl rfl dX4_read_33 (fun r h => mX4_step  h) (fun w_10 => ?_)
  refine sm_iconst C ic_0 dX4_read_36 ?_
  refine sm_istore_n (lv1 := [(3, .int 0), (0, .ref (hB G + 3)), (1, .ref (hB G + 1)), (2, .ref (hB G + k2))]) C dX4_read_37 rfl rfl rfl ?_
  refine sm_sub [1, 0] rfl ?_
  exact sX4_read_38 C E FU w_10 0
/-! X9_camp -/
set_option maxRecDepth 100000 in
set_option maxHeartbeats 4000000 in
theorem mX9_camp {b : Bx} {w : HW} {a : Int32 × HW} (h : fX9_camp w = some a) : Mt b yX9_camp cX9_camp 3 (some .int) 9 203 [.ref (bB b + 0)] w (some (.int a.1)) a.2 := by
  refine Mt.of ρIW h (by decide) (Nat.le_of_ble_eq_true rfl) (fun G hG C E => ?_)
  subst hG
  have C : Cx G cX9_camp RX9 3 9 203 := C
  change Sm G a 0 [(0, .ref (hB G + 0))] [] w _
  unfold fX9_camp
  refine sm_aload_n C 0 rfl dX9_camp_0 rfl ?_
  refine sm_getR C fo_9_1 rfl wd55 kd_0 dX9_camp_1 (rv_0_1 w) (by decide) ?_
  refine sm_aload_n C 0 rfl dX9_camp_4 rfl ?_
  refine sm_getR C fo_9_0 rfl wd2 kd_0 dX9_camp_5 (rv_0_0 w) (by decide) ?_
  refine sm_aload_n C 0 rfl dX9_camp_8 rfl ?_
  refine sm_getC C fo_9_11 rfl wd56 kd_0 dX9_camp_9 rfl (fun j_1 hj_1 => ?_)
  refine sm_cVIW (As := [.ref (hB G + 1), .ref (hB G + j_1)]) C cfX4_read wd57 kd_3 rfl rfl rfl rfl rfl dX9_camp_12 (fun r h => mX4_read hj_1 h) (fun r_2 w_3 => ?_)
  refine sm_istore_n (lv1 := [(1, .int r_2), (0, .ref (hB G + 0))]) C dX9_camp_15 rfl rfl rfl ?_
  refine sm_aload_n C 1 rfl dX9_camp_16 rfl ?_
  refine sm_getR C fo_9_0 rfl wd2 kd_0 dX9_camp_17 (rv_0_0 w_3) (by decide) ?_
  refine sm_iconst C ic_0 dX9_camp_20 ?_
  refine sm_putI C fo_8_1 rfl wd3 kd_1 rfl dX9_camp_21 (fun w_4 => ?_)
  refine sm_iload_n C 0 rfl dX9_camp_24 rfl ?_
  refine sm_if_ne C dX9_camp_25 (tgt := 31) rfl (fun h_5 => ?_) (fun h_5 => ?_)
  · refine sm_bipush C bp_m4 dX9_camp_28 ?_
    exact sm_iret C E rfl dX9_camp_30
  · refine sm_aload_n C 1 rfl dX9_camp_31 rfl ?_
    refine sm_getC C fo_9_10 rfl wd58 kd_0 dX9_camp_32 rfl (fun j_6 hj_6 => ?_)
    refine sm_astore_n (lv1 := [(2, .ref (hB G + j_6)), (1, .int r_2), (0, .ref (hB G + 0))]) C dX9_camp_35 rfl rfl rfl ?_
    refine sm_aload_n C 2 rfl dX9_camp_36 rfl ?_
    refine sm_aload_n C 2 rfl dX9_camp_37 rfl ?_
    refine sm_getC C fo_9_11 rfl wd56 kd_0 dX9_camp_38 rfl (fun j_7 hj_7 => ?_)
    refine sm_putR C fo_9_10 rfl wd58 kd_0 rfl (isC_nz hj_7) ⟨_, rfl⟩ dX9_camp_41 (fun w_8 => ?_)
    refine sm_aload_n C 2 rfl dX9_camp_44 rfl ?_
    refine sm_aload_n C 0 rfl dX9_camp_45 rfl ?_
    refine sm_putR C fo_9_11 rfl wd56 kd_0 rfl (isC_nz hj_6) ⟨_, rfl⟩ dX9_camp_46 (fun w_9 => ?_)
    refine sm_aload_n C 2 rfl dX9_camp_49 rfl ?_
    refine sm_getC C fo_9_10 rfl wd58 kd_0 dX9_camp_50 rfl (fun j_10 hj_10 => ?_)
    refine sm_getI C fo_0_0 rfl wd59 (kdC hj_10) dX9_camp_53 ?_
    exact sm_iret C E rfl dX9_camp_56
/-! X9_fault -/
set_option maxRecDepth 100000 in
set_option maxHeartbeats 4000000 in
theorem mX9_fault {b : Bx} {w : HW} {x1 : Int32} {a : Int32} (h : fX9_fault w x1 = some a) : Mt b yX9_fault cX9_fault 2 (some .int) 0 0 [.ref (bB b + 0), .int x1] w (some (.int a)) w := by
  refine Mt.of (ρI w) h (by decide) (Nat.le_of_ble_eq_true rfl) (fun G hG C E => ?_)
  subst hG
  have C : Cx G cX9_fault RX9 2 0 0 := C
  change Sm G a 0 [(0, .ref (hB G + 0)), (1, .int x1)] [] w _
  unfold fX9_fault
  refine sm_iload_n C 1 rfl dX9_fault_0 rfl ?_
  refine sm_if_ne C dX9_fault_1 (tgt := 12) rfl (fun h_1 => ?_) (fun h_1 => ?_)
  · refine sm_aload_n C 0 rfl dX9_fault_4 rfl ?_
    refine sm_getR C fo_9_1 rfl wd55 kd_0 dX9_fault_5 (rv_0_1 w) (by decide) ?_
    refine sm_getI C fo_4_0 rfl wd60 kd_3 dX9_fault_8 ?_
    exact sm_iret C E rfl dX9_fault_11
  · refine sm_iload_n C 1 rfl dX9_fault_12 rfl ?_
    refine sm_iconst C ic_1 dX9_fault_13 ?_
    refine sm_icmp_ne C dX9_fault_14 (tgt := 27) rfl (fun h_2 => ?_) (fun h_2 => ?_)
    · refine sm_aload_n C 0 rfl dX9_fault_17 rfl ?_
      refine sm_getR C fo_9_1 rfl wd55 kd_0 dX9_fault_18 (rv_0_1 w) (by decide) ?_
      refine sm_getI C fo_4_1 rfl wd61 kd_3 dX9_fault_21 ?_
      refine sm_goto C dX9_fault_24 (tgt := 28) rfl ?_
      exact sm_iret C E rfl dX9_fault_28
    · refine sm_iconst C ic_m1 dX9_fault_27 ?_
      exact sm_iret C E rfl dX9_fault_28
/-! X0_hasAugur -/
set_option maxRecDepth 100000 in
set_option maxHeartbeats 4000000 in
theorem mX0_hasAugur {b : Bx} {w : HW} {k0 : Nat} {x1 : Int32} (hk0 : isC k0 = true) {a : Int32} (h : fX0_hasAugur w k0 x1 = some a) : Mt b yX0_hasAugur cX0_hasAugur 2 (some .boolean) 0 0 [.ref (bB b + k0), .int x1] w (some (.int a)) w := by
  refine Mt.of (ρI w) h (by decide) (Nat.le_of_ble_eq_true rfl) (fun G hG C E => ?_)
  subst hG
  have C : Cx G cX0_hasAugur RX0 2 0 0 := C
  change Sm G a 0 [(0, .ref (hB G + k0)), (1, .int x1)] [] w _
  unfold fX0_hasAugur
  refine sm_iload_n C 1 rfl dX0_hasAugur_0 rfl ?_
  refine sm_if_lt C dX0_hasAugur_1 (tgt := 16) rfl (fun h_1 => ?_) (fun h_1 => ?_)
  · refine sm_iload_n C 1 rfl dX0_hasAugur_4 rfl ?_
    refine sm_aload_n C 0 rfl dX0_hasAugur_5 rfl ?_
    refine sm_getI C fo_0_6 rfl wd11 (kdC hk0) dX0_hasAugur_6 ?_
    refine sm_icmp_ge C dX0_hasAugur_9 (tgt := 16) rfl (fun h_2 => ?_) (fun h_2 => ?_)
    · refine sm_iconst C ic_1 dX0_hasAugur_12 ?_
      refine sm_goto C dX0_hasAugur_13 (tgt := 17) rfl ?_
      exact sm_zret C E rfl rfl dX0_hasAugur_17
    · refine sm_iconst C ic_0 dX0_hasAugur_16 ?_
      exact sm_zret C E rfl rfl dX0_hasAugur_17
  · refine sm_iconst C ic_0 dX0_hasAugur_16 ?_
    exact sm_zret C E rfl rfl dX0_hasAugur_17
/-! X9_augur -/
set_option maxRecDepth 100000 in
set_option maxHeartbeats 4000000 in
theorem mX9_augur {b : Bx} {w : HW} {x1 : Int32} {x2 : Int32} {a : Int32} (h : fX9_augur w x1 x2 = some a) : Mt b yX9_augur cX9_augur 3 (some .int) 1 21 [.ref (bB b + 0), .int x1, .int x2] w (some (.int a)) w := by
  refine Mt.of (ρI w) h (by decide) (Nat.le_of_ble_eq_true rfl) (fun G hG C E => ?_)
  subst hG
  have C : Cx G cX9_augur RX9 3 1 21 := C
  change Sm G a 0 [(0, .ref (hB G + 0)), (1, .int x1), (2, .int x2)] [] w _
  unfold fX9_augur
  refine sm_aload_n C 0 rfl dX9_augur_0 rfl ?_
  refine sm_getC C fo_9_10 rfl wd58 kd_0 dX9_augur_1 rfl (fun j_1 hj_1 => ?_)
  refine sm_iload_n C 1 rfl dX9_augur_4 rfl ?_
  refine sm_cVI (As := [.int x1]) C cfX0_hasAugur wd62 (kdC hj_1) rfl rfl rfl rfl rfl dX9_augur_5 (fun r h => mX0_hasAugur hj_1 h) (fun r_2 => ?_)
  refine sm_if_ne C dX9_augur_8 (tgt := 14) rfl (fun h_4 => ?_) (fun h_4 => ?_)
  · refine sm_bipush C bp_m2 dX9_augur_11 ?_
    exact sm_iret C E rfl dX9_augur_13
  · refine sm_iload_n C 2 rfl dX9_augur_14 rfl ?_
    refine sm_spl (P := x2 = 0) (fun h_5 => ?_) (fun h_5 => ?_)
    · refine sm_tabIn C dX9_augur_15 (by rw [h_5]; decide) (by rw [h_5]; decide) (off := 25) (by rw [h_5]; decide +kernel) (tgt := 40) rfl ?_
      refine sm_aload_n C 0 rfl dX9_augur_40 rfl ?_
      refine sm_getC C fo_9_10 rfl wd58 kd_0 dX9_augur_41 rfl (fun j_6 hj_6 => ?_)
      refine sm_getR C fo_0_7 rfl wd63 (kdC hj_6) dX9_augur_44 (rvC_7 hj_6 w) (nzC_1 hj_6) ?_
      refine sm_iload_n C 1 rfl dX9_augur_47 rfl ?_
      refine sm_iald C (kdC_1 hj_6) dX9_augur_48 (fun h_7 => ?_)
      exact sm_iret C E rfl dX9_augur_49
    refine sm_spl (P := x2 = 1) (fun h_8 => ?_) (fun h_8 => ?_)
    · refine sm_tabIn C dX9_augur_15 (by rw [h_8]; decide) (by rw [h_8]; decide) (off := 35) (by rw [h_8]; decide +kernel) (tgt := 50) rfl ?_
      refine sm_aload_n C 0 rfl dX9_augur_50 rfl ?_
      refine sm_getC C fo_9_10 rfl wd58 kd_0 dX9_augur_51 rfl (fun j_9 hj_9 => ?_)
      refine sm_getR C fo_0_8 rfl wd64 (kdC hj_9) dX9_augur_54 (rvC_8 hj_9 w) (nzC_2 hj_9) ?_
      refine sm_iload_n C 1 rfl dX9_augur_57 rfl ?_
      refine sm_iald C (kdC_2 hj_9) dX9_augur_58 (fun h_10 => ?_)
      exact sm_iret C E rfl dX9_augur_59
    refine sm_spl (P := x2 = 2) (fun h_11 => ?_) (fun h_11 => ?_)
    · refine sm_tabIn C dX9_augur_15 (by rw [h_11]; decide) (by rw [h_11]; decide) (off := 45) (by rw [h_11]; decide +kernel) (tgt := 60) rfl ?_
      refine sm_aload_n C 0 rfl dX9_augur_60 rfl ?_
      refine sm_getC C fo_9_10 rfl wd58 kd_0 dX9_augur_61 rfl (fun j_12 hj_12 => ?_)
      refine sm_getR C fo_0_9 rfl wd65 (kdC hj_12) dX9_augur_64 (rvC_9 hj_12 w) (nzC_3 hj_12) ?_
      refine sm_iload_n C 1 rfl dX9_augur_67 rfl ?_
      refine sm_iald C (kdC_3 hj_12) dX9_augur_68 (fun h_13 => ?_)
      exact sm_iret C E rfl dX9_augur_69
    refine sm_tabOut C dX9_augur_15 (tab_out3 h_5 h_8 h_11) (tgt := 70) rfl ?_
    refine sm_bipush C bp_m2 dX9_augur_70 ?_
    exact sm_iret C E rfl dX9_augur_72
/-! X0_hasBill -/
set_option maxRecDepth 100000 in
set_option maxHeartbeats 4000000 in
theorem mX0_hasBill {b : Bx} {w : HW} {k0 : Nat} {x1 : Int32} (hk0 : isC k0 = true) {a : Int32} (h : fX0_hasBill w k0 x1 = some a) : Mt b yX0_hasBill cX0_hasBill 2 (some .boolean) 0 0 [.ref (bB b + k0), .int x1] w (some (.int a)) w := by
  refine Mt.of (ρI w) h (by decide) (Nat.le_of_ble_eq_true rfl) (fun G hG C E => ?_)
  subst hG
  have C : Cx G cX0_hasBill RX0 2 0 0 := C
  change Sm G a 0 [(0, .ref (hB G + k0)), (1, .int x1)] [] w _
  unfold fX0_hasBill
  refine sm_iload_n C 1 rfl dX0_hasBill_0 rfl ?_
  refine sm_if_lt C dX0_hasBill_1 (tgt := 16) rfl (fun h_1 => ?_) (fun h_1 => ?_)
  · refine sm_iload_n C 1 rfl dX0_hasBill_4 rfl ?_
    refine sm_aload_n C 0 rfl dX0_hasBill_5 rfl ?_
    refine sm_getI C fo_0_10 rfl wd12 (kdC hk0) dX0_hasBill_6 ?_
    refine sm_icmp_ge C dX0_hasBill_9 (tgt := 16) rfl (fun h_2 => ?_) (fun h_2 => ?_)
    · refine sm_iconst C ic_1 dX0_hasBill_12 ?_
      refine sm_goto C dX0_hasBill_13 (tgt := 17) rfl ?_
      exact sm_zret C E rfl rfl dX0_hasBill_17
    · refine sm_iconst C ic_0 dX0_hasBill_16 ?_
      exact sm_zret C E rfl rfl dX0_hasBill_17
  · refine sm_iconst C ic_0 dX0_hasBill_16 ?_
    exact sm_zret C E rfl rfl dX0_hasBill_17
/-! X9_bill -/
set_option maxRecDepth 100000 in
set_option maxHeartbeats 4000000 in
theorem mX9_bill {b : Bx} {w : HW} {x1 : Int32} {x2 : Int32} {a : Int32} (h : fX9_bill w x1 x2 = some a) : Mt b yX9_bill cX9_bill 3 (some .int) 1 21 [.ref (bB b + 0), .int x1, .int x2] w (some (.int a)) w := by
  refine Mt.of (ρI w) h (by decide) (Nat.le_of_ble_eq_true rfl) (fun G hG C E => ?_)
  subst hG
  have C : Cx G cX9_bill RX9 3 1 21 := C
  change Sm G a 0 [(0, .ref (hB G + 0)), (1, .int x1), (2, .int x2)] [] w _
  unfold fX9_bill
  refine sm_aload_n C 0 rfl dX9_bill_0 rfl ?_
  refine sm_getC C fo_9_10 rfl wd58 kd_0 dX9_bill_1 rfl (fun j_1 hj_1 => ?_)
  refine sm_iload_n C 1 rfl dX9_bill_4 rfl ?_
  refine sm_cVI (As := [.int x1]) C cfX0_hasBill wd66 (kdC hj_1) rfl rfl rfl rfl rfl dX9_bill_5 (fun r h => mX0_hasBill hj_1 h) (fun r_2 => ?_)
  refine sm_if_ne C dX9_bill_8 (tgt := 14) rfl (fun h_4 => ?_) (fun h_4 => ?_)
  · refine sm_bipush C bp_m2 dX9_bill_11 ?_
    exact sm_iret C E rfl dX9_bill_13
  · refine sm_iload_n C 2 rfl dX9_bill_14 rfl ?_
    refine sm_spl (P := x2 = 0) (fun h_5 => ?_) (fun h_5 => ?_)
    · refine sm_tabIn C dX9_bill_15 (by rw [h_5]; decide) (by rw [h_5]; decide) (off := 25) (by rw [h_5]; decide +kernel) (tgt := 40) rfl ?_
      refine sm_aload_n C 0 rfl dX9_bill_40 rfl ?_
      refine sm_getC C fo_9_10 rfl wd58 kd_0 dX9_bill_41 rfl (fun j_6 hj_6 => ?_)
      refine sm_getR C fo_0_11 rfl wd67 (kdC hj_6) dX9_bill_44 (rvC_11 hj_6 w) (nzC_4 hj_6) ?_
      refine sm_iload_n C 1 rfl dX9_bill_47 rfl ?_
      refine sm_iald C (kdC_4 hj_6) dX9_bill_48 (fun h_7 => ?_)
      exact sm_iret C E rfl dX9_bill_49
    refine sm_spl (P := x2 = 1) (fun h_8 => ?_) (fun h_8 => ?_)
    · refine sm_tabIn C dX9_bill_15 (by rw [h_8]; decide) (by rw [h_8]; decide) (off := 35) (by rw [h_8]; decide +kernel) (tgt := 50) rfl ?_
      refine sm_aload_n C 0 rfl dX9_bill_50 rfl ?_
      refine sm_getC C fo_9_10 rfl wd58 kd_0 dX9_bill_51 rfl (fun j_9 hj_9 => ?_)
      refine sm_getR C fo_0_12 rfl wd68 (kdC hj_9) dX9_bill_54 (rvC_12 hj_9 w) (nzC_5 hj_9) ?_
      refine sm_iload_n C 1 rfl dX9_bill_57 rfl ?_
      refine sm_iald C (kdC_5 hj_9) dX9_bill_58 (fun h_10 => ?_)
      exact sm_iret C E rfl dX9_bill_59
    refine sm_spl (P := x2 = 2) (fun h_11 => ?_) (fun h_11 => ?_)
    · refine sm_tabIn C dX9_bill_15 (by rw [h_11]; decide) (by rw [h_11]; decide) (off := 45) (by rw [h_11]; decide +kernel) (tgt := 60) rfl ?_
      refine sm_aload_n C 0 rfl dX9_bill_60 rfl ?_
      refine sm_getC C fo_9_10 rfl wd58 kd_0 dX9_bill_61 rfl (fun j_12 hj_12 => ?_)
      refine sm_getR C fo_0_13 rfl wd69 (kdC hj_12) dX9_bill_64 (rvC_13 hj_12 w) (nzC_6 hj_12) ?_
      refine sm_iload_n C 1 rfl dX9_bill_67 rfl ?_
      refine sm_iald C (kdC_6 hj_12) dX9_bill_68 (fun h_13 => ?_)
      exact sm_iret C E rfl dX9_bill_69
    refine sm_tabOut C dX9_bill_15 (tab_out3 h_5 h_8 h_11) (tgt := 70) rfl ?_
    refine sm_bipush C bp_m2 dX9_bill_70 ?_
    exact sm_iret C E rfl dX9_bill_72
/-! X0_isTold -/
set_option maxRecDepth 100000 in
set_option maxHeartbeats 4000000 in
theorem mX0_isTold {b : Bx} {w : HW} {k0 : Nat} (hk0 : isC k0 = true) {a : Int32} (h : fX0_isTold w k0 = some a) : Mt b yX0_isTold cX0_isTold 1 (some .boolean) 0 0 [.ref (bB b + k0)] w (some (.int a)) w := by
  refine Mt.of (ρI w) h (by decide) (Nat.le_of_ble_eq_true rfl) (fun G hG C E => ?_)
  subst hG
  have C : Cx G cX0_isTold RX0 1 0 0 := C
  change Sm G a 0 [(0, .ref (hB G + k0))] [] w _
  unfold fX0_isTold
  refine sm_aload_n C 0 rfl dX0_isTold_0 rfl ?_
  refine sm_getI C fo_0_0 rfl wd5 (kdC hk0) dX0_isTold_1 ?_
  refine sm_if_le C dX0_isTold_4 (tgt := 11) rfl (fun h_1 => ?_) (fun h_1 => ?_)
  · refine sm_iconst C ic_1 dX0_isTold_7 ?_
    refine sm_goto C dX0_isTold_8 (tgt := 12) rfl ?_
    exact sm_zret C E rfl rfl dX0_isTold_12
  · refine sm_iconst C ic_0 dX0_isTold_11 ?_
    exact sm_zret C E rfl rfl dX0_isTold_12
/-! X9_marks -/
set_option maxRecDepth 100000 in
set_option maxHeartbeats 4000000 in
theorem mX9_marks {b : Bx} {w : HW} {a : Int32} (h : fX9_marks w = some a) : Mt b yX9_marks cX9_marks 1 (some .int) 1 20 [.ref (bB b + 0)] w (some (.int a)) w := by
  refine Mt.of (ρI w) h (by decide) (Nat.le_of_ble_eq_true rfl) (fun G hG C E => ?_)
  subst hG
  have C : Cx G cX9_marks RX9 1 1 20 := C
  change Sm G a 0 [(0, .ref (hB G + 0))] [] w _
  unfold fX9_marks
  refine sm_aload_n C 0 rfl dX9_marks_0 rfl ?_
  refine sm_getC C fo_9_10 rfl wd58 kd_0 dX9_marks_1 rfl (fun j_1 hj_1 => ?_)
  refine sm_cVI (As := []) C cfX0_isTold wd70 (kdC hj_1) rfl rfl rfl rfl rfl dX9_marks_4 (fun r h => mX0_isTold hj_1 h) (fun r_2 => ?_)
  refine sm_if_eq C dX9_marks_7 (tgt := 20) rfl (fun h_4 => ?_) (fun h_4 => ?_)
  · refine sm_aload_n C 0 rfl dX9_marks_10 rfl ?_
    refine sm_getC C fo_9_10 rfl wd58 kd_0 dX9_marks_11 rfl (fun j_5 hj_5 => ?_)
    refine sm_getI C fo_0_5 rfl wd71 (kdC hj_5) dX9_marks_14 ?_
    refine sm_goto C dX9_marks_17 (tgt := 22) rfl ?_
    exact sm_iret C E rfl dX9_marks_22
  · refine sm_bipush C bp_m2 dX9_marks_20 ?_
    exact sm_iret C E rfl dX9_marks_22
/-! X9_isChoice -/
set_option maxRecDepth 100000 in
set_option maxHeartbeats 4000000 in
theorem mX9_isChoice {b : Bx} {w : HW} {x0 : Int32} {a : Int32} (h : fX9_isChoice w x0 = some a) : Mt b yX9_isChoice cX9_isChoice 1 (some .boolean) 0 0 [.int x0] w (some (.int a)) w := by
  refine Mt.of (ρI w) h (by decide) (Nat.le_of_ble_eq_true rfl) (fun G hG C E => ?_)
  subst hG
  have C : Cx G cX9_isChoice RX9 1 0 0 := C
  change Sm G a 0 [(0, .int x0)] [] w _
  unfold fX9_isChoice
  refine sm_iload_n C 0 rfl dX9_isChoice_0 rfl ?_
  refine sm_if_eq C dX9_isChoice_1 (tgt := 9) rfl (fun h_1 => ?_) (fun h_1 => ?_)
  · refine sm_iload_n C 0 rfl dX9_isChoice_4 rfl ?_
    refine sm_iconst C ic_1 dX9_isChoice_5 ?_
    refine sm_icmp_ne C dX9_isChoice_6 (tgt := 13) rfl (fun h_2 => ?_) (fun h_2 => ?_)
    · refine sm_iconst C ic_1 dX9_isChoice_9 ?_
      refine sm_goto C dX9_isChoice_10 (tgt := 14) rfl ?_
      exact sm_zret C E rfl rfl dX9_isChoice_14
    · refine sm_iconst C ic_0 dX9_isChoice_13 ?_
      exact sm_zret C E rfl rfl dX9_isChoice_14
  · refine sm_iconst C ic_1 dX9_isChoice_9 ?_
    refine sm_goto C dX9_isChoice_10 (tgt := 14) rfl ?_
    exact sm_zret C E rfl rfl dX9_isChoice_14
/-! X0_hasSide -/
set_option maxRecDepth 100000 in
set_option maxHeartbeats 4000000 in
theorem mX0_hasSide {b : Bx} {w : HW} {k0 : Nat} {x1 : Int32} (hk0 : isC k0 = true) {a : Int32} (h : fX0_hasSide w k0 x1 = some a) : Mt b yX0_hasSide cX0_hasSide 2 (some .boolean) 1 20 [.ref (bB b + k0), .int x1] w (some (.int a)) w := by
  refine Mt.of (ρI w) h (by decide) (Nat.le_of_ble_eq_true rfl) (fun G hG C E => ?_)
  subst hG
  have C : Cx G cX0_hasSide RX0 2 1 20 := C
  change Sm G a 0 [(0, .ref (hB G + k0)), (1, .int x1)] [] w _
  unfold fX0_hasSide
  refine sm_aload_n C 0 rfl dX0_hasSide_0 rfl ?_
  refine sm_cVI (As := []) C cfX0_isTold wd72 (kdC hk0) rfl rfl rfl rfl rfl dX0_hasSide_1 (fun r h => mX0_isTold hk0 h) (fun r_1 => ?_)
  refine sm_if_eq C dX0_hasSide_4 (tgt := 18) rfl (fun h_3 => ?_) (fun h_3 => ?_)
  · refine sm_iload_n C 1 rfl dX0_hasSide_7 rfl ?_
    refine sm_cNI (As := [.int x1]) C cfX9_isChoice 9 rfl rfl rfl rfl rfl dX0_hasSide_8 (fun r h => mX9_isChoice  h) (fun r_4 => ?_)
    refine sm_if_eq C dX0_hasSide_11 (tgt := 18) rfl (fun h_6 => ?_) (fun h_6 => ?_)
    · refine sm_iconst C ic_1 dX0_hasSide_14 ?_
      refine sm_goto C dX0_hasSide_15 (tgt := 19) rfl ?_
      exact sm_zret C E rfl rfl dX0_hasSide_19
    · refine sm_iconst C ic_0 dX0_hasSide_18 ?_
      exact sm_zret C E rfl rfl dX0_hasSide_19
  · refine sm_iconst C ic_0 dX0_hasSide_18 ?_
    exact sm_zret C E rfl rfl dX0_hasSide_19
/-! X0_augursOf -/
set_option maxRecDepth 100000 in
set_option maxHeartbeats 4000000 in
theorem sX0_augursOf_4 {G : Gx} {a : Int32} {w : HW} (C : Cx G cX0_augursOf RX0 4 0 0) (E : Rx G (ρI w) a (some .int)) {k0 : Nat} (hk0 : isC k0 = true) {x1 : Int32} : ∀ (n : Nat) (x2 : Int32) (x3 : Int32), Sm G a 4 [(0, .ref (hB G + k0)), (1, .int x1), (2, .int x2), (3, .int x3)] [] w (fX0_augursOf_4 w k0 x1 n x2 x3) := by
  intro n
  induction n with
  | zero => intro _ _; exact sm_none
  | succ n ih =>
    intro x2 x3
    rw [fX0_augursOf_4]
    refine sm_iload_n C 3 rfl dX0_augursOf_4 rfl ?_
    refine sm_aload_n C 0 rfl dX0_augursOf_5 rfl ?_
    refine sm_getI C fo_0_6 rfl wd11 (kdC hk0) dX0_augursOf_6 ?_
    refine sm_icmp_ge C dX0_augursOf_9 (tgt := 34) rfl (fun h_1 => ?_) (fun h_1 => ?_)
    · refine sm_aload_n C 0 rfl dX0_augursOf_12 rfl ?_
      refine sm_getR C fo_0_7 rfl wd73 (kdC hk0) dX0_augursOf_13 (rvC_7 hk0 w) (nzC_1 hk0) ?_
      refine sm_iload_n C 3 rfl dX0_augursOf_16 rfl ?_
      refine sm_iald C (kdC_1 hk0) dX0_augursOf_17 (fun h_2 => ?_)
      refine sm_iload_n C 1 rfl dX0_augursOf_18 rfl ?_
      refine sm_icmp_ne C dX0_augursOf_19 (tgt := 28) rfl (fun h_3 => ?_) (fun h_3 => ?_)
      · refine sm_iload_n C 2 rfl dX0_augursOf_22 rfl ?_
        refine sm_iconst C ic_1 dX0_augursOf_23 ?_
        refine sm_iload_n C 3 rfl dX0_augursOf_24 rfl ?_
        refine sm_ishl C dX0_augursOf_25 ?_
        refine sm_ior C dX0_augursOf_26 ?_
        refine sm_let (fun x2_4 => ?_)
        refine sm_istore_n (lv1 := [(2, .int x2_4), (0, .ref (hB G + k0)), (1, .int x1), (3, .int x3)]) C dX0_augursOf_27 rfl rfl rfl ?_
        refine sm_iinc (lv1 := [(3, .int (x3 + 1)), (2, .int x2_4), (0, .ref (hB G + k0)), (1, .int x1)]) C 3 rfl (iv_1 _) dX0_augursOf_28 rfl rfl ?_
        refine sm_goto C dX0_augursOf_31 (tgt := 4) rfl ?_
        refine sm_sub [2, 3, 1, 0] rfl ?_
        exact ih x2_4 (x3 + 1)
      · refine sm_iinc (lv1 := [(3, .int (x3 + 1)), (0, .ref (hB G + k0)), (1, .int x1), (2, .int x2)]) C 3 rfl (iv_1 _) dX0_augursOf_28 rfl rfl ?_
        refine sm_goto C dX0_augursOf_31 (tgt := 4) rfl ?_
        refine sm_sub [1, 2, 3, 0] rfl ?_
        exact ih x2 (x3 + 1)
    · refine sm_iload_n C 2 rfl dX0_augursOf_34 rfl ?_
      exact sm_iret C E rfl dX0_augursOf_35
set_option maxRecDepth 100000 in
set_option maxHeartbeats 4000000 in
theorem mX0_augursOf {b : Bx} {w : HW} {k0 : Nat} {x1 : Int32} (hk0 : isC k0 = true) {a : Int32} (h : fX0_augursOf w k0 x1 = some a) : Mt b yX0_augursOf cX0_augursOf 4 (some .int) 0 0 [.ref (bB b + k0), .int x1] w (some (.int a)) w := by
  refine Mt.of (ρI w) h (by decide) (Nat.le_of_ble_eq_true rfl) (fun G hG C E => ?_)
  subst hG
  have C : Cx G cX0_augursOf RX0 4 0 0 := C
  change Sm G a 0 [(0, .ref (hB G + k0)), (1, .int x1)] [] w _
  unfold fX0_augursOf
  refine sm_iconst C ic_0 dX0_augursOf_0 ?_
  refine sm_istore_n (lv1 := [(2, .int 0), (0, .ref (hB G + k0)), (1, .int x1)]) C dX0_augursOf_1 rfl rfl rfl ?_
  refine sm_iconst C ic_0 dX0_augursOf_2 ?_
  refine sm_istore_n (lv1 := [(3, .int 0), (2, .int 0), (0, .ref (hB G + k0)), (1, .int x1)]) C dX0_augursOf_3 rfl rfl rfl ?_
  refine sm_sub [2, 3, 1, 0] rfl ?_
  exact sX0_augursOf_4 C E hk0 FU 0 0
/-! X9_holds -/
set_option maxRecDepth 100000 in
set_option maxHeartbeats 4000000 in
theorem mX9_holds {b : Bx} {w : HW} {x0 : Int32} {x1 : Int32} {a : Int32} (h : fX9_holds w x0 x1 = some a) : Mt b yX9_holds cX9_holds 2 (some .boolean) 0 0 [.int x0, .int x1] w (some (.int a)) w := by
  refine Mt.of (ρI w) h (by decide) (Nat.le_of_ble_eq_true rfl) (fun G hG C E => ?_)
  subst hG
  have C : Cx G cX9_holds RX9 2 0 0 := C
  change Sm G a 0 [(0, .int x0), (1, .int x1)] [] w _
  unfold fX9_holds
  refine sm_iload_n C 0 rfl dX9_holds_0 rfl ?_
  refine sm_iload_n C 1 rfl dX9_holds_1 rfl ?_
  refine sm_ishr C dX9_holds_2 ?_
  refine sm_iconst C ic_1 dX9_holds_3 ?_
  refine sm_iand C dX9_holds_4 ?_
  refine sm_if_eq C dX9_holds_5 (tgt := 12) rfl (fun h_1 => ?_) (fun h_1 => ?_)
  · refine sm_iconst C ic_1 dX9_holds_8 ?_
    refine sm_goto C dX9_holds_9 (tgt := 13) rfl ?_
    exact sm_zret C E rfl rfl dX9_holds_13
  · refine sm_iconst C ic_0 dX9_holds_12 ?_
    exact sm_zret C E rfl rfl dX9_holds_13
/-! X0_daysOfAugur -/
set_option maxRecDepth 100000 in
set_option maxHeartbeats 4000000 in
theorem mX0_daysOfAugur {b : Bx} {w : HW} {k0 : Nat} {x1 : Int32} (hk0 : isC k0 = true) {a : Int32} (h : fX0_daysOfAugur w k0 x1 = some a) : Mt b yX0_daysOfAugur cX0_daysOfAugur 2 (some .int) 0 0 [.ref (bB b + k0), .int x1] w (some (.int a)) w := by
  refine Mt.of (ρI w) h (by decide) (Nat.le_of_ble_eq_true rfl) (fun G hG C E => ?_)
  subst hG
  have C : Cx G cX0_daysOfAugur RX0 2 0 0 := C
  change Sm G a 0 [(0, .ref (hB G + k0)), (1, .int x1)] [] w _
  unfold fX0_daysOfAugur
  refine sm_iconst C ic_2 dX0_daysOfAugur_0 ?_
  refine sm_aload_n C 0 rfl dX0_daysOfAugur_1 rfl ?_
  refine sm_getR C fo_0_9 rfl wd74 (kdC hk0) dX0_daysOfAugur_2 (rvC_9 hk0 w) (nzC_3 hk0) ?_
  refine sm_iload_n C 1 rfl dX0_daysOfAugur_5 rfl ?_
  refine sm_iald C (kdC_3 hk0) dX0_daysOfAugur_6 (fun h_1 => ?_)
  refine sm_ishl C dX0_daysOfAugur_7 ?_
  refine sm_iconst C ic_1 dX0_daysOfAugur_8 ?_
  refine sm_aload_n C 0 rfl dX0_daysOfAugur_9 rfl ?_
  refine sm_getR C fo_0_8 rfl wd75 (kdC hk0) dX0_daysOfAugur_10 (rvC_8 hk0 w) (nzC_2 hk0) ?_
  refine sm_iload_n C 1 rfl dX0_daysOfAugur_13 rfl ?_
  refine sm_iald C (kdC_2 hk0) dX0_daysOfAugur_14 (fun h_2 => ?_)
  refine sm_ishl C dX0_daysOfAugur_15 ?_
  refine sm_isub C dX0_daysOfAugur_16 ?_
  exact sm_iret C E rfl dX0_daysOfAugur_17
/-! X0_skyOf -/
set_option maxRecDepth 100000 in
set_option maxHeartbeats 4000000 in
theorem sX0_skyOf_4 {G : Gx} {a : Int32} {w : HW} (C : Cx G cX0_skyOf RX0 4 1 21) (E : Rx G (ρI w) a (some .int)) {k0 : Nat} (hk0 : isC k0 = true) {x1 : Int32} : ∀ (n : Nat) (x2 : Int32) (x3 : Int32), Sm G a 4 [(0, .ref (hB G + k0)), (1, .int x1), (2, .int x2), (3, .int x3)] [] w (fX0_skyOf_4 w k0 x1 n x2 x3) := by
  intro n
  induction n with
  | zero => intro _ _; exact sm_none
  | succ n ih =>
    intro x2 x3
    rw [fX0_skyOf_4]
    refine sm_iload_n C 3 rfl dX0_skyOf_4 rfl ?_
    refine sm_aload_n C 0 rfl dX0_skyOf_5 rfl ?_
    refine sm_getI C fo_0_6 rfl wd11 (kdC hk0) dX0_skyOf_6 ?_
    refine sm_icmp_ge C dX0_skyOf_9 (tgt := 34) rfl (fun h_1 => ?_) (fun h_1 => ?_)
    · refine sm_iload_n C 1 rfl dX0_skyOf_12 rfl ?_
      refine sm_iload_n C 3 rfl dX0_skyOf_13 rfl ?_
      refine sm_cNI (As := [.int x1, .int x3]) C cfX9_holds 10 rfl rfl rfl rfl rfl dX0_skyOf_14 (fun r h => mX9_holds  h) (fun r_2 => ?_)
      refine sm_if_eq C dX0_skyOf_17 (tgt := 28) rfl (fun h_4 => ?_) (fun h_4 => ?_)
      · refine sm_iload_n C 2 rfl dX0_skyOf_20 rfl ?_
        refine sm_aload_n C 0 rfl dX0_skyOf_21 rfl ?_
        refine sm_iload_n C 3 rfl dX0_skyOf_22 rfl ?_
        refine sm_cVI (As := [.int x3]) C cfX0_daysOfAugur wd76 (kdC hk0) rfl rfl rfl rfl rfl dX0_skyOf_23 (fun r h => mX0_daysOfAugur hk0 h) (fun r_5 => ?_)
        refine sm_ior C dX0_skyOf_26 ?_
        refine sm_let (fun x2_7 => ?_)
        refine sm_istore_n (lv1 := [(2, .int x2_7), (0, .ref (hB G + k0)), (1, .int x1), (3, .int x3)]) C dX0_skyOf_27 rfl rfl rfl ?_
        refine sm_iinc (lv1 := [(3, .int (x3 + 1)), (2, .int x2_7), (0, .ref (hB G + k0)), (1, .int x1)]) C 3 rfl (iv_1 _) dX0_skyOf_28 rfl rfl ?_
        refine sm_goto C dX0_skyOf_31 (tgt := 4) rfl ?_
        refine sm_sub [2, 3, 1, 0] rfl ?_
        exact ih x2_7 (x3 + 1)
      · refine sm_iinc (lv1 := [(3, .int (x3 + 1)), (0, .ref (hB G + k0)), (1, .int x1), (2, .int x2)]) C 3 rfl (iv_1 _) dX0_skyOf_28 rfl rfl ?_
        refine sm_goto C dX0_skyOf_31 (tgt := 4) rfl ?_
        refine sm_sub [1, 2, 3, 0] rfl ?_
        exact ih x2 (x3 + 1)
    · refine sm_iload_n C 2 rfl dX0_skyOf_34 rfl ?_
      exact sm_iret C E rfl dX0_skyOf_35
set_option maxRecDepth 100000 in
set_option maxHeartbeats 4000000 in
theorem mX0_skyOf {b : Bx} {w : HW} {k0 : Nat} {x1 : Int32} (hk0 : isC k0 = true) {a : Int32} (h : fX0_skyOf w k0 x1 = some a) : Mt b yX0_skyOf cX0_skyOf 4 (some .int) 1 21 [.ref (bB b + k0), .int x1] w (some (.int a)) w := by
  refine Mt.of (ρI w) h (by decide) (Nat.le_of_ble_eq_true rfl) (fun G hG C E => ?_)
  subst hG
  have C : Cx G cX0_skyOf RX0 4 1 21 := C
  change Sm G a 0 [(0, .ref (hB G + k0)), (1, .int x1)] [] w _
  unfold fX0_skyOf
  refine sm_iconst C ic_0 dX0_skyOf_0 ?_
  refine sm_istore_n (lv1 := [(2, .int 0), (0, .ref (hB G + k0)), (1, .int x1)]) C dX0_skyOf_1 rfl rfl rfl ?_
  refine sm_iconst C ic_0 dX0_skyOf_2 ?_
  refine sm_istore_n (lv1 := [(3, .int 0), (2, .int 0), (0, .ref (hB G + k0)), (1, .int x1)]) C dX0_skyOf_3 rfl rfl rfl ?_
  refine sm_sub [2, 3, 1, 0] rfl ?_
  exact sX0_skyOf_4 C E hk0 FU 0 0
/-! X9_sky -/
set_option maxRecDepth 100000 in
set_option maxHeartbeats 4000000 in
theorem mX9_sky {b : Bx} {w : HW} {x1 : Int32} {a : Int32} (h : fX9_sky w x1 = some a) : Mt b yX9_sky cX9_sky 2 (some .int) 2 44 [.ref (bB b + 0), .int x1] w (some (.int a)) w := by
  refine Mt.of (ρI w) h (by decide) (Nat.le_of_ble_eq_true rfl) (fun G hG C E => ?_)
  subst hG
  have C : Cx G cX9_sky RX9 2 2 44 := C
  change Sm G a 0 [(0, .ref (hB G + 0)), (1, .int x1)] [] w _
  unfold fX9_sky
  refine sm_aload_n C 0 rfl dX9_sky_0 rfl ?_
  refine sm_getC C fo_9_10 rfl wd58 kd_0 dX9_sky_1 rfl (fun j_1 hj_1 => ?_)
  refine sm_iload_n C 1 rfl dX9_sky_4 rfl ?_
  refine sm_cVI (As := [.int x1]) C cfX0_hasSide wd77 (kdC hj_1) rfl rfl rfl rfl rfl dX9_sky_5 (fun r h => mX0_hasSide hj_1 h) (fun r_2 => ?_)
  refine sm_if_eq C dX9_sky_8 (tgt := 29) rfl (fun h_4 => ?_) (fun h_4 => ?_)
  · refine sm_aload_n C 0 rfl dX9_sky_11 rfl ?_
    refine sm_getC C fo_9_10 rfl wd58 kd_0 dX9_sky_12 rfl (fun j_5 hj_5 => ?_)
    refine sm_aload_n C 0 rfl dX9_sky_15 rfl ?_
    refine sm_getC C fo_9_10 rfl wd58 kd_0 dX9_sky_16 rfl (fun j_6 hj_6 => ?_)
    refine sm_iload_n C 1 rfl dX9_sky_19 rfl ?_
    refine sm_cVI (As := [.int x1]) C cfX0_augursOf wd78 (kdC hj_6) rfl rfl rfl rfl rfl dX9_sky_20 (fun r h => mX0_augursOf hj_6 h) (fun r_7 => ?_)
    refine sm_cVI (As := [.int r_7]) C cfX0_skyOf wd79 (kdC hj_5) rfl rfl rfl rfl rfl dX9_sky_23 (fun r h => mX0_skyOf hj_5 h) (fun r_9 => ?_)
    refine sm_goto C dX9_sky_26 (tgt := 31) rfl ?_
    exact sm_iret C E rfl dX9_sky_31
  · refine sm_bipush C bp_m2 dX9_sky_29 ?_
    exact sm_iret C E rfl dX9_sky_31
/-! X0_hasDay -/
set_option maxRecDepth 100000 in
set_option maxHeartbeats 4000000 in
theorem mX0_hasDay {b : Bx} {w : HW} {k0 : Nat} {x1 : Int32} (hk0 : isC k0 = true) {a : Int32} (h : fX0_hasDay w k0 x1 = some a) : Mt b yX0_hasDay cX0_hasDay 2 (some .boolean) 0 0 [.ref (bB b + k0), .int x1] w (some (.int a)) w := by
  refine Mt.of (ρI w) h (by decide) (Nat.le_of_ble_eq_true rfl) (fun G hG C E => ?_)
  subst hG
  have C : Cx G cX0_hasDay RX0 2 0 0 := C
  change Sm G a 0 [(0, .ref (hB G + k0)), (1, .int x1)] [] w _
  unfold fX0_hasDay
  refine sm_iload_n C 1 rfl dX0_hasDay_0 rfl ?_
  refine sm_if_lt C dX0_hasDay_1 (tgt := 16) rfl (fun h_1 => ?_) (fun h_1 => ?_)
  · refine sm_iload_n C 1 rfl dX0_hasDay_4 rfl ?_
    refine sm_aload_n C 0 rfl dX0_hasDay_5 rfl ?_
    refine sm_getI C fo_0_1 rfl wd6 (kdC hk0) dX0_hasDay_6 ?_
    refine sm_icmp_ge C dX0_hasDay_9 (tgt := 16) rfl (fun h_2 => ?_) (fun h_2 => ?_)
    · refine sm_iconst C ic_1 dX0_hasDay_12 ?_
      refine sm_goto C dX0_hasDay_13 (tgt := 17) rfl ?_
      exact sm_zret C E rfl rfl dX0_hasDay_17
    · refine sm_iconst C ic_0 dX0_hasDay_16 ?_
      exact sm_zret C E rfl rfl dX0_hasDay_17
  · refine sm_iconst C ic_0 dX0_hasDay_16 ?_
    exact sm_zret C E rfl rfl dX0_hasDay_17
/-! X0_augursOn -/
set_option maxRecDepth 100000 in
set_option maxHeartbeats 4000000 in
theorem sX0_augursOn_4 {G : Gx} {a : Int32} {w : HW} (C : Cx G cX0_augursOn RX0 4 1 21) (E : Rx G (ρI w) a (some .int)) {k0 : Nat} (hk0 : isC k0 = true) {x1 : Int32} : ∀ (n : Nat) (x2 : Int32) (x3 : Int32), Sm G a 4 [(0, .ref (hB G + k0)), (1, .int x1), (2, .int x2), (3, .int x3)] [] w (fX0_augursOn_4 w k0 x1 n x2 x3) := by
  intro n
  induction n with
  | zero => intro _ _; exact sm_none
  | succ n ih =>
    intro x2 x3
    rw [fX0_augursOn_4]
    refine sm_iload_n C 3 rfl dX0_augursOn_4 rfl ?_
    refine sm_aload_n C 0 rfl dX0_augursOn_5 rfl ?_
    refine sm_getI C fo_0_6 rfl wd11 (kdC hk0) dX0_augursOn_6 ?_
    refine sm_icmp_ge C dX0_augursOn_9 (tgt := 36) rfl (fun h_1 => ?_) (fun h_1 => ?_)
    · refine sm_aload_n C 0 rfl dX0_augursOn_12 rfl ?_
      refine sm_iload_n C 3 rfl dX0_augursOn_13 rfl ?_
      refine sm_cVI (As := [.int x3]) C cfX0_daysOfAugur wd76 (kdC hk0) rfl rfl rfl rfl rfl dX0_augursOn_14 (fun r h => mX0_daysOfAugur hk0 h) (fun r_2 => ?_)
      refine sm_iload_n C 1 rfl dX0_augursOn_17 rfl ?_
      refine sm_cNI (As := [.int r_2, .int x1]) C cfX9_holds 10 rfl rfl rfl rfl rfl dX0_augursOn_18 (fun r h => mX9_holds  h) (fun r_4 => ?_)
      refine sm_if_eq C dX0_augursOn_21 (tgt := 30) rfl (fun h_6 => ?_) (fun h_6 => ?_)
      · refine sm_iload_n C 2 rfl dX0_augursOn_24 rfl ?_
        refine sm_iconst C ic_1 dX0_augursOn_25 ?_
        refine sm_iload_n C 3 rfl dX0_augursOn_26 rfl ?_
        refine sm_ishl C dX0_augursOn_27 ?_
        refine sm_ior C dX0_augursOn_28 ?_
        refine sm_let (fun x2_7 => ?_)
        refine sm_istore_n (lv1 := [(2, .int x2_7), (0, .ref (hB G + k0)), (1, .int x1), (3, .int x3)]) C dX0_augursOn_29 rfl rfl rfl ?_
        refine sm_iinc (lv1 := [(3, .int (x3 + 1)), (2, .int x2_7), (0, .ref (hB G + k0)), (1, .int x1)]) C 3 rfl (iv_1 _) dX0_augursOn_30 rfl rfl ?_
        refine sm_goto C dX0_augursOn_33 (tgt := 4) rfl ?_
        refine sm_sub [2, 3, 1, 0] rfl ?_
        exact ih x2_7 (x3 + 1)
      · refine sm_iinc (lv1 := [(3, .int (x3 + 1)), (0, .ref (hB G + k0)), (1, .int x1), (2, .int x2)]) C 3 rfl (iv_1 _) dX0_augursOn_30 rfl rfl ?_
        refine sm_goto C dX0_augursOn_33 (tgt := 4) rfl ?_
        refine sm_sub [1, 2, 3, 0] rfl ?_
        exact ih x2 (x3 + 1)
    · refine sm_iload_n C 2 rfl dX0_augursOn_36 rfl ?_
      exact sm_iret C E rfl dX0_augursOn_37
set_option maxRecDepth 100000 in
set_option maxHeartbeats 4000000 in
theorem mX0_augursOn {b : Bx} {w : HW} {k0 : Nat} {x1 : Int32} (hk0 : isC k0 = true) {a : Int32} (h : fX0_augursOn w k0 x1 = some a) : Mt b yX0_augursOn cX0_augursOn 4 (some .int) 1 21 [.ref (bB b + k0), .int x1] w (some (.int a)) w := by
  refine Mt.of (ρI w) h (by decide) (Nat.le_of_ble_eq_true rfl) (fun G hG C E => ?_)
  subst hG
  have C : Cx G cX0_augursOn RX0 4 1 21 := C
  change Sm G a 0 [(0, .ref (hB G + k0)), (1, .int x1)] [] w _
  unfold fX0_augursOn
  refine sm_iconst C ic_0 dX0_augursOn_0 ?_
  refine sm_istore_n (lv1 := [(2, .int 0), (0, .ref (hB G + k0)), (1, .int x1)]) C dX0_augursOn_1 rfl rfl rfl ?_
  refine sm_iconst C ic_0 dX0_augursOn_2 ?_
  refine sm_istore_n (lv1 := [(3, .int 0), (2, .int 0), (0, .ref (hB G + k0)), (1, .int x1)]) C dX0_augursOn_3 rfl rfl rfl ?_
  refine sm_sub [2, 3, 1, 0] rfl ?_
  exact sX0_augursOn_4 C E hk0 FU 0 0
/-! X9_watch -/
set_option maxRecDepth 100000 in
set_option maxHeartbeats 4000000 in
theorem mX9_watch {b : Bx} {w : HW} {x1 : Int32} {a : Int32} (h : fX9_watch w x1 = some a) : Mt b yX9_watch cX9_watch 2 (some .int) 2 44 [.ref (bB b + 0), .int x1] w (some (.int a)) w := by
  refine Mt.of (ρI w) h (by decide) (Nat.le_of_ble_eq_true rfl) (fun G hG C E => ?_)
  subst hG
  have C : Cx G cX9_watch RX9 2 2 44 := C
  change Sm G a 0 [(0, .ref (hB G + 0)), (1, .int x1)] [] w _
  unfold fX9_watch
  refine sm_aload_n C 0 rfl dX9_watch_0 rfl ?_
  refine sm_getC C fo_9_10 rfl wd58 kd_0 dX9_watch_1 rfl (fun j_1 hj_1 => ?_)
  refine sm_iload_n C 1 rfl dX9_watch_4 rfl ?_
  refine sm_cVI (As := [.int x1]) C cfX0_hasDay wd80 (kdC hj_1) rfl rfl rfl rfl rfl dX9_watch_5 (fun r h => mX0_hasDay hj_1 h) (fun r_2 => ?_)
  refine sm_if_eq C dX9_watch_8 (tgt := 22) rfl (fun h_4 => ?_) (fun h_4 => ?_)
  · refine sm_aload_n C 0 rfl dX9_watch_11 rfl ?_
    refine sm_getC C fo_9_10 rfl wd58 kd_0 dX9_watch_12 rfl (fun j_5 hj_5 => ?_)
    refine sm_iload_n C 1 rfl dX9_watch_15 rfl ?_
    refine sm_cVI (As := [.int x1]) C cfX0_augursOn wd81 (kdC hj_5) rfl rfl rfl rfl rfl dX9_watch_16 (fun r h => mX0_augursOn hj_5 h) (fun r_6 => ?_)
    refine sm_goto C dX9_watch_19 (tgt := 24) rfl ?_
    exact sm_iret C E rfl dX9_watch_24
  · refine sm_bipush C bp_m2 dX9_watch_22 ?_
    exact sm_iret C E rfl dX9_watch_24
/-! X0_allDays -/
set_option maxRecDepth 100000 in
set_option maxHeartbeats 4000000 in
theorem mX0_allDays {b : Bx} {w : HW} {k0 : Nat} (hk0 : isC k0 = true) {a : Int32} (h : fX0_allDays w k0 = some a) : Mt b yX0_allDays cX0_allDays 1 (some .int) 0 0 [.ref (bB b + k0)] w (some (.int a)) w := by
  refine Mt.of (ρI w) h (by decide) (Nat.le_of_ble_eq_true rfl) (fun G hG C E => ?_)
  subst hG
  have C : Cx G cX0_allDays RX0 1 0 0 := C
  change Sm G a 0 [(0, .ref (hB G + k0))] [] w _
  unfold fX0_allDays
  refine sm_iconst C ic_1 dX0_allDays_0 ?_
  refine sm_aload_n C 0 rfl dX0_allDays_1 rfl ?_
  refine sm_getI C fo_0_1 rfl wd6 (kdC hk0) dX0_allDays_2 ?_
  refine sm_ishl C dX0_allDays_5 ?_
  refine sm_iconst C ic_1 dX0_allDays_6 ?_
  refine sm_isub C dX0_allDays_7 ?_
  exact sm_iret C E rfl dX0_allDays_8
/-! X0_clearDays -/
set_option maxRecDepth 100000 in
set_option maxHeartbeats 4000000 in
theorem mX0_clearDays {b : Bx} {w : HW} {k0 : Nat} {x1 : Int32} (hk0 : isC k0 = true) {a : Int32} (h : fX0_clearDays w k0 x1 = some a) : Mt b yX0_clearDays cX0_clearDays 2 (some .int) 2 44 [.ref (bB b + k0), .int x1] w (some (.int a)) w := by
  refine Mt.of (ρI w) h (by decide) (Nat.le_of_ble_eq_true rfl) (fun G hG C E => ?_)
  subst hG
  have C : Cx G cX0_clearDays RX0 2 2 44 := C
  change Sm G a 0 [(0, .ref (hB G + k0)), (1, .int x1)] [] w _
  unfold fX0_clearDays
  refine sm_aload_n C 0 rfl dX0_clearDays_0 rfl ?_
  refine sm_cVI (As := []) C cfX0_allDays wd82 (kdC hk0) rfl rfl rfl rfl rfl dX0_clearDays_1 (fun r h => mX0_allDays hk0 h) (fun r_1 => ?_)
  refine sm_aload_n C 0 rfl dX0_clearDays_4 rfl ?_
  refine sm_getI C fo_0_5 rfl wd10 (kdC hk0) dX0_clearDays_5 ?_
  refine sm_iconst C ic_m1 dX0_clearDays_8 ?_
  refine sm_ixor C dX0_clearDays_9 ?_
  refine sm_iand C dX0_clearDays_10 ?_
  refine sm_aload_n C 0 rfl dX0_clearDays_11 rfl ?_
  refine sm_aload_n C 0 rfl dX0_clearDays_12 rfl ?_
  refine sm_iconst C ic_1 dX0_clearDays_13 ?_
  refine sm_iload_n C 1 rfl dX0_clearDays_14 rfl ?_
  refine sm_isub C dX0_clearDays_15 ?_
  refine sm_cVI (As := [.int (1 - x1)]) C cfX0_augursOf wd83 (kdC hk0) rfl rfl rfl rfl rfl dX0_clearDays_16 (fun r h => mX0_augursOf hk0 h) (fun r_3 => ?_)
  refine sm_cVI (As := [.int r_3]) C cfX0_skyOf wd84 (kdC hk0) rfl rfl rfl rfl rfl dX0_clearDays_19 (fun r h => mX0_skyOf hk0 h) (fun r_5 => ?_)
  refine sm_iconst C ic_m1 dX0_clearDays_22 ?_
  refine sm_ixor C dX0_clearDays_23 ?_
  refine sm_iand C dX0_clearDays_24 ?_
  exact sm_iret C E rfl dX0_clearDays_25
/-! X6_layOut -/
set_option maxRecDepth 100000 in
set_option maxHeartbeats 4000000 in
theorem sX6_layOut_86 {G : Gx} {a : HW} (C : Cx G cX6_layOut RX6 4 3 65) (E : Rx G ρW a (none)) {k1 : Nat} (hk1 : isC k1 = true) : ∀ (n : Nat) (w : HW) (x2 : Int32), Sm G a 86 [(0, .ref (hB G + 4)), (1, .ref (hB G + k1)), (2, .int x2)] [] w (fX6_layOut_86 k1 n w x2) := by
  intro n
  induction n with
  | zero => intro _ _; exact sm_none
  | succ n ih =>
    intro w x2
    rw [fX6_layOut_86]
    refine sm_iload_n C 2 rfl dX6_layOut_86 rfl ?_
    refine sm_aload_n C 1 rfl dX6_layOut_87 rfl ?_
    refine sm_getI C fo_0_14 rfl wd92 (kdC hk1) dX6_layOut_88 ?_
    refine sm_icmp_ge C dX6_layOut_91 (tgt := 128) rfl (fun h_20 => ?_) (fun h_20 => ?_)
    · refine sm_aload_n C 1 rfl dX6_layOut_94 rfl ?_
      refine sm_getR C fo_0_16 rfl wd93 (kdC hk1) dX6_layOut_95 (rvC_16 hk1 w) (nzC_8 hk1) ?_
      refine sm_iload_n C 2 rfl dX6_layOut_98 rfl ?_
      refine sm_iald C (kdC_8 hk1) dX6_layOut_99 (fun h_21 => ?_)
      refine sm_let (fun x3_22 => ?_)
      refine sm_istore_n (lv1 := [(3, .int x3_22), (0, .ref (hB G + 4)), (1, .ref (hB G + k1)), (2, .int x2)]) C dX6_layOut_100 rfl rfl rfl ?_
      refine sm_aload_n C 1 rfl dX6_layOut_101 rfl ?_
      refine sm_getR C fo_6_5 rfl wd88 kd_4 dX6_layOut_102 (rv_4_5 w) (by decide) ?_
      refine sm_aload_n C 2 rfl dX6_layOut_105 rfl ?_
      refine sm_getR C fo_0_15 rfl wd94 (kdC hk1) dX6_layOut_106 (rvC_15 hk1 w) (nzC_7 hk1) ?_
      refine sm_iload_n C 3 rfl dX6_layOut_109 rfl ?_
      refine sm_iald C (kdC_7 hk1) dX6_layOut_110 (fun h_23 => ?_)
      refine sm_iload_n C 0 rfl dX6_layOut_111 rfl ?_
      refine sm_iconst C ic_m1 dX6_layOut_112 ?_
      refine sm_icmp_ne C dX6_layOut_113 (tgt := 120) rfl (fun h_24 => ?_) (fun h_24 => ?_)
      · refine sm_iconst C ic_m1 dX6_layOut_116 ?_
        refine sm_goto C dX6_layOut_117 (tgt := 121) rfl ?_
        refine sm_iast C kd_9 dX6_layOut_121 (fun h_25 w_26 => ?_)
        refine sm_iinc (lv1 := [(2, .int (x2 + 1)), (3, .int x3_22), (0, .ref (hB G + 4)), (1, .ref (hB G + k1))]) C 3 rfl (iv_1 _) dX6_layOut_122 rfl rfl ?_
        refine sm_goto C dX6_layOut_125 (tgt := 86) rfl ?_
        refine sm_sub [2, 3, 0] rfl ?_
        exact ih w_26 (x2 + 1)
      · refine sm_iload_n C 0 rfl dX6_layOut_120 rfl ?_
        refine sm_iast C kd_9 dX6_layOut_121 (fun h_27 w_28 => ?_)
        refine sm_iinc (lv1 := [(2, .int (x2 + 1)), (3, .int x3_22), (0, .ref (hB G + 4)), (1, .ref (hB G + k1))]) C 3 rfl (iv_1 _) dX6_layOut_122 rfl rfl ?_
        refine sm_goto C dX6_layOut_125 (tgt := 86) rfl ?_
        refine sm_sub [2, 3, 0] rfl ?_
        exact ih w_28 (x2 + 1)
    · exact sm_vret C E rfl dX6_layOut_128
set_option maxRecDepth 100000 in
set_option maxHeartbeats 4000000 in
theorem sX6_layOut_51 {G : Gx} {a : HW} (C : Cx G cX6_layOut RX6 4 3 65) (E : Rx G ρW a (none)) {k1 : Nat} (hk1 : isC k1 = true) : ∀ (n : Nat) (w : HW) (x2 : Int32), Sm G a 51 [(0, .ref (hB G + 4)), (1, .ref (hB G + k1)), (2, .int x2)] [] w (fX6_layOut_51 k1 n w x2) := by
  intro n
  induction n with
  | zero => intro _ _; exact sm_none
  | succ n ih =>
    intro w x2
    rw [fX6_layOut_51]
    refine sm_iload_n C 2 rfl dX6_layOut_51 rfl ?_
    refine sm_bipush C bp_8 dX6_layOut_52 ?_
    refine sm_icmp_ge C dX6_layOut_54 (tgt := 84) rfl (fun h_13 => ?_) (fun h_13 => ?_)
    · refine sm_aload_n C 0 rfl dX6_layOut_57 rfl ?_
      refine sm_getR C fo_6_1 rfl wd89 kd_4 dX6_layOut_58 (rv_4_1 w) (by decide) ?_
      refine sm_iload_n C 2 rfl dX6_layOut_61 rfl ?_
      refine sm_iconst C ic_m1 dX6_layOut_62 ?_
      refine sm_iast C kd_6 dX6_layOut_63 (fun h_14 w_15 => ?_)
      refine sm_aload_n C 0 rfl dX6_layOut_64 rfl ?_
      refine sm_getR C fo_6_2 rfl wd90 kd_4 dX6_layOut_65 (rv_4_2 w_15) (by decide) ?_
      refine sm_iload_n C 2 rfl dX6_layOut_68 rfl ?_
      refine sm_iconst C ic_m1 dX6_layOut_69 ?_
      refine sm_iast C kd_7 dX6_layOut_70 (fun h_16 w_17 => ?_)
      refine sm_aload_n C 0 rfl dX6_layOut_71 rfl ?_
      refine sm_getR C fo_6_3 rfl wd91 kd_4 dX6_layOut_72 (rv_4_3 w_17) (by decide) ?_
      refine sm_iload_n C 2 rfl dX6_layOut_75 rfl ?_
      refine sm_iconst C ic_m1 dX6_layOut_76 ?_
      refine sm_iast C kd_8 dX6_layOut_77 (fun h_18 w_19 => ?_)
      refine sm_iinc (lv1 := [(2, .int (x2 + 1)), (0, .ref (hB G + 4)), (1, .ref (hB G + k1))]) C 2 rfl (iv_1 _) dX6_layOut_78 rfl rfl ?_
      refine sm_goto C dX6_layOut_81 (tgt := 51) rfl ?_
      refine sm_sub [1, 2, 0] rfl ?_
      exact ih w_19 (x2 + 1)
    · refine sm_iconst C ic_0 dX6_layOut_84 ?_
      refine sm_istore_n (lv1 := [(2, .int 0), (0, .ref (hB G + 4)), (1, .ref (hB G + k1))]) C dX6_layOut_85 rfl rfl rfl ?_
      refine sm_sub [1, 2, 0] rfl ?_
      exact sX6_layOut_86 C E hk1 FU w 0
set_option maxRecDepth 100000 in
set_option maxHeartbeats 4000000 in
theorem sX6_layOut_29 {G : Gx} {a : HW} (C : Cx G cX6_layOut RX6 4 3 65) (E : Rx G ρW a (none)) {k1 : Nat} (hk1 : isC k1 = true) : ∀ (n : Nat) (w : HW) (x2 : Int32), Sm G a 29 [(0, .ref (hB G + 4)), (1, .ref (hB G + k1)), (2, .int x2)] [] w (fX6_layOut_29 k1 n w x2) := by
  intro n
  induction n with
  | zero => intro _ _; exact sm_none
  | succ n ih =>
    intro w x2
    rw [fX6_layOut_29]
    refine sm_iload_n C 2 rfl dX6_layOut_29 rfl ?_
    refine sm_bipush C bp_14 dX6_layOut_30 ?_
    refine sm_icmp_ge C dX6_layOut_32 (tgt := 49) rfl (fun h_10 => ?_) (fun h_10 => ?_)
    · refine sm_aload_n C 0 rfl dX6_layOut_35 rfl ?_
      refine sm_getR C fo_6_5 rfl wd88 kd_4 dX6_layOut_36 (rv_4_5 w) (by decide) ?_
      refine sm_iload_n C 2 rfl dX6_layOut_39 rfl ?_
      refine sm_bipush C bp_m2 dX6_layOut_40 ?_
      refine sm_iast C kd_9 dX6_layOut_42 (fun h_11 w_12 => ?_)
      refine sm_iinc (lv1 := [(2, .int (x2 + 1)), (0, .ref (hB G + 4)), (1, .ref (hB G + k1))]) C 2 rfl (iv_1 _) dX6_layOut_43 rfl rfl ?_
      refine sm_goto C dX6_layOut_46 (tgt := 29) rfl ?_
      refine sm_sub [1, 2, 0] rfl ?_
      exact ih w_12 (x2 + 1)
    · refine sm_iconst C ic_0 dX6_layOut_49 ?_
      refine sm_istore_n (lv1 := [(2, .int 0), (0, .ref (hB G + 4)), (1, .ref (hB G + k1))]) C dX6_layOut_50 rfl rfl rfl ?_
      refine sm_sub [1, 2, 0] rfl ?_
      exact sX6_layOut_51 C E hk1 FU w 0
set_option maxRecDepth 100000 in
set_option maxHeartbeats 4000000 in
theorem mX6_layOut {b : Bx} {w : HW} {k1 : Nat} (hk1 : isC k1 = true) {a : HW} (h : fX6_layOut w k1 = some a) : Mt b yX6_layOut cX6_layOut 4 (none) 3 65 [.ref (bB b + 4), .ref (bB b + k1)] w none a := by
  refine Mt.of ρW h (by decide) (Nat.le_of_ble_eq_true rfl) (fun G hG C E => ?_)
  subst hG
  have C : Cx G cX6_layOut RX6 4 3 65 := C
  change Sm G a 0 [(0, .ref (hB G + 4)), (1, .ref (hB G + k1))] [] w _
  unfold fX6_layOut
  refine sm_aload_n C 0 rfl dX6_layOut_0 rfl ?_
  refine sm_iconst C ic_0 dX6_layOut_1 ?_
  refine sm_putI C fo_6_4 rfl wd85 kd_4 rfl dX6_layOut_2 (fun w_1 => ?_)
  refine sm_aload_n C 0 rfl dX6_layOut_5 rfl ?_
  refine sm_getR C fo_6_6 rfl wd86 kd_4 dX6_layOut_6 (rv_4_6 w_1) (by decide) ?_
  refine sm_iconst C ic_0 dX6_layOut_9 ?_
  refine sm_aload_n C 1 rfl dX6_layOut_10 rfl ?_
  refine sm_iconst C ic_0 dX6_layOut_11 ?_
  refine sm_cVI (As := [.int 0]) C cfX0_clearDays wd87 (kdC hk1) rfl rfl rfl rfl rfl dX6_layOut_12 (fun r h => mX0_clearDays hk1 h) (fun r_2 => ?_)
  refine sm_iast C kd_10 dX6_layOut_15 (fun h_4 w_5 => ?_)
  refine sm_aload_n C 0 rfl dX6_layOut_16 rfl ?_
  refine sm_getR C fo_6_6 rfl wd86 kd_4 dX6_layOut_17 (rv_4_6 w_5) (by decide) ?_
  refine sm_iconst C ic_1 dX6_layOut_20 ?_
  refine sm_aload_n C 1 rfl dX6_layOut_21 rfl ?_
  refine sm_iconst C ic_1 dX6_layOut_22 ?_
  refine sm_cVI (As := [.int 1]) C cfX0_clearDays wd87 (kdC hk1) rfl rfl rfl rfl rfl dX6_layOut_23 (fun r h => mX0_clearDays hk1 h) (fun r_6 => ?_)
  refine sm_iast C kd_10 dX6_layOut_26 (fun h_8 w_9 => ?_)
  refine sm_iconst C ic_0 dX6_layOut_27 ?_
  refine sm_istore_n (lv1 := [(2, .int 0), (0, .ref (hB G + 4)), (1, .ref (hB G + k1))]) C dX6_layOut_28 rfl rfl rfl ?_
  refine sm_sub [1, 2, 0] rfl ?_
  exact sX6_layOut_29 C E hk1 FU w_9 0
/-! X6_nextDraw -/
set_option maxRecDepth 100000 in
set_option maxHeartbeats 4000000 in
theorem mX6_nextDraw {b : Bx} {w : HW} {a : Int32 × HW} (h : fX6_nextDraw w = some a) : Mt b yX6_nextDraw cX6_nextDraw 1 (some .int) 0 0 [.ref (bB b + 4)] w (some (.int a.1)) a.2 := by
  refine Mt.of ρIW h (by decide) (Nat.le_of_ble_eq_true rfl) (fun G hG C E => ?_)
  subst hG
  have C : Cx G cX6_nextDraw RX6 1 0 0 := C
  change Sm G a 0 [(0, .ref (hB G + 4))] [] w _
  unfold fX6_nextDraw
  refine sm_aload_n C 0 rfl dX6_nextDraw_0 rfl ?_
  refine sm_dup C rfl dX6_nextDraw_1 ?_
  refine sm_getI C fo_6_4 rfl wd85 kd_4 dX6_nextDraw_2 ?_
  refine sm_iconst C ic_1 dX6_nextDraw_5 ?_
  refine sm_iadd C dX6_nextDraw_6 ?_
  refine sm_putI C fo_6_4 rfl wd85 kd_4 rfl dX6_nextDraw_7 (fun w_1 => ?_)
  refine sm_aload_n C 0 rfl dX6_nextDraw_10 rfl ?_
  refine sm_ldc2 C wd95 dX6_nextDraw_11 ?_
  refine sm_aload_n C 0 rfl dX6_nextDraw_14 rfl ?_
  refine sm_getL C fo_6_7 rfl wd96 kd_4 dX6_nextDraw_15 ?_
  refine sm_lmul C dX6_nextDraw_18 ?_
  refine sm_ldc2 C wd97 dX6_nextDraw_19 ?_
  refine sm_ladd C dX6_nextDraw_22 ?_
  refine sm_ldc2 C wd98 dX6_nextDraw_23 ?_
  refine sm_lrem C (by decide) dX6_nextDraw_26 ?_
  refine sm_putL C fo_6_7 rfl wd96 kd_4 rfl dX6_nextDraw_27 (fun w_2 => ?_)
  refine sm_aload_n C 0 rfl dX6_nextDraw_30 rfl ?_
  refine sm_getL C fo_6_7 rfl wd96 kd_4 dX6_nextDraw_31 ?_
  refine sm_ldc2 C wd99 dX6_nextDraw_34 ?_
  refine sm_ldiv C (by decide) dX6_nextDraw_37 ?_
  refine sm_ldc2 C wd100 dX6_nextDraw_38 ?_
  refine sm_lrem C (by decide) dX6_nextDraw_41 ?_
  refine sm_l2i C dX6_nextDraw_42 ?_
  exact sm_iret C E rfl dX6_nextDraw_43
/-! X6_hasPassedAhead -/
set_option maxRecDepth 100000 in
set_option maxHeartbeats 4000000 in
theorem mX6_hasPassedAhead {b : Bx} {w : HW} {x1 : Int32} {x2 : Int32} {a : Int32} (h : fX6_hasPassedAhead w x1 x2 = some a) : Mt b yX6_hasPassedAhead cX6_hasPassedAhead 3 (some .boolean) 0 0 [.ref (bB b + 4), .int x1, .int x2] w (some (.int a)) w := by
  refine Mt.of (ρI w) h (by decide) (Nat.le_of_ble_eq_true rfl) (fun G hG C E => ?_)
  subst hG
  have C : Cx G cX6_hasPassedAhead RX6 3 0 0 := C
  change Sm G a 0 [(0, .ref (hB G + 4)), (1, .int x1), (2, .int x2)] [] w _
  unfold fX6_hasPassedAhead
  refine sm_iload_n C 1 rfl dX6_hasPassedAhead_0 rfl ?_
  refine sm_iconst C ic_m1 dX6_hasPassedAhead_1 ?_
  refine sm_icmp_eq C dX6_hasPassedAhead_2 (tgt := 25) rfl (fun h_1 => ?_) (fun h_1 => ?_)
  · refine sm_aload_n C 0 rfl dX6_hasPassedAhead_5 rfl ?_
    refine sm_getR C fo_6_2 rfl wd90 kd_4 dX6_hasPassedAhead_6 (rv_4_2 w) (by decide) ?_
    refine sm_iload_n C 1 rfl dX6_hasPassedAhead_9 rfl ?_
    refine sm_iald C kd_7 dX6_hasPassedAhead_10 (fun h_2 => ?_)
    refine sm_iconst C ic_m1 dX6_hasPassedAhead_11 ?_
    refine sm_icmp_eq C dX6_hasPassedAhead_12 (tgt := 29) rfl (fun h_3 => ?_) (fun h_3 => ?_)
    · refine sm_aload_n C 0 rfl dX6_hasPassedAhead_15 rfl ?_
      refine sm_getR C fo_6_2 rfl wd90 kd_4 dX6_hasPassedAhead_16 (rv_4_2 w) (by decide) ?_
      refine sm_iload_n C 1 rfl dX6_hasPassedAhead_19 rfl ?_
      refine sm_iald C kd_7 dX6_hasPassedAhead_20 (fun h_4 => ?_)
      refine sm_iload_n C 2 rfl dX6_hasPassedAhead_21 rfl ?_
      refine sm_icmp_ge C dX6_hasPassedAhead_22 (tgt := 29) rfl (fun h_5 => ?_) (fun h_5 => ?_)
      · refine sm_iconst C ic_1 dX6_hasPassedAhead_25 ?_
        refine sm_goto C dX6_hasPassedAhead_26 (tgt := 30) rfl ?_
        exact sm_zret C E rfl rfl dX6_hasPassedAhead_30
      · refine sm_iconst C ic_0 dX6_hasPassedAhead_29 ?_
        exact sm_zret C E rfl rfl dX6_hasPassedAhead_30
    · refine sm_iconst C ic_0 dX6_hasPassedAhead_29 ?_
      exact sm_zret C E rfl rfl dX6_hasPassedAhead_30
  · refine sm_iconst C ic_1 dX6_hasPassedAhead_25 ?_
    refine sm_goto C dX6_hasPassedAhead_26 (tgt := 30) rfl ?_
    exact sm_zret C E rfl rfl dX6_hasPassedAhead_30
/-! X6_whyNot -/
set_option maxRecDepth 100000 in
set_option maxHeartbeats 4000000 in
theorem mX6_whyNot {b : Bx} {w : HW} {k1 : Nat} {x2 : Int32} {x3 : Int32} {x4 : Int32} (hk1 : isC k1 = true) {a : Int32} (h : fX6_whyNot w k1 x2 x3 x4 = some a) : Mt b yX6_whyNot cX6_whyNot 5 (some .int) 1 22 [.ref (bB b + 4), .ref (bB b + k1), .int x2, .int x3, .int x4] w (some (.int a)) w := by
  refine Mt.of (ρI w) h (by decide) (Nat.le_of_ble_eq_true rfl) (fun G hG C E => ?_)
  subst hG
  have C : Cx G cX6_whyNot RX6 5 1 22 := C
  change Sm G a 0 [(0, .ref (hB G + 4)), (1, .ref (hB G + k1)), (2, .int x2), (3, .int x3), (4, .int x4)] [] w _
  unfold fX6_whyNot
  refine sm_iload C 4 rfl dX6_whyNot_0 ?_
  refine sm_if_ne C dX6_whyNot_2 (tgt := 7) rfl (fun h_1 => ?_) (fun h_1 => ?_)
  · refine sm_iconst C ic_1 dX6_whyNot_5 ?_
    exact sm_iret C E rfl dX6_whyNot_6
  · refine sm_aload_n C 1 rfl dX6_whyNot_7 rfl ?_
    refine sm_getI C fo_0_5 rfl wd101 (kdC hk1) dX6_whyNot_8 ?_
    refine sm_iload_n C 3 rfl dX6_whyNot_11 rfl ?_
    refine sm_cNI (As := [.int (gI w k1 5), .int x3]) C cfX9_holds 11 rfl rfl rfl rfl rfl dX6_whyNot_12 (fun r h => mX9_holds  h) (fun r_2 => ?_)
    refine sm_if_eq C dX6_whyNot_15 (tgt := 20) rfl (fun h_4 => ?_) (fun h_4 => ?_)
    · refine sm_iconst C ic_2 dX6_whyNot_18 ?_
      exact sm_iret C E rfl dX6_whyNot_19
    · refine sm_aload_n C 0 rfl dX6_whyNot_20 rfl ?_
      refine sm_getR C fo_6_6 rfl wd86 kd_4 dX6_whyNot_21 (rv_4_6 w) (by decide) ?_
      refine sm_aload_n C 1 rfl dX6_whyNot_24 rfl ?_
      refine sm_getR C fo_0_11 rfl wd102 (kdC hk1) dX6_whyNot_25 (rvC_11 hk1 w) (nzC_4 hk1) ?_
      refine sm_iload_n C 2 rfl dX6_whyNot_28 rfl ?_
      refine sm_iald C (kdC_4 hk1) dX6_whyNot_29 (fun h_5 => ?_)
      refine sm_iald C kd_10 dX6_whyNot_30 (fun h_6 => ?_)
      refine sm_iload_n C 3 rfl dX6_whyNot_31 rfl ?_
      refine sm_cNI (As := [.int (gI w 10 (ix (gI w (k1 + 4) (ix x2)))), .int x3]) C cfX9_holds 11 rfl rfl rfl rfl rfl dX6_whyNot_32 (fun r h => mX9_holds  h) (fun r_7 => ?_)
      refine sm_if_ne C dX6_whyNot_35 (tgt := 40) rfl (fun h_9 => ?_) (fun h_9 => ?_)
      · refine sm_iconst C ic_3 dX6_whyNot_38 ?_
        exact sm_iret C E rfl dX6_whyNot_39
      · refine sm_aload_n C 0 rfl dX6_whyNot_40 rfl ?_
        refine sm_aload_n C 1 rfl dX6_whyNot_41 rfl ?_
        refine sm_getR C fo_0_13 rfl wd103 (kdC hk1) dX6_whyNot_42 (rvC_13 hk1 w) (nzC_6 hk1) ?_
        refine sm_iload_n C 2 rfl dX6_whyNot_45 rfl ?_
        refine sm_iald C (kdC_6 hk1) dX6_whyNot_46 (fun h_10 => ?_)
        refine sm_iload_n C 3 rfl dX6_whyNot_47 rfl ?_
        refine sm_cVI (As := [.int (gI w (k1 + 6) (ix x2)), .int x3]) C cfX6_hasPassedAhead wd104 kd_4 rfl rfl rfl rfl rfl dX6_whyNot_48 (fun r h => mX6_hasPassedAhead  h) (fun r_11 => ?_)
        refine sm_if_eq C dX6_whyNot_51 (tgt := 58) rfl (fun h_13 => ?_) (fun h_13 => ?_)
        · refine sm_iconst C ic_0 dX6_whyNot_54 ?_
          refine sm_goto C dX6_whyNot_55 (tgt := 59) rfl ?_
          exact sm_iret C E rfl dX6_whyNot_59
        · refine sm_iconst C ic_4 dX6_whyNot_58 ?_
          exact sm_iret C E rfl dX6_whyNot_59
/-! X6_settle -/
set_option maxRecDepth 100000 in
set_option maxHeartbeats 4000000 in
theorem mX6_settle {b : Bx} {w : HW} {k1 : Nat} {x2 : Int32} {x3 : Int32} {x4 : Int32} (hk1 : isC k1 = true) {a : HW} (h : fX6_settle w k1 x2 x3 x4 = some a) : Mt b yX6_settle cX6_settle 5 (none) 2 46 [.ref (bB b + 4), .ref (bB b + k1), .int x2, .int x3, .int x4] w none a := by
  refine Mt.of ρW h (by decide) (Nat.le_of_ble_eq_true rfl) (fun G hG C E => ?_)
  subst hG
  have C : Cx G cX6_settle RX6 5 2 46 := C
  change Sm G a 0 [(0, .ref (hB G + 4)), (1, .ref (hB G + k1)), (2, .int x2), (3, .int x3), (4, .int x4)] [] w _
  unfold fX6_settle
  refine sm_aload_n C 0 rfl dX6_settle_0 rfl ?_
  refine sm_getR C fo_6_1 rfl wd89 kd_4 dX6_settle_1 (rv_4_1 w) (by decide) ?_
  refine sm_iload_n C 2 rfl dX6_settle_4 rfl ?_
  refine sm_iload_n C 3 rfl dX6_settle_5 rfl ?_
  refine sm_iast C kd_6 dX6_settle_6 (fun h_1 w_2 => ?_)
  refine sm_aload_n C 0 rfl dX6_settle_7 rfl ?_
  refine sm_getR C fo_6_3 rfl wd91 kd_4 dX6_settle_8 (rv_4_3 w_2) (by decide) ?_
  refine sm_iload_n C 2 rfl dX6_settle_11 rfl ?_
  refine sm_aload_n C 0 rfl dX6_settle_12 rfl ?_
  refine sm_aload_n C 1 rfl dX6_settle_13 rfl ?_
  refine sm_iload_n C 2 rfl dX6_settle_14 rfl ?_
  refine sm_iload_n C 3 rfl dX6_settle_15 rfl ?_
  refine sm_iload C 4 rfl dX6_settle_16 ?_
  refine sm_cVI (As := [.ref (hB G + k1), .int x2, .int x3, .int x4]) C cfX6_whyNot wd105 kd_4 rfl rfl rfl rfl rfl dX6_settle_18 (fun r h => mX6_whyNot hk1 h) (fun r_3 => ?_)
  refine sm_iast C kd_8 dX6_settle_21 (fun h_5 w_6 => ?_)
  refine sm_aload_n C 0 rfl dX6_settle_22 rfl ?_
  refine sm_getR C fo_6_3 rfl wd91 kd_4 dX6_settle_23 (rv_4_3 w_6) (by decide) ?_
  refine sm_iload_n C 2 rfl dX6_settle_26 rfl ?_
  refine sm_iald C kd_8 dX6_settle_27 (fun h_7 => ?_)
  refine sm_if_ne C dX6_settle_28 (tgt := 38) rfl (fun h_8 => ?_) (fun h_8 => ?_)
  · refine sm_aload_n C 0 rfl dX6_settle_31 rfl ?_
    refine sm_getR C fo_6_2 rfl wd90 kd_4 dX6_settle_32 (rv_4_2 w_6) (by decide) ?_
    refine sm_iload_n C 2 rfl dX6_settle_35 rfl ?_
    refine sm_iload_n C 3 rfl dX6_settle_36 rfl ?_
    refine sm_iast C kd_7 dX6_settle_37 (fun h_9 w_10 => ?_)
    exact sm_vret C E rfl dX6_settle_38
  · exact sm_vret C E rfl dX6_settle_38
/-! X6_live -/
set_option maxRecDepth 100000 in
set_option maxHeartbeats 4000000 in
theorem sX6_live_97 {G : Gx} {a : HW} (C : Cx G cX6_live RX6 7 4 88) (E : Rx G ρW a (none)) {K8 : HW → Int32 → Int32 → Option HW} (w : HW) (k1 : Nat) (hk1 : isC k1 = true) (x2 : Int32) (x3 : Int32) (x4 : Int32) (x5 : Int32) (hK8 : ∀ (w' : HW) (x3' : Int32) (x4' : Int32), Sm G a 13 [(0, .ref (hB G + 4)), (1, .ref (hB G + k1)), (2, .int x2), (3, .int (x3')), (4, .int (x4'))] [] w' (K8 w' x3' x4')) : Sm G a 97 [(0, .ref (hB G + 4)), (1, .ref (hB G + k1)), (2, .int x2), (3, .int x3), (4, .int x4), (5, .int x5)] [] w (fX6_live_97 w K8 k1 x2 x3 x4 x5) := by
  unfold fX6_live_97
  refine sm_iload C 5 rfl dX6_live_97 ?_
  refine sm_bipush C bp_m2 dX6_live_99 ?_
  refine sm_icmp_ne C dX6_live_101 (tgt := 110) rfl (fun h_24 => ?_) (fun h_24 => ?_)
  · refine sm_iload_n C 3 rfl dX6_live_104 rfl ?_
    refine sm_iconst C ic_1 dX6_live_105 ?_
    refine sm_iadd C dX6_live_106 ?_
    refine sm_goto C dX6_live_107 (tgt := 111) rfl ?_
    refine sm_let (fun x3_25 => ?_)
    refine sm_istore_n (lv1 := [(3, .int x3_25), (0, .ref (hB G + 4)), (1, .ref (hB G + k1)), (2, .int x2), (4, .int x4), (5, .int x5)]) C dX6_live_111 rfl rfl rfl ?_
    refine sm_iinc (lv1 := [(4, .int (x4 + 1)), (3, .int x3_25), (0, .ref (hB G + 4)), (1, .ref (hB G + k1)), (2, .int x2), (5, .int x5)]) C 4 rfl (iv_1 _) dX6_live_112 rfl rfl ?_
    refine sm_goto C dX6_live_115 (tgt := 13) rfl ?_
    refine sm_sub [2, 3, 4, 1, 0] rfl ?_
    exact hK8 w x3_25 (x4 + 1)
  · refine sm_iconst C ic_1 dX6_live_110 ?_
    refine sm_istore_n (lv1 := [(3, .int 1), (0, .ref (hB G + 4)), (1, .ref (hB G + k1)), (2, .int x2), (4, .int x4), (5, .int x5)]) C dX6_live_111 rfl rfl rfl ?_
    refine sm_iinc (lv1 := [(4, .int (x4 + 1)), (3, .int 1), (0, .ref (hB G + 4)), (1, .ref (hB G + k1)), (2, .int x2), (5, .int x5)]) C 4 rfl (iv_1 _) dX6_live_112 rfl rfl ?_
    refine sm_goto C dX6_live_115 (tgt := 13) rfl ?_
    refine sm_sub [2, 3, 4, 1, 0] rfl ?_
    exact hK8 w 1 (x4 + 1)
set_option maxRecDepth 100000 in
set_option maxHeartbeats 4000000 in
theorem sX6_live_57 {G : Gx} {a : HW} (C : Cx G cX6_live RX6 7 4 88) (E : Rx G ρW a (none)) {K8 : HW → Int32 → Int32 → Option HW} (w : HW) (k1 : Nat) (hk1 : isC k1 = true) (x2 : Int32) (x3 : Int32) (x4 : Int32) (x5 : Int32) (s0 : Int32) (hK8 : ∀ (w' : HW) (x3' : Int32) (x4' : Int32), Sm G a 13 [(0, .ref (hB G + 4)), (1, .ref (hB G + k1)), (2, .int x2), (3, .int (x3')), (4, .int (x4'))] [] w' (K8 w' x3' x4')) : Sm G a 57 [(0, .ref (hB G + 4)), (1, .ref (hB G + k1)), (2, .int x2), (3, .int x3), (4, .int x4), (5, .int x5)] [.int s0] w (fX6_live_57 w K8 k1 x2 x3 x4 x5 s0) := by
  unfold fX6_live_57
  refine sm_istore (lv1 := [(6, .int s0), (0, .ref (hB G + 4)), (1, .ref (hB G + k1)), (2, .int x2), (3, .int x3), (4, .int x4), (5, .int x5)]) C dX6_live_57 rfl rfl ?_
  refine sm_iload C 0 rfl dX6_live_59 ?_
  refine sm_if_eq C dX6_live_61 (tgt := 86) rfl (fun h_11 => ?_) (fun h_11 => ?_)
  · refine sm_iload_n C 3 rfl dX6_live_64 rfl ?_
    refine sm_if_eq C dX6_live_65 (tgt := 86) rfl (fun h_12 => ?_) (fun h_12 => ?_)
    · refine sm_aload_n C 1 rfl dX6_live_68 rfl ?_
      refine sm_cVIW (As := []) C cfX6_nextDraw wd111 kd_4 rfl rfl rfl rfl rfl dX6_live_69 (fun r h => mX6_nextDraw  h) (fun r_13 w_14 => ?_)
      refine sm_aload_n C 2 rfl dX6_live_72 rfl ?_
      refine sm_getI C fo_0_4 rfl wd112 (kdC hk1) dX6_live_73 ?_
      refine sm_icmp_ge C dX6_live_76 (tgt := 83) rfl (fun h_15 => ?_) (fun h_15 => ?_)
      · refine sm_iconst C ic_1 dX6_live_79 ?_
        refine sm_goto C dX6_live_80 (tgt := 84) rfl ?_
        refine sm_istore (lv1 := [(6, .int 1), (0, .ref (hB G + 4)), (1, .ref (hB G + k1)), (2, .int x2), (3, .int x3), (4, .int x4), (5, .int x5)]) C dX6_live_84 rfl rfl ?_
        refine sm_aload_n C 1 rfl dX6_live_86 rfl ?_
        refine sm_aload_n C 2 rfl dX6_live_87 rfl ?_
        refine sm_iload C 6 rfl dX6_live_88 ?_
        refine sm_iload C 5 rfl dX6_live_90 ?_
        refine sm_iload C 0 rfl dX6_live_92 ?_
        refine sm_cVW (As := [.ref (hB G + k1), .int x5, .int x4, .int 1]) C cfX6_settle wd113 kd_4 rfl rfl rfl rfl rfl dX6_live_94 (fun r h => mX6_settle hk1 h) (fun w_17 => ?_)
        refine sm_sub [1, 2, 3, 4, 5, 6] rfl ?_
        exact sX6_live_97 C E w_17 k1 hk1 x2 x3 x4 x5 hK8
      · refine sm_iconst C ic_0 dX6_live_83 ?_
        refine sm_istore (lv1 := [(6, .int 0), (0, .ref (hB G + 4)), (1, .ref (hB G + k1)), (2, .int x2), (3, .int x3), (4, .int x4), (5, .int x5)]) C dX6_live_84 rfl rfl ?_
        refine sm_aload_n C 1 rfl dX6_live_86 rfl ?_
        refine sm_aload_n C 2 rfl dX6_live_87 rfl ?_
        refine sm_iload C 6 rfl dX6_live_88 ?_
        refine sm_iload C 5 rfl dX6_live_90 ?_
        refine sm_iload C 0 rfl dX6_live_92 ?_
        refine sm_cVW (As := [.ref (hB G + k1), .int x5, .int x4, .int 0]) C cfX6_settle wd113 kd_4 rfl rfl rfl rfl rfl dX6_live_94 (fun r h => mX6_settle hk1 h) (fun w_19 => ?_)
        refine sm_sub [1, 2, 3, 4, 5, 6] rfl ?_
        exact sX6_live_97 C E w_19 k1 hk1 x2 x3 x4 x5 hK8
    · refine sm_aload_n C 1 rfl dX6_live_86 rfl ?_
      refine sm_aload_n C 2 rfl dX6_live_87 rfl ?_
      refine sm_iload C 6 rfl dX6_live_88 ?_
      refine sm_iload C 5 rfl dX6_live_90 ?_
      refine sm_iload C 0 rfl dX6_live_92 ?_
      refine sm_cVW (As := [.ref (hB G + k1), .int x5, .int x4, .int s0]) C cfX6_settle wd113 kd_4 rfl rfl rfl rfl rfl dX6_live_94 (fun r h => mX6_settle hk1 h) (fun w_21 => ?_)
      refine sm_sub [1, 2, 3, 4, 5, 6] rfl ?_
      exact sX6_live_97 C E w_21 k1 hk1 x2 x3 x4 x5 hK8
  · refine sm_aload_n C 1 rfl dX6_live_86 rfl ?_
    refine sm_aload_n C 2 rfl dX6_live_87 rfl ?_
    refine sm_iload C 6 rfl dX6_live_88 ?_
    refine sm_iload C 5 rfl dX6_live_90 ?_
    refine sm_iload C 0 rfl dX6_live_92 ?_
    refine sm_cVW (As := [.ref (hB G + k1), .int x5, .int x4, .int s0]) C cfX6_settle wd113 kd_4 rfl rfl rfl rfl rfl dX6_live_94 (fun r h => mX6_settle hk1 h) (fun w_23 => ?_)
    refine sm_sub [1, 2, 3, 4, 5, 6] rfl ?_
    exact sX6_live_97 C E w_23 k1 hk1 x2 x3 x4 x5 hK8
set_option maxRecDepth 100000 in
set_option maxHeartbeats 4000000 in
theorem sX6_live_13 {G : Gx} {a : HW} (C : Cx G cX6_live RX6 7 4 88) (E : Rx G ρW a (none)) {k1 : Nat} (hk1 : isC k1 = true) {x2 : Int32} : ∀ (n : Nat) (w : HW) (x3 : Int32) (x4 : Int32), Sm G a 13 [(0, .ref (hB G + 4)), (1, .ref (hB G + k1)), (2, .int x2), (3, .int x3), (4, .int x4)] [] w (fX6_live_13 k1 x2 n w x3 x4) := by
  intro n
  induction n with
  | zero => intro _ _ _; exact sm_none
  | succ n ih =>
    intro w x3 x4
    rw [fX6_live_13]
    refine sm_iload C 4 rfl dX6_live_13 ?_
    refine sm_aload_n C 1 rfl dX6_live_15 rfl ?_
    refine sm_getI C fo_0_1 rfl wd108 (kdC hk1) dX6_live_16 ?_
    refine sm_icmp_ge C dX6_live_19 (tgt := 118) rfl (fun h_4 => ?_) (fun h_4 => ?_)
    · refine sm_aload_n C 0 rfl dX6_live_22 rfl ?_
      refine sm_getR C fo_6_0 rfl wd109 kd_4 dX6_live_23 (rv_4_0 w) (by decide) ?_
      refine sm_iload C 4 rfl dX6_live_26 ?_
      refine sm_iload_n C 3 rfl dX6_live_28 rfl ?_
      refine sm_iast C kd_5 dX6_live_29 (fun h_5 w_6 => ?_)
      refine sm_aload_n C 0 rfl dX6_live_30 rfl ?_
      refine sm_getR C fo_6_5 rfl wd88 kd_4 dX6_live_31 (rv_4_5 w_6) (by decide) ?_
      refine sm_iload C 4 rfl dX6_live_34 ?_
      refine sm_iald C kd_9 dX6_live_36 (fun h_7 => ?_)
      refine sm_let (fun x5_8 => ?_)
      refine sm_istore (lv1 := [(5, .int x5_8), (0, .ref (hB G + 4)), (1, .ref (hB G + k1)), (2, .int x2), (3, .int x3), (4, .int x4)]) C dX6_live_37 rfl rfl ?_
      refine sm_iload C 0 rfl dX6_live_39 ?_
      refine sm_if_lt C dX6_live_41 (tgt := 97) rfl (fun h_9 => ?_) (fun h_9 => ?_)
      · refine sm_iload_n C 4 rfl dX6_live_44 rfl ?_
        refine sm_aload_n C 2 rfl dX6_live_45 rfl ?_
        refine sm_getI C fo_0_3 rfl wd110 (kdC hk1) dX6_live_46 ?_
        refine sm_icmp_lt C dX6_live_49 (tgt := 56) rfl (fun h_10 => ?_) (fun h_10 => ?_)
        · refine sm_iconst C ic_1 dX6_live_52 ?_
          refine sm_goto C dX6_live_53 (tgt := 57) rfl ?_
          refine sm_sub [1, 2, 3, 4, 5, 0] rfl ?_
          exact sX6_live_57 C E w_6 k1 hk1 x2 x3 x4 x5_8 1 (fun w x3 x4 => ih w x3 x4)
        · refine sm_iconst C ic_0 dX6_live_56 ?_
          refine sm_sub [1, 2, 3, 4, 5, 0] rfl ?_
          exact sX6_live_57 C E w_6 k1 hk1 x2 x3 x4 x5_8 0 (fun w x3 x4 => ih w x3 x4)
      · refine sm_sub [1, 2, 3, 4, 5, 0] rfl ?_
        exact sX6_live_97 C E w_6 k1 hk1 x2 x3 x4 x5_8 (fun w x3 x4 => ih w x3 x4)
    · exact sm_vret C E rfl dX6_live_118
set_option maxRecDepth 100000 in
set_option maxHeartbeats 4000000 in
theorem mX6_live {b : Bx} {w : HW} {k1 : Nat} {x2 : Int32} (hk1 : isC k1 = true) {a : HW} (h : fX6_live w k1 x2 = some a) : Mt b yX6_live cX6_live 7 (none) 4 88 [.ref (bB b + 4), .ref (bB b + k1), .int x2] w none a := by
  refine Mt.of ρW h (by decide) (Nat.le_of_ble_eq_true rfl) (fun G hG C E => ?_)
  subst hG
  have C : Cx G cX6_live RX6 7 4 88 := C
  change Sm G a 0 [(0, .ref (hB G + 4)), (1, .ref (hB G + k1)), (2, .int x2)] [] w _
  unfold fX6_live
  refine sm_aload_n C 0 rfl dX6_live_0 rfl ?_
  refine sm_aload_n C 1 rfl dX6_live_1 rfl ?_
  refine sm_cVW (As := [.ref (hB G + k1)]) C cfX6_layOut wd106 kd_4 rfl rfl rfl rfl rfl dX6_live_2 (fun r h => mX6_layOut hk1 h) (fun w_2 => ?_)
  refine sm_aload_n C 1 rfl dX6_live_5 rfl ?_
  refine sm_getI C fo_0_2 rfl wd107 (kdC hk1) dX6_live_6 ?_
  refine sm_let (fun x3_3 => ?_)
  refine sm_istore_n (lv1 := [(3, .int x3_3), (0, .ref (hB G + 4)), (1, .ref (hB G + k1)), (2, .int x2)]) C dX6_live_9 rfl rfl rfl ?_
  refine sm_iconst C ic_0 dX6_live_10 ?_
  refine sm_istore (lv1 := [(4, .int 0), (3, .int x3_3), (0, .ref (hB G + 4)), (1, .ref (hB G + k1)), (2, .int x2)]) C dX6_live_11 rfl rfl ?_
  refine sm_sub [2, 3, 4, 1, 0] rfl ?_
  exact sX6_live_13 C E hk1 FU w_2 x3_3 0
/-! X6_play -/
set_option maxRecDepth 100000 in
set_option maxHeartbeats 4000000 in
theorem mX6_play {b : Bx} {w : HW} {k1 : Nat} (hk1 : isC k1 = true) {a : HW} (h : fX6_play w k1 = some a) : Mt b yX6_play cX6_play 2 (none) 5 114 [.ref (bB b + 4), .ref (bB b + k1)] w none a := by
  refine Mt.of ρW h (by decide) (Nat.le_of_ble_eq_true rfl) (fun G hG C E => ?_)
  subst hG
  have C : Cx G cX6_play RX6 2 5 114 := C
  change Sm G a 0 [(0, .ref (hB G + 4)), (1, .ref (hB G + k1))] [] w _
  unfold fX6_play
  refine sm_aload_n C 0 rfl dX6_play_0 rfl ?_
  refine sm_aload_n C 1 rfl dX6_play_1 rfl ?_
  refine sm_iconst C ic_0 dX6_play_2 ?_
  refine sm_cVW (As := [.ref (hB G + k1), .int 0]) C cfX6_live wd114 kd_4 rfl rfl rfl rfl rfl dX6_play_3 (fun r h => mX6_live hk1 h) (fun w_2 => ?_)
  exact sm_vret C E rfl dX6_play_6
/-! X9_hunger -/
set_option maxRecDepth 100000 in
set_option maxHeartbeats 4000000 in
theorem mX9_hunger {b : Bx} {w : HW} {x1 : Int32} {a : Int32 × HW} (h : fX9_hunger w x1 = some a) : Mt b yX9_hunger cX9_hunger 2 (some .int) 6 135 [.ref (bB b + 0), .int x1] w (some (.int a.1)) a.2 := by
  refine Mt.of ρIW h (by decide) (Nat.le_of_ble_eq_true rfl) (fun G hG C E => ?_)
  subst hG
  have C : Cx G cX9_hunger RX9 2 6 135 := C
  change Sm G a 0 [(0, .ref (hB G + 0)), (1, .int x1)] [] w _
  unfold fX9_hunger
  refine sm_aload_n C 0 rfl dX9_hunger_0 rfl ?_
  refine sm_getC C fo_9_10 rfl wd58 kd_0 dX9_hunger_1 rfl (fun j_1 hj_1 => ?_)
  refine sm_iload_n C 1 rfl dX9_hunger_4 rfl ?_
  refine sm_cVI (As := [.int x1]) C cfX0_hasDay wd80 (kdC hj_1) rfl rfl rfl rfl rfl dX9_hunger_5 (fun r h => mX0_hasDay hj_1 h) (fun r_2 => ?_)
  refine sm_if_ne C dX9_hunger_8 (tgt := 14) rfl (fun h_4 => ?_) (fun h_4 => ?_)
  · refine sm_bipush C bp_m2 dX9_hunger_11 ?_
    exact sm_iret C E rfl dX9_hunger_13
  · refine sm_aload_n C 0 rfl dX9_hunger_14 rfl ?_
    refine sm_getR C fo_9_2 rfl wd115 kd_0 dX9_hunger_15 (rv_0_2 w) (by decide) ?_
    refine sm_aload_n C 0 rfl dX9_hunger_18 rfl ?_
    refine sm_getC C fo_9_10 rfl wd58 kd_0 dX9_hunger_19 rfl (fun j_5 hj_5 => ?_)
    refine sm_cVW (As := [.ref (hB G + j_5)]) C cfX6_play wd116 kd_4 rfl rfl rfl rfl rfl dX9_hunger_22 (fun r h => mX6_play hj_5 h) (fun w_7 => ?_)
    refine sm_aload_n C 0 rfl dX9_hunger_25 rfl ?_
    refine sm_getR C fo_9_2 rfl wd115 kd_0 dX9_hunger_26 (rv_0_2 w_7) (by decide) ?_
    refine sm_getR C fo_6_0 rfl wd117 kd_4 dX9_hunger_29 (rv_4_0 w_7) (by decide) ?_
    refine sm_iload_n C 1 rfl dX9_hunger_32 rfl ?_
    refine sm_iald C kd_5 dX9_hunger_33 (fun h_8 => ?_)
    exact sm_iret C E rfl dX9_hunger_34
/-! X9_eat -/
set_option maxRecDepth 100000 in
set_option maxHeartbeats 4000000 in
theorem sX9_eat_28 {G : Gx} {a : Int32 × HW} (C : Cx G cX9_eat RX9 3 6 135) (E : Rx G ρIW a (some .int)) : ∀ (n : Nat) (w : HW) (x1 : Int32) (x2 : Int32), Sm G a 28 [(0, .ref (hB G + 0)), (1, .int x1), (2, .int x2)] [] w (fX9_eat_28 n w x1 x2) := by
  intro n
  induction n with
  | zero => intro _ _ _; exact sm_none
  | succ n ih =>
    intro w x1 x2
    rw [fX9_eat_28]
    refine sm_iload_n C 2 rfl dX9_eat_28 rfl ?_
    refine sm_aload_n C 0 rfl dX9_eat_29 rfl ?_
    refine sm_getC C fo_9_10 rfl wd58 kd_0 dX9_eat_30 rfl (fun j_8 hj_8 => ?_)
    refine sm_getI C fo_0_1 rfl wd118 (kdC hj_8) dX9_eat_33 ?_
    refine sm_icmp_ge C dX9_eat_36 (tgt := 70) rfl (fun h_9 => ?_) (fun h_9 => ?_)
    · refine sm_aload_n C 0 rfl dX9_eat_39 rfl ?_
      refine sm_getR C fo_9_2 rfl wd115 kd_0 dX9_eat_40 (rv_0_2 w) (by decide) ?_
      refine sm_getR C fo_6_0 rfl wd117 kd_4 dX9_eat_43 (rv_4_0 w) (by decide) ?_
      refine sm_iload_n C 2 rfl dX9_eat_46 rfl ?_
      refine sm_iald C kd_5 dX9_eat_47 (fun h_10 => ?_)
      refine sm_aload_n C 0 rfl dX9_eat_48 rfl ?_
      refine sm_getC C fo_9_10 rfl wd58 kd_0 dX9_eat_49 rfl (fun j_11 hj_11 => ?_)
      refine sm_getI C fo_0_3 rfl wd119 (kdC hj_11) dX9_eat_52 ?_
      refine sm_icmp_lt C dX9_eat_55 (tgt := 64) rfl (fun h_12 => ?_) (fun h_12 => ?_)
      · refine sm_iload_n C 1 rfl dX9_eat_58 rfl ?_
        refine sm_iconst C ic_1 dX9_eat_59 ?_
        refine sm_iload_n C 2 rfl dX9_eat_60 rfl ?_
        refine sm_ishl C dX9_eat_61 ?_
        refine sm_ior C dX9_eat_62 ?_
        refine sm_let (fun x1_13 => ?_)
        refine sm_istore_n (lv1 := [(1, .int x1_13), (0, .ref (hB G + 0)), (2, .int x2)]) C dX9_eat_63 rfl rfl rfl ?_
        refine sm_iinc (lv1 := [(2, .int (x2 + 1)), (1, .int x1_13), (0, .ref (hB G + 0))]) C 2 rfl (iv_1 _) dX9_eat_64 rfl rfl ?_
        refine sm_goto C dX9_eat_67 (tgt := 28) rfl ?_
        refine sm_sub [2, 1, 0] rfl ?_
        exact ih w x1_13 (x2 + 1)
      · refine sm_iinc (lv1 := [(2, .int (x2 + 1)), (0, .ref (hB G + 0)), (1, .int x1)]) C 2 rfl (iv_1 _) dX9_eat_64 rfl rfl ?_
        refine sm_goto C dX9_eat_67 (tgt := 28) rfl ?_
        refine sm_sub [1, 2, 0] rfl ?_
        exact ih w x1 (x2 + 1)
    · refine sm_iload_n C 1 rfl dX9_eat_70 rfl ?_
      exact sm_iret C E rfl dX9_eat_71
set_option maxRecDepth 100000 in
set_option maxHeartbeats 4000000 in
theorem mX9_eat {b : Bx} {w : HW} {a : Int32 × HW} (h : fX9_eat w = some a) : Mt b yX9_eat cX9_eat 3 (some .int) 6 135 [.ref (bB b + 0)] w (some (.int a.1)) a.2 := by
  refine Mt.of ρIW h (by decide) (Nat.le_of_ble_eq_true rfl) (fun G hG C E => ?_)
  subst hG
  have C : Cx G cX9_eat RX9 3 6 135 := C
  change Sm G a 0 [(0, .ref (hB G + 0))] [] w _
  unfold fX9_eat
  refine sm_aload_n C 0 rfl dX9_eat_0 rfl ?_
  refine sm_getC C fo_9_10 rfl wd58 kd_0 dX9_eat_1 rfl (fun j_1 hj_1 => ?_)
  refine sm_cVI (As := []) C cfX0_isTold wd70 (kdC hj_1) rfl rfl rfl rfl rfl dX9_eat_4 (fun r h => mX0_isTold hj_1 h) (fun r_2 => ?_)
  refine sm_if_ne C dX9_eat_7 (tgt := 13) rfl (fun h_4 => ?_) (fun h_4 => ?_)
  · refine sm_bipush C bp_m2 dX9_eat_10 ?_
    exact sm_iret C E rfl dX9_eat_12
  · refine sm_aload_n C 0 rfl dX9_eat_13 rfl ?_
    refine sm_getR C fo_9_2 rfl wd115 kd_0 dX9_eat_14 (rv_0_2 w) (by decide) ?_
    refine sm_aload_n C 0 rfl dX9_eat_17 rfl ?_
    refine sm_getC C fo_9_10 rfl wd58 kd_0 dX9_eat_18 rfl (fun j_5 hj_5 => ?_)
    refine sm_cVW (As := [.ref (hB G + j_5)]) C cfX6_play wd116 kd_4 rfl rfl rfl rfl rfl dX9_eat_21 (fun r h => mX6_play hj_5 h) (fun w_7 => ?_)
    refine sm_iconst C ic_0 dX9_eat_24 ?_
    refine sm_istore_n (lv1 := [(1, .int 0), (0, .ref (hB G + 0))]) C dX9_eat_25 rfl rfl rfl ?_
    refine sm_iconst C ic_0 dX9_eat_26 ?_
    refine sm_istore_n (lv1 := [(2, .int 0), (1, .int 0), (0, .ref (hB G + 0))]) C dX9_eat_27 rfl rfl rfl ?_
    refine sm_sub [2, 1, 0] rfl ?_
    exact sX9_eat_28 C E FU w_7 0 0
/-! X6_couldPass -/
set_option maxRecDepth 100000 in
set_option maxHeartbeats 4000000 in
theorem sX6_couldPass_25 {G : Gx} {a : Int32} {w : HW} (C : Cx G cX6_couldPass RX6 5 2 46) (E : Rx G (ρI w) a (some .boolean)) (k1 : Nat) (hk1 : isC k1 = true) (x2 : Int32) (x3 : Int32) (s0 : Int32) : Sm G a 25 [(0, .ref (hB G + 4)), (1, .ref (hB G + k1)), (2, .int x2), (3, .int x3)] [.int s0] w (fX6_couldPass_25 w k1 x2 x3 s0) := by
  unfold fX6_couldPass_25
  refine sm_istore (lv1 := [(4, .int s0), (0, .ref (hB G + 4)), (1, .ref (hB G + k1)), (2, .int x2), (3, .int x3)]) C dX6_couldPass_25 rfl rfl ?_
  refine sm_iload C 0 rfl dX6_couldPass_27 ?_
  refine sm_if_ne C dX6_couldPass_29 (tgt := 64) rfl (fun h_5 => ?_) (fun h_5 => ?_)
  · refine sm_aload_n C 1 rfl dX6_couldPass_32 rfl ?_
    refine sm_aload_n C 2 rfl dX6_couldPass_33 rfl ?_
    refine sm_iload_n C 3 rfl dX6_couldPass_34 rfl ?_
    refine sm_iload_n C 4 rfl dX6_couldPass_35 rfl ?_
    refine sm_aload_n C 1 rfl dX6_couldPass_36 rfl ?_
    refine sm_getR C fo_6_0 rfl wd109 kd_4 dX6_couldPass_37 (rv_4_0 w) (by decide) ?_
    refine sm_iload_n C 4 rfl dX6_couldPass_40 rfl ?_
    refine sm_iald C kd_5 dX6_couldPass_41 (fun h_6 => ?_)
    refine sm_aload_n C 2 rfl dX6_couldPass_42 rfl ?_
    refine sm_getI C fo_0_3 rfl wd110 (kdC hk1) dX6_couldPass_43 ?_
    refine sm_icmp_lt C dX6_couldPass_46 (tgt := 53) rfl (fun h_7 => ?_) (fun h_7 => ?_)
    · refine sm_iconst C ic_1 dX6_couldPass_49 ?_
      refine sm_goto C dX6_couldPass_50 (tgt := 54) rfl ?_
      refine sm_cVI (As := [.ref (hB G + k1), .int x2, .int x3, .int 1]) C cfX6_whyNot wd105 kd_4 rfl rfl rfl rfl rfl dX6_couldPass_54 (fun r h => mX6_whyNot hk1 h) (fun r_8 => ?_)
      refine sm_if_ne C dX6_couldPass_57 (tgt := 64) rfl (fun h_10 => ?_) (fun h_10 => ?_)
      · refine sm_iconst C ic_1 dX6_couldPass_60 ?_
        refine sm_goto C dX6_couldPass_61 (tgt := 65) rfl ?_
        exact sm_zret C E rfl rfl dX6_couldPass_65
      · refine sm_iconst C ic_0 dX6_couldPass_64 ?_
        exact sm_zret C E rfl rfl dX6_couldPass_65
    · refine sm_iconst C ic_0 dX6_couldPass_53 ?_
      refine sm_cVI (As := [.ref (hB G + k1), .int x2, .int x3, .int 0]) C cfX6_whyNot wd105 kd_4 rfl rfl rfl rfl rfl dX6_couldPass_54 (fun r h => mX6_whyNot hk1 h) (fun r_11 => ?_)
      refine sm_if_ne C dX6_couldPass_57 (tgt := 64) rfl (fun h_13 => ?_) (fun h_13 => ?_)
      · refine sm_iconst C ic_1 dX6_couldPass_60 ?_
        refine sm_goto C dX6_couldPass_61 (tgt := 65) rfl ?_
        exact sm_zret C E rfl rfl dX6_couldPass_65
      · refine sm_iconst C ic_0 dX6_couldPass_64 ?_
        exact sm_zret C E rfl rfl dX6_couldPass_65
  · refine sm_iconst C ic_0 dX6_couldPass_64 ?_
    exact sm_zret C E rfl rfl dX6_couldPass_65
set_option maxRecDepth 100000 in
set_option maxHeartbeats 4000000 in
theorem mX6_couldPass {b : Bx} {w : HW} {k1 : Nat} {x2 : Int32} {x3 : Int32} (hk1 : isC k1 = true) {a : Int32} (h : fX6_couldPass w k1 x2 x3 = some a) : Mt b yX6_couldPass cX6_couldPass 5 (some .boolean) 2 46 [.ref (bB b + 4), .ref (bB b + k1), .int x2, .int x3] w (some (.int a)) w := by
  refine Mt.of (ρI w) h (by decide) (Nat.le_of_ble_eq_true rfl) (fun G hG C E => ?_)
  subst hG
  have C : Cx G cX6_couldPass RX6 5 2 46 := C
  change Sm G a 0 [(0, .ref (hB G + 4)), (1, .ref (hB G + k1)), (2, .int x2), (3, .int x3)] [] w _
  unfold fX6_couldPass
  refine sm_aload_n C 0 rfl dX6_couldPass_0 rfl ?_
  refine sm_getR C fo_6_1 rfl wd89 kd_4 dX6_couldPass_1 (rv_4_1 w) (by decide) ?_
  refine sm_iload_n C 2 rfl dX6_couldPass_4 rfl ?_
  refine sm_iald C kd_6 dX6_couldPass_5 (fun h_1 => ?_)
  refine sm_iconst C ic_m1 dX6_couldPass_6 ?_
  refine sm_icmp_eq C dX6_couldPass_7 (tgt := 24) rfl (fun h_2 => ?_) (fun h_2 => ?_)
  · refine sm_aload_n C 0 rfl dX6_couldPass_10 rfl ?_
    refine sm_getR C fo_6_1 rfl wd89 kd_4 dX6_couldPass_11 (rv_4_1 w) (by decide) ?_
    refine sm_iload_n C 2 rfl dX6_couldPass_14 rfl ?_
    refine sm_iald C kd_6 dX6_couldPass_15 (fun h_3 => ?_)
    refine sm_iload_n C 3 rfl dX6_couldPass_16 rfl ?_
    refine sm_icmp_eq C dX6_couldPass_17 (tgt := 24) rfl (fun h_4 => ?_) (fun h_4 => ?_)
    · refine sm_iconst C ic_1 dX6_couldPass_20 ?_
      refine sm_goto C dX6_couldPass_21 (tgt := 25) rfl ?_
      exact sX6_couldPass_25 C E k1 hk1 x2 x3 1
    · refine sm_iconst C ic_0 dX6_couldPass_24 ?_
      exact sX6_couldPass_25 C E k1 hk1 x2 x3 0
  · refine sm_iconst C ic_0 dX6_couldPass_24 ?_
    exact sX6_couldPass_25 C E k1 hk1 x2 x3 0
/-! X9_open -/
set_option maxRecDepth 100000 in
set_option maxHeartbeats 4000000 in
theorem sX9_open_43 {G : Gx} {a : Int32 × HW} (C : Cx G cX9_open RX9 5 6 135) (E : Rx G ρIW a (some .int)) {K16 : HW → Int32 → Int32 → Option (Int32 × HW)} {x1 : Int32} {x3 : Int32} (hK16 : ∀ (w' : HW) (x2' : Int32) (x3' : Int32), Sm G a 29 [(0, .ref (hB G + 0)), (1, .int x1), (2, .int (x2')), (3, .int (x3'))] [] w' (K16 w' x2' x3')) : ∀ (n : Nat) (w : HW) (x2 : Int32) (x4 : Int32), Sm G a 43 [(0, .ref (hB G + 0)), (1, .int x1), (2, .int x2), (3, .int x3), (4, .int x4)] [] w (fX9_open_43 K16 x1 x3 n w x2 x4) := by
  intro n
  induction n with
  | zero => intro _ _ _; exact sm_none
  | succ n ih =>
    intro w x2 x4
    rw [fX9_open_43]
    refine sm_iload C 4 rfl dX9_open_43 ?_
    refine sm_aload_n C 0 rfl dX9_open_45 rfl ?_
    refine sm_getC C fo_9_10 rfl wd58 kd_0 dX9_open_46 rfl (fun j_10 hj_10 => ?_)
    refine sm_getI C fo_0_10 rfl wd120 (kdC hj_10) dX9_open_49 ?_
    refine sm_icmp_ge C dX9_open_52 (tgt := 98) rfl (fun h_11 => ?_) (fun h_11 => ?_)
    · refine sm_aload_n C 0 rfl dX9_open_55 rfl ?_
      refine sm_getC C fo_9_10 rfl wd58 kd_0 dX9_open_56 rfl (fun j_12 hj_12 => ?_)
      refine sm_getR C fo_0_11 rfl wd67 (kdC hj_12) dX9_open_59 (rvC_11 hj_12 w) (nzC_4 hj_12) ?_
      refine sm_iload C 4 rfl dX9_open_62 ?_
      refine sm_iald C (kdC_4 hj_12) dX9_open_64 (fun h_13 => ?_)
      refine sm_iload_n C 1 rfl dX9_open_65 rfl ?_
      refine sm_icmp_ne C dX9_open_66 (tgt := 92) rfl (fun h_14 => ?_) (fun h_14 => ?_)
      · refine sm_aload_n C 0 rfl dX9_open_69 rfl ?_
        refine sm_getR C fo_9_2 rfl wd115 kd_0 dX9_open_70 (rv_0_2 w) (by decide) ?_
        refine sm_aload_n C 0 rfl dX9_open_73 rfl ?_
        refine sm_getC C fo_9_10 rfl wd58 kd_0 dX9_open_74 rfl (fun j_15 hj_15 => ?_)
        refine sm_iload C 4 rfl dX9_open_77 ?_
        refine sm_iload_n C 3 rfl dX9_open_79 rfl ?_
        refine sm_cVI (As := [.ref (hB G + j_15), .int x4, .int x3]) C cfX6_couldPass wd121 kd_4 rfl rfl rfl rfl rfl dX9_open_80 (fun r h => mX6_couldPass hj_15 h) (fun r_16 => ?_)
        refine sm_if_eq C dX9_open_83 (tgt := 92) rfl (fun h_18 => ?_) (fun h_18 => ?_)
        · refine sm_iload_n C 2 rfl dX9_open_86 rfl ?_
          refine sm_iconst C ic_1 dX9_open_87 ?_
          refine sm_iload_n C 3 rfl dX9_open_88 rfl ?_
          refine sm_ishl C dX9_open_89 ?_
          refine sm_ior C dX9_open_90 ?_
          refine sm_let (fun x2_19 => ?_)
          refine sm_istore_n (lv1 := [(2, .int x2_19), (0, .ref (hB G + 0)), (1, .int x1), (3, .int x3), (4, .int x4)]) C dX9_open_91 rfl rfl rfl ?_
          refine sm_iinc (lv1 := [(4, .int (x4 + 1)), (2, .int x2_19), (0, .ref (hB G + 0)), (1, .int x1), (3, .int x3)]) C 4 rfl (iv_1 _) dX9_open_92 rfl rfl ?_
          refine sm_goto C dX9_open_95 (tgt := 43) rfl ?_
          refine sm_sub [2, 3, 1, 4, 0] rfl ?_
          exact ih w x2_19 (x4 + 1)
        · refine sm_iinc (lv1 := [(4, .int (x4 + 1)), (0, .ref (hB G + 0)), (1, .int x1), (2, .int x2), (3, .int x3)]) C 4 rfl (iv_1 _) dX9_open_92 rfl rfl ?_
          refine sm_goto C dX9_open_95 (tgt := 43) rfl ?_
          refine sm_sub [1, 2, 3, 4, 0] rfl ?_
          exact ih w x2 (x4 + 1)
      · refine sm_iinc (lv1 := [(4, .int (x4 + 1)), (0, .ref (hB G + 0)), (1, .int x1), (2, .int x2), (3, .int x3)]) C 4 rfl (iv_1 _) dX9_open_92 rfl rfl ?_
        refine sm_goto C dX9_open_95 (tgt := 43) rfl ?_
        refine sm_sub [1, 2, 3, 4, 0] rfl ?_
        exact ih w x2 (x4 + 1)
    · refine sm_iinc (lv1 := [(3, .int (x3 + 1)), (0, .ref (hB G + 0)), (1, .int x1), (2, .int x2), (4, .int x4)]) C 3 rfl (iv_1 _) dX9_open_98 rfl rfl ?_
      refine sm_goto C dX9_open_101 (tgt := 29) rfl ?_
      refine sm_sub [1, 2, 3, 0] rfl ?_
      exact hK16 w x2 (x3 + 1)
set_option maxRecDepth 100000 in
set_option maxHeartbeats 4000000 in
theorem sX9_open_29 {G : Gx} {a : Int32 × HW} (C : Cx G cX9_open RX9 5 6 135) (E : Rx G ρIW a (some .int)) {x1 : Int32} : ∀ (n : Nat) (w : HW) (x2 : Int32) (x3 : Int32), Sm G a 29 [(0, .ref (hB G + 0)), (1, .int x1), (2, .int x2), (3, .int x3)] [] w (fX9_open_29 x1 n w x2 x3) := by
  intro n
  induction n with
  | zero => intro _ _ _; exact sm_none
  | succ n ih =>
    intro w x2 x3
    rw [fX9_open_29]
    refine sm_iload_n C 3 rfl dX9_open_29 rfl ?_
    refine sm_aload_n C 0 rfl dX9_open_30 rfl ?_
    refine sm_getC C fo_9_10 rfl wd58 kd_0 dX9_open_31 rfl (fun j_8 hj_8 => ?_)
    refine sm_getI C fo_0_1 rfl wd118 (kdC hj_8) dX9_open_34 ?_
    refine sm_icmp_ge C dX9_open_37 (tgt := 104) rfl (fun h_9 => ?_) (fun h_9 => ?_)
    · refine sm_iconst C ic_0 dX9_open_40 ?_
      refine sm_istore (lv1 := [(4, .int 0), (0, .ref (hB G + 0)), (1, .int x1), (2, .int x2), (3, .int x3)]) C dX9_open_41 rfl rfl ?_
      refine sm_sub [1, 2, 3, 4, 0] rfl ?_
      exact sX9_open_43 C E (fun w x2 x3 => ih w x2 x3) FU w x2 0
    · refine sm_iload_n C 2 rfl dX9_open_104 rfl ?_
      exact sm_iret C E rfl dX9_open_105
set_option maxRecDepth 100000 in
set_option maxHeartbeats 4000000 in
theorem mX9_open {b : Bx} {w : HW} {x1 : Int32} {a : Int32 × HW} (h : fX9_open w x1 = some a) : Mt b yX9_open cX9_open 5 (some .int) 6 135 [.ref (bB b + 0), .int x1] w (some (.int a.1)) a.2 := by
  refine Mt.of ρIW h (by decide) (Nat.le_of_ble_eq_true rfl) (fun G hG C E => ?_)
  subst hG
  have C : Cx G cX9_open RX9 5 6 135 := C
  change Sm G a 0 [(0, .ref (hB G + 0)), (1, .int x1)] [] w _
  unfold fX9_open
  refine sm_aload_n C 0 rfl dX9_open_0 rfl ?_
  refine sm_getC C fo_9_10 rfl wd58 kd_0 dX9_open_1 rfl (fun j_1 hj_1 => ?_)
  refine sm_iload_n C 1 rfl dX9_open_4 rfl ?_
  refine sm_cVI (As := [.int x1]) C cfX0_hasSide wd77 (kdC hj_1) rfl rfl rfl rfl rfl dX9_open_5 (fun r h => mX0_hasSide hj_1 h) (fun r_2 => ?_)
  refine sm_if_ne C dX9_open_8 (tgt := 14) rfl (fun h_4 => ?_) (fun h_4 => ?_)
  · refine sm_bipush C bp_m2 dX9_open_11 ?_
    exact sm_iret C E rfl dX9_open_13
  · refine sm_aload_n C 0 rfl dX9_open_14 rfl ?_
    refine sm_getR C fo_9_2 rfl wd115 kd_0 dX9_open_15 (rv_0_2 w) (by decide) ?_
    refine sm_aload_n C 0 rfl dX9_open_18 rfl ?_
    refine sm_getC C fo_9_10 rfl wd58 kd_0 dX9_open_19 rfl (fun j_5 hj_5 => ?_)
    refine sm_cVW (As := [.ref (hB G + j_5)]) C cfX6_play wd116 kd_4 rfl rfl rfl rfl rfl dX9_open_22 (fun r h => mX6_play hj_5 h) (fun w_7 => ?_)
    refine sm_iconst C ic_0 dX9_open_25 ?_
    refine sm_istore_n (lv1 := [(2, .int 0), (0, .ref (hB G + 0)), (1, .int x1)]) C dX9_open_26 rfl rfl rfl ?_
    refine sm_iconst C ic_0 dX9_open_27 ?_
    refine sm_istore_n (lv1 := [(3, .int 0), (2, .int 0), (0, .ref (hB G + 0)), (1, .int x1)]) C dX9_open_28 rfl rfl rfl ?_
    refine sm_sub [2, 3, 1, 0] rfl ?_
    exact sX9_open_29 C E FU w_7 0 0
/-! X9_best -/
set_option maxRecDepth 100000 in
set_option maxHeartbeats 4000000 in
theorem sX9_best_32 {G : Gx} {a : Int32 × HW} (C : Cx G cX9_best RX9 5 6 135) (E : Rx G ρIW a (some .int)) {x1 : Int32} : ∀ (n : Nat) (w : HW) (x2 : Int32) (x3 : Int32) (x4 : Int32), Sm G a 32 [(0, .ref (hB G + 0)), (1, .int x1), (2, .int x2), (3, .int x3), (4, .int x4)] [] w (fX9_best_32 x1 n w x2 x3 x4) := by
  intro n
  induction n with
  | zero => intro _ _ _ _; exact sm_none
  | succ n ih =>
    intro w x2 x3 x4
    rw [fX9_best_32]
    refine sm_iload C 4 rfl dX9_best_32 ?_
    refine sm_aload_n C 0 rfl dX9_best_34 rfl ?_
    refine sm_getC C fo_9_10 rfl wd58 kd_0 dX9_best_35 rfl (fun j_8 hj_8 => ?_)
    refine sm_getI C fo_0_10 rfl wd120 (kdC hj_8) dX9_best_38 ?_
    refine sm_icmp_ge C dX9_best_41 (tgt := 95) rfl (fun h_9 => ?_) (fun h_9 => ?_)
    · refine sm_aload_n C 0 rfl dX9_best_44 rfl ?_
      refine sm_getC C fo_9_10 rfl wd58 kd_0 dX9_best_45 rfl (fun j_10 hj_10 => ?_)
      refine sm_getR C fo_0_12 rfl wd68 (kdC hj_10) dX9_best_48 (rvC_12 hj_10 w) (nzC_5 hj_10) ?_
      refine sm_iload C 4 rfl dX9_best_51 ?_
      refine sm_iald C (kdC_5 hj_10) dX9_best_53 (fun h_11 => ?_)
      refine sm_iload_n C 3 rfl dX9_best_54 rfl ?_
      refine sm_icmp_le C dX9_best_55 (tgt := 89) rfl (fun h_12 => ?_) (fun h_12 => ?_)
      · refine sm_aload_n C 0 rfl dX9_best_58 rfl ?_
        refine sm_getR C fo_9_2 rfl wd115 kd_0 dX9_best_59 (rv_0_2 w) (by decide) ?_
        refine sm_aload_n C 0 rfl dX9_best_62 rfl ?_
        refine sm_getC C fo_9_10 rfl wd58 kd_0 dX9_best_63 rfl (fun j_13 hj_13 => ?_)
        refine sm_iload C 4 rfl dX9_best_66 ?_
        refine sm_iload_n C 1 rfl dX9_best_68 rfl ?_
        refine sm_cVI (As := [.ref (hB G + j_13), .int x4, .int x1]) C cfX6_couldPass wd121 kd_4 rfl rfl rfl rfl rfl dX9_best_69 (fun r h => mX6_couldPass hj_13 h) (fun r_14 => ?_)
        refine sm_if_eq C dX9_best_72 (tgt := 89) rfl (fun h_16 => ?_) (fun h_16 => ?_)
        · refine sm_aload_n C 0 rfl dX9_best_75 rfl ?_
          refine sm_getC C fo_9_10 rfl wd58 kd_0 dX9_best_76 rfl (fun j_17 hj_17 => ?_)
          refine sm_getR C fo_0_12 rfl wd68 (kdC hj_17) dX9_best_79 (rvC_12 hj_17 w) (nzC_5 hj_17) ?_
          refine sm_iload C 4 rfl dX9_best_82 ?_
          refine sm_iald C (kdC_5 hj_17) dX9_best_84 (fun h_18 => ?_)
          refine sm_let (fun x3_19 => ?_)
          refine sm_istore_n (lv1 := [(3, .int x3_19), (0, .ref (hB G + 0)), (1, .int x1), (2, .int x2), (4, .int x4)]) C dX9_best_85 rfl rfl rfl ?_
          refine sm_iload C 4 rfl dX9_best_86 ?_
          refine sm_istore_n (lv1 := [(2, .int x4), (3, .int x3_19), (0, .ref (hB G + 0)), (1, .int x1), (4, .int x4)]) C dX9_best_88 rfl rfl rfl ?_
          refine sm_iinc (lv1 := [(4, .int (x4 + 1)), (2, .int x4), (3, .int x3_19), (0, .ref (hB G + 0)), (1, .int x1)]) C 4 rfl (iv_1 _) dX9_best_89 rfl rfl ?_
          refine sm_goto C dX9_best_92 (tgt := 32) rfl ?_
          refine sm_sub [3, 4, 1, 2, 0] rfl ?_
          exact ih w x4 x3_19 (x4 + 1)
        · refine sm_iinc (lv1 := [(4, .int (x4 + 1)), (0, .ref (hB G + 0)), (1, .int x1), (2, .int x2), (3, .int x3)]) C 4 rfl (iv_1 _) dX9_best_89 rfl rfl ?_
          refine sm_goto C dX9_best_92 (tgt := 32) rfl ?_
          refine sm_sub [1, 2, 3, 4, 0] rfl ?_
          exact ih w x2 x3 (x4 + 1)
      · refine sm_iinc (lv1 := [(4, .int (x4 + 1)), (0, .ref (hB G + 0)), (1, .int x1), (2, .int x2), (3, .int x3)]) C 4 rfl (iv_1 _) dX9_best_89 rfl rfl ?_
        refine sm_goto C dX9_best_92 (tgt := 32) rfl ?_
        refine sm_sub [1, 2, 3, 4, 0] rfl ?_
        exact ih w x2 x3 (x4 + 1)
    · refine sm_iload_n C 2 rfl dX9_best_95 rfl ?_
      exact sm_iret C E rfl dX9_best_96
set_option maxRecDepth 100000 in
set_option maxHeartbeats 4000000 in
theorem mX9_best {b : Bx} {w : HW} {x1 : Int32} {a : Int32 × HW} (h : fX9_best w x1 = some a) : Mt b yX9_best cX9_best 5 (some .int) 6 135 [.ref (bB b + 0), .int x1] w (some (.int a.1)) a.2 := by
  refine Mt.of ρIW h (by decide) (Nat.le_of_ble_eq_true rfl) (fun G hG C E => ?_)
  subst hG
  have C : Cx G cX9_best RX9 5 6 135 := C
  change Sm G a 0 [(0, .ref (hB G + 0)), (1, .int x1)] [] w _
  unfold fX9_best
  refine sm_aload_n C 0 rfl dX9_best_0 rfl ?_
  refine sm_getC C fo_9_10 rfl wd58 kd_0 dX9_best_1 rfl (fun j_1 hj_1 => ?_)
  refine sm_iload_n C 1 rfl dX9_best_4 rfl ?_
  refine sm_cVI (As := [.int x1]) C cfX0_hasDay wd80 (kdC hj_1) rfl rfl rfl rfl rfl dX9_best_5 (fun r h => mX0_hasDay hj_1 h) (fun r_2 => ?_)
  refine sm_if_ne C dX9_best_8 (tgt := 14) rfl (fun h_4 => ?_) (fun h_4 => ?_)
  · refine sm_bipush C bp_m2 dX9_best_11 ?_
    exact sm_iret C E rfl dX9_best_13
  · refine sm_aload_n C 0 rfl dX9_best_14 rfl ?_
    refine sm_getR C fo_9_2 rfl wd115 kd_0 dX9_best_15 (rv_0_2 w) (by decide) ?_
    refine sm_aload_n C 0 rfl dX9_best_18 rfl ?_
    refine sm_getC C fo_9_10 rfl wd58 kd_0 dX9_best_19 rfl (fun j_5 hj_5 => ?_)
    refine sm_cVW (As := [.ref (hB G + j_5)]) C cfX6_play wd116 kd_4 rfl rfl rfl rfl rfl dX9_best_22 (fun r h => mX6_play hj_5 h) (fun w_7 => ?_)
    refine sm_iconst C ic_m1 dX9_best_25 ?_
    refine sm_istore_n (lv1 := [(2, .int (-1)), (0, .ref (hB G + 0)), (1, .int x1)]) C dX9_best_26 rfl rfl rfl ?_
    refine sm_iconst C ic_m1 dX9_best_27 ?_
    refine sm_istore_n (lv1 := [(3, .int (-1)), (2, .int (-1)), (0, .ref (hB G + 0)), (1, .int x1)]) C dX9_best_28 rfl rfl rfl ?_
    refine sm_iconst C ic_0 dX9_best_29 ?_
    refine sm_istore (lv1 := [(4, .int 0), (3, .int (-1)), (2, .int (-1)), (0, .ref (hB G + 0)), (1, .int x1)]) C dX9_best_30 rfl rfl ?_
    refine sm_sub [3, 4, 2, 1, 0] rfl ?_
    exact sX9_best_32 C E FU w_7 (-1) (-1) 0
/-! X0_askedDays -/
set_option maxRecDepth 100000 in
set_option maxHeartbeats 4000000 in
theorem sX0_askedDays_4 {G : Gx} {a : Int32} {w : HW} (C : Cx G cX0_askedDays RX0 3 0 0) (E : Rx G (ρI w) a (some .int)) {k0 : Nat} (hk0 : isC k0 = true) : ∀ (n : Nat) (x1 : Int32) (x2 : Int32), Sm G a 4 [(0, .ref (hB G + k0)), (1, .int x1), (2, .int x2)] [] w (fX0_askedDays_4 w k0 n x1 x2) := by
  intro n
  induction n with
  | zero => intro _ _; exact sm_none
  | succ n ih =>
    intro x1 x2
    rw [fX0_askedDays_4]
    refine sm_iload_n C 2 rfl dX0_askedDays_4 rfl ?_
    refine sm_aload_n C 0 rfl dX0_askedDays_5 rfl ?_
    refine sm_getI C fo_0_14 rfl wd13 (kdC hk0) dX0_askedDays_6 ?_
    refine sm_icmp_ge C dX0_askedDays_9 (tgt := 39) rfl (fun h_1 => ?_) (fun h_1 => ?_)
    · refine sm_aload_n C 0 rfl dX0_askedDays_12 rfl ?_
      refine sm_getR C fo_0_16 rfl wd122 (kdC hk0) dX0_askedDays_13 (rvC_16 hk0 w) (nzC_8 hk0) ?_
      refine sm_iload_n C 2 rfl dX0_askedDays_16 rfl ?_
      refine sm_iald C (kdC_8 hk0) dX0_askedDays_17 (fun h_2 => ?_)
      refine sm_iconst C ic_m1 dX0_askedDays_18 ?_
      refine sm_icmp_eq C dX0_askedDays_19 (tgt := 33) rfl (fun h_3 => ?_) (fun h_3 => ?_)
      · refine sm_iload_n C 1 rfl dX0_askedDays_22 rfl ?_
        refine sm_iconst C ic_1 dX0_askedDays_23 ?_
        refine sm_aload_n C 0 rfl dX0_askedDays_24 rfl ?_
        refine sm_getR C fo_0_15 rfl wd123 (kdC hk0) dX0_askedDays_25 (rvC_15 hk0 w) (nzC_7 hk0) ?_
        refine sm_iload_n C 2 rfl dX0_askedDays_28 rfl ?_
        refine sm_iald C (kdC_7 hk0) dX0_askedDays_29 (fun h_4 => ?_)
        refine sm_ishl C dX0_askedDays_30 ?_
        refine sm_ior C dX0_askedDays_31 ?_
        refine sm_let (fun x1_5 => ?_)
        refine sm_istore_n (lv1 := [(1, .int x1_5), (0, .ref (hB G + k0)), (2, .int x2)]) C dX0_askedDays_32 rfl rfl rfl ?_
        refine sm_iinc (lv1 := [(2, .int (x2 + 1)), (1, .int x1_5), (0, .ref (hB G + k0))]) C 2 rfl (iv_1 _) dX0_askedDays_33 rfl rfl ?_
        refine sm_goto C dX0_askedDays_36 (tgt := 4) rfl ?_
        refine sm_sub [2, 1, 0] rfl ?_
        exact ih x1_5 (x2 + 1)
      · refine sm_iinc (lv1 := [(2, .int (x2 + 1)), (0, .ref (hB G + k0)), (1, .int x1)]) C 2 rfl (iv_1 _) dX0_askedDays_33 rfl rfl ?_
        refine sm_goto C dX0_askedDays_36 (tgt := 4) rfl ?_
        refine sm_sub [1, 2, 0] rfl ?_
        exact ih x1 (x2 + 1)
    · refine sm_iload_n C 1 rfl dX0_askedDays_39 rfl ?_
      exact sm_iret C E rfl dX0_askedDays_40
set_option maxRecDepth 100000 in
set_option maxHeartbeats 4000000 in
theorem mX0_askedDays {b : Bx} {w : HW} {k0 : Nat} (hk0 : isC k0 = true) {a : Int32} (h : fX0_askedDays w k0 = some a) : Mt b yX0_askedDays cX0_askedDays 3 (some .int) 0 0 [.ref (bB b + k0)] w (some (.int a)) w := by
  refine Mt.of (ρI w) h (by decide) (Nat.le_of_ble_eq_true rfl) (fun G hG C E => ?_)
  subst hG
  have C : Cx G cX0_askedDays RX0 3 0 0 := C
  change Sm G a 0 [(0, .ref (hB G + k0))] [] w _
  unfold fX0_askedDays
  refine sm_iconst C ic_0 dX0_askedDays_0 ?_
  refine sm_istore_n (lv1 := [(1, .int 0), (0, .ref (hB G + k0))]) C dX0_askedDays_1 rfl rfl rfl ?_
  refine sm_iconst C ic_0 dX0_askedDays_2 ?_
  refine sm_istore_n (lv1 := [(2, .int 0), (1, .int 0), (0, .ref (hB G + k0))]) C dX0_askedDays_3 rfl rfl rfl ?_
  refine sm_sub [2, 1, 0] rfl ?_
  exact sX0_askedDays_4 C E hk0 FU 0 0
/-! X9_asked -/
set_option maxRecDepth 100000 in
set_option maxHeartbeats 4000000 in
theorem mX9_asked {b : Bx} {w : HW} {a : Int32} (h : fX9_asked w = some a) : Mt b yX9_asked cX9_asked 1 (some .int) 1 22 [.ref (bB b + 0)] w (some (.int a)) w := by
  refine Mt.of (ρI w) h (by decide) (Nat.le_of_ble_eq_true rfl) (fun G hG C E => ?_)
  subst hG
  have C : Cx G cX9_asked RX9 1 1 22 := C
  change Sm G a 0 [(0, .ref (hB G + 0))] [] w _
  unfold fX9_asked
  refine sm_aload_n C 0 rfl dX9_asked_0 rfl ?_
  refine sm_getC C fo_9_10 rfl wd58 kd_0 dX9_asked_1 rfl (fun j_1 hj_1 => ?_)
  refine sm_cVI (As := []) C cfX0_isTold wd70 (kdC hj_1) rfl rfl rfl rfl rfl dX9_asked_4 (fun r h => mX0_isTold hj_1 h) (fun r_2 => ?_)
  refine sm_if_eq C dX9_asked_7 (tgt := 20) rfl (fun h_4 => ?_) (fun h_4 => ?_)
  · refine sm_aload_n C 0 rfl dX9_asked_10 rfl ?_
    refine sm_getC C fo_9_10 rfl wd58 kd_0 dX9_asked_11 rfl (fun j_5 hj_5 => ?_)
    refine sm_cVI (As := []) C cfX0_askedDays wd124 (kdC hj_5) rfl rfl rfl rfl rfl dX9_asked_14 (fun r h => mX0_askedDays hj_5 h) (fun r_6 => ?_)
    refine sm_goto C dX9_asked_17 (tgt := 22) rfl ?_
    exact sm_iret C E rfl dX9_asked_22
  · refine sm_bipush C bp_m2 dX9_asked_20 ?_
    exact sm_iret C E rfl dX9_asked_22
/-! X0_fedDays -/
set_option maxRecDepth 100000 in
set_option maxHeartbeats 4000000 in
theorem sX0_fedDays_4 {G : Gx} {a : Int32} {w : HW} (C : Cx G cX0_fedDays RX0 3 0 0) (E : Rx G (ρI w) a (some .int)) {k0 : Nat} (hk0 : isC k0 = true) : ∀ (n : Nat) (x1 : Int32) (x2 : Int32), Sm G a 4 [(0, .ref (hB G + k0)), (1, .int x1), (2, .int x2)] [] w (fX0_fedDays_4 w k0 n x1 x2) := by
  intro n
  induction n with
  | zero => intro _ _; exact sm_none
  | succ n ih =>
    intro x1 x2
    rw [fX0_fedDays_4]
    refine sm_iload_n C 2 rfl dX0_fedDays_4 rfl ?_
    refine sm_aload_n C 0 rfl dX0_fedDays_5 rfl ?_
    refine sm_getI C fo_0_14 rfl wd13 (kdC hk0) dX0_fedDays_6 ?_
    refine sm_icmp_ge C dX0_fedDays_9 (tgt := 39) rfl (fun h_1 => ?_) (fun h_1 => ?_)
    · refine sm_aload_n C 0 rfl dX0_fedDays_12 rfl ?_
      refine sm_getR C fo_0_16 rfl wd122 (kdC hk0) dX0_fedDays_13 (rvC_16 hk0 w) (nzC_8 hk0) ?_
      refine sm_iload_n C 2 rfl dX0_fedDays_16 rfl ?_
      refine sm_iald C (kdC_8 hk0) dX0_fedDays_17 (fun h_2 => ?_)
      refine sm_iconst C ic_m1 dX0_fedDays_18 ?_
      refine sm_icmp_ne C dX0_fedDays_19 (tgt := 33) rfl (fun h_3 => ?_) (fun h_3 => ?_)
      · refine sm_iload_n C 1 rfl dX0_fedDays_22 rfl ?_
        refine sm_iconst C ic_1 dX0_fedDays_23 ?_
        refine sm_aload_n C 0 rfl dX0_fedDays_24 rfl ?_
        refine sm_getR C fo_0_15 rfl wd123 (kdC hk0) dX0_fedDays_25 (rvC_15 hk0 w) (nzC_7 hk0) ?_
        refine sm_iload_n C 2 rfl dX0_fedDays_28 rfl ?_
        refine sm_iald C (kdC_7 hk0) dX0_fedDays_29 (fun h_4 => ?_)
        refine sm_ishl C dX0_fedDays_30 ?_
        refine sm_ior C dX0_fedDays_31 ?_
        refine sm_let (fun x1_5 => ?_)
        refine sm_istore_n (lv1 := [(1, .int x1_5), (0, .ref (hB G + k0)), (2, .int x2)]) C dX0_fedDays_32 rfl rfl rfl ?_
        refine sm_iinc (lv1 := [(2, .int (x2 + 1)), (1, .int x1_5), (0, .ref (hB G + k0))]) C 2 rfl (iv_1 _) dX0_fedDays_33 rfl rfl ?_
        refine sm_goto C dX0_fedDays_36 (tgt := 4) rfl ?_
        refine sm_sub [2, 1, 0] rfl ?_
        exact ih x1_5 (x2 + 1)
      · refine sm_iinc (lv1 := [(2, .int (x2 + 1)), (0, .ref (hB G + k0)), (1, .int x1)]) C 2 rfl (iv_1 _) dX0_fedDays_33 rfl rfl ?_
        refine sm_goto C dX0_fedDays_36 (tgt := 4) rfl ?_
        refine sm_sub [1, 2, 0] rfl ?_
        exact ih x1 (x2 + 1)
    · refine sm_iload_n C 1 rfl dX0_fedDays_39 rfl ?_
      exact sm_iret C E rfl dX0_fedDays_40
set_option maxRecDepth 100000 in
set_option maxHeartbeats 4000000 in
theorem mX0_fedDays {b : Bx} {w : HW} {k0 : Nat} (hk0 : isC k0 = true) {a : Int32} (h : fX0_fedDays w k0 = some a) : Mt b yX0_fedDays cX0_fedDays 3 (some .int) 0 0 [.ref (bB b + k0)] w (some (.int a)) w := by
  refine Mt.of (ρI w) h (by decide) (Nat.le_of_ble_eq_true rfl) (fun G hG C E => ?_)
  subst hG
  have C : Cx G cX0_fedDays RX0 3 0 0 := C
  change Sm G a 0 [(0, .ref (hB G + k0))] [] w _
  unfold fX0_fedDays
  refine sm_iconst C ic_0 dX0_fedDays_0 ?_
  refine sm_istore_n (lv1 := [(1, .int 0), (0, .ref (hB G + k0))]) C dX0_fedDays_1 rfl rfl rfl ?_
  refine sm_iconst C ic_0 dX0_fedDays_2 ?_
  refine sm_istore_n (lv1 := [(2, .int 0), (1, .int 0), (0, .ref (hB G + k0))]) C dX0_fedDays_3 rfl rfl rfl ?_
  refine sm_sub [2, 1, 0] rfl ?_
  exact sX0_fedDays_4 C E hk0 FU 0 0
/-! X9_fattened -/
set_option maxRecDepth 100000 in
set_option maxHeartbeats 4000000 in
theorem mX9_fattened {b : Bx} {w : HW} {a : Int32} (h : fX9_fattened w = some a) : Mt b yX9_fattened cX9_fattened 1 (some .int) 1 22 [.ref (bB b + 0)] w (some (.int a)) w := by
  refine Mt.of (ρI w) h (by decide) (Nat.le_of_ble_eq_true rfl) (fun G hG C E => ?_)
  subst hG
  have C : Cx G cX9_fattened RX9 1 1 22 := C
  change Sm G a 0 [(0, .ref (hB G + 0))] [] w _
  unfold fX9_fattened
  refine sm_aload_n C 0 rfl dX9_fattened_0 rfl ?_
  refine sm_getC C fo_9_10 rfl wd58 kd_0 dX9_fattened_1 rfl (fun j_1 hj_1 => ?_)
  refine sm_cVI (As := []) C cfX0_isTold wd70 (kdC hj_1) rfl rfl rfl rfl rfl dX9_fattened_4 (fun r h => mX0_isTold hj_1 h) (fun r_2 => ?_)
  refine sm_if_eq C dX9_fattened_7 (tgt := 20) rfl (fun h_4 => ?_) (fun h_4 => ?_)
  · refine sm_aload_n C 0 rfl dX9_fattened_10 rfl ?_
    refine sm_getC C fo_9_10 rfl wd58 kd_0 dX9_fattened_11 rfl (fun j_5 hj_5 => ?_)
    refine sm_cVI (As := []) C cfX0_fedDays wd125 (kdC hj_5) rfl rfl rfl rfl rfl dX9_fattened_14 (fun r h => mX0_fedDays hj_5 h) (fun r_6 => ?_)
    refine sm_goto C dX9_fattened_17 (tgt := 22) rfl ?_
    exact sm_iret C E rfl dX9_fattened_22
  · refine sm_bipush C bp_m2 dX9_fattened_20 ?_
    exact sm_iret C E rfl dX9_fattened_22
/-! X9_longestRun -/
set_option maxRecDepth 100000 in
set_option maxHeartbeats 4000000 in
theorem sX9_longestRun_6 {G : Gx} {a : Int32} {w : HW} (C : Cx G cX9_longestRun RX9 4 1 21) (E : Rx G (ρI w) a (some .int)) {x0 : Int32} : ∀ (n : Nat) (x1 : Int32) (x2 : Int32) (x3 : Int32), Sm G a 6 [(0, .int x0), (1, .int x1), (2, .int x2), (3, .int x3)] [] w (fX9_longestRun_6 w x0 n x1 x2 x3) := by
  intro n
  induction n with
  | zero => intro _ _ _; exact sm_none
  | succ n ih =>
    intro x1 x2 x3
    rw [fX9_longestRun_6]
    refine sm_iload_n C 3 rfl dX9_longestRun_6 rfl ?_
    refine sm_bipush C bp_14 dX9_longestRun_7 ?_
    refine sm_icmp_ge C dX9_longestRun_9 (tgt := 40) rfl (fun h_1 => ?_) (fun h_1 => ?_)
    · refine sm_iload_n C 0 rfl dX9_longestRun_12 rfl ?_
      refine sm_iload_n C 3 rfl dX9_longestRun_13 rfl ?_
      refine sm_cSI (As := [.int x0, .int x3]) C cfX9_holds wd126 rfl rfl rfl rfl dX9_longestRun_14 (fun r h => mX9_holds  h) (fun r_2 => ?_)
      refine sm_if_eq C dX9_longestRun_17 (tgt := 26) rfl (fun h_4 => ?_) (fun h_4 => ?_)
      · refine sm_iload_n C 2 rfl dX9_longestRun_20 rfl ?_
        refine sm_iconst C ic_1 dX9_longestRun_21 ?_
        refine sm_iadd C dX9_longestRun_22 ?_
        refine sm_goto C dX9_longestRun_23 (tgt := 27) rfl ?_
        refine sm_let (fun x2_5 => ?_)
        refine sm_istore_n (lv1 := [(2, .int x2_5), (0, .int x0), (1, .int x1), (3, .int x3)]) C dX9_longestRun_27 rfl rfl rfl ?_
        refine sm_iload_n C 2 rfl dX9_longestRun_28 rfl ?_
        refine sm_iload_n C 0 rfl dX9_longestRun_29 rfl ?_
        refine sm_max C wd127 max_st math_in max_co rfl dX9_longestRun_30 ?_
        refine sm_let (fun x1_6 => ?_)
        refine sm_istore_n (lv1 := [(1, .int x1_6), (2, .int x2_5), (0, .int x0), (3, .int x3)]) C dX9_longestRun_33 rfl rfl rfl ?_
        refine sm_iinc (lv1 := [(3, .int (x3 + 1)), (1, .int x1_6), (2, .int x2_5), (0, .int x0)]) C 3 rfl (iv_1 _) dX9_longestRun_34 rfl rfl ?_
        refine sm_goto C dX9_longestRun_37 (tgt := 6) rfl ?_
        refine sm_sub [3, 1, 2, 0] rfl ?_
        exact ih x1_6 x2_5 (x3 + 1)
      · refine sm_iconst C ic_0 dX9_longestRun_26 ?_
        refine sm_istore_n (lv1 := [(2, .int 0), (0, .int x0), (1, .int x1), (3, .int x3)]) C dX9_longestRun_27 rfl rfl rfl ?_
        refine sm_iload_n C 2 rfl dX9_longestRun_28 rfl ?_
        refine sm_iload_n C 0 rfl dX9_longestRun_29 rfl ?_
        refine sm_max C wd127 max_st math_in max_co rfl dX9_longestRun_30 ?_
        refine sm_let (fun x1_7 => ?_)
        refine sm_istore_n (lv1 := [(1, .int x1_7), (2, .int 0), (0, .int x0), (3, .int x3)]) C dX9_longestRun_33 rfl rfl rfl ?_
        refine sm_iinc (lv1 := [(3, .int (x3 + 1)), (1, .int x1_7), (2, .int 0), (0, .int x0)]) C 3 rfl (iv_1 _) dX9_longestRun_34 rfl rfl ?_
        refine sm_goto C dX9_longestRun_37 (tgt := 6) rfl ?_
        refine sm_sub [3, 1, 2, 0] rfl ?_
        exact ih x1_7 0 (x3 + 1)
    · refine sm_iload_n C 1 rfl dX9_longestRun_40 rfl ?_
      exact sm_iret C E rfl dX9_longestRun_41
set_option maxRecDepth 100000 in
set_option maxHeartbeats 4000000 in
theorem mX9_longestRun {b : Bx} {w : HW} {x0 : Int32} {a : Int32} (h : fX9_longestRun w x0 = some a) : Mt b yX9_longestRun cX9_longestRun 4 (some .int) 1 21 [.int x0] w (some (.int a)) w := by
  refine Mt.of (ρI w) h (by decide) (Nat.le_of_ble_eq_true rfl) (fun G hG C E => ?_)
  subst hG
  have C : Cx G cX9_longestRun RX9 4 1 21 := C
  change Sm G a 0 [(0, .int x0)] [] w _
  unfold fX9_longestRun
  refine sm_iconst C ic_0 dX9_longestRun_0 ?_
  refine sm_istore_n (lv1 := [(1, .int 0), (0, .int x0)]) C dX9_longestRun_1 rfl rfl rfl ?_
  refine sm_iconst C ic_0 dX9_longestRun_2 ?_
  refine sm_istore_n (lv1 := [(2, .int 0), (1, .int 0), (0, .int x0)]) C dX9_longestRun_3 rfl rfl rfl ?_
  refine sm_iconst C ic_0 dX9_longestRun_4 ?_
  refine sm_istore_n (lv1 := [(3, .int 0), (2, .int 0), (1, .int 0), (0, .int x0)]) C dX9_longestRun_5 rfl rfl rfl ?_
  refine sm_sub [3, 2, 1, 0] rfl ?_
  exact sX9_longestRun_6 C E FU 0 0 0
/-! X9_fast -/
set_option maxRecDepth 100000 in
set_option maxHeartbeats 4000000 in
theorem mX9_fast {b : Bx} {w : HW} {a : Int32} (h : fX9_fast w = some a) : Mt b yX9_fast cX9_fast 1 (some .int) 2 44 [.ref (bB b + 0)] w (some (.int a)) w := by
  refine Mt.of (ρI w) h (by decide) (Nat.le_of_ble_eq_true rfl) (fun G hG C E => ?_)
  subst hG
  have C : Cx G cX9_fast RX9 1 2 44 := C
  change Sm G a 0 [(0, .ref (hB G + 0))] [] w _
  unfold fX9_fast
  refine sm_aload_n C 0 rfl dX9_fast_0 rfl ?_
  refine sm_getC C fo_9_10 rfl wd58 kd_0 dX9_fast_1 rfl (fun j_1 hj_1 => ?_)
  refine sm_cVI (As := []) C cfX0_isTold wd70 (kdC hj_1) rfl rfl rfl rfl rfl dX9_fast_4 (fun r h => mX0_isTold hj_1 h) (fun r_2 => ?_)
  refine sm_if_ne C dX9_fast_7 (tgt := 13) rfl (fun h_4 => ?_) (fun h_4 => ?_)
  · refine sm_bipush C bp_m2 dX9_fast_10 ?_
    exact sm_iret C E rfl dX9_fast_12
  · refine sm_aload_n C 0 rfl dX9_fast_13 rfl ?_
    refine sm_getC C fo_9_10 rfl wd58 kd_0 dX9_fast_14 rfl (fun j_5 hj_5 => ?_)
    refine sm_cVI (As := []) C cfX0_allDays wd128 (kdC hj_5) rfl rfl rfl rfl rfl dX9_fast_17 (fun r h => mX0_allDays hj_5 h) (fun r_6 => ?_)
    refine sm_aload_n C 0 rfl dX9_fast_20 rfl ?_
    refine sm_getC C fo_9_10 rfl wd58 kd_0 dX9_fast_21 rfl (fun j_8 hj_8 => ?_)
    refine sm_cVI (As := []) C cfX0_askedDays wd124 (kdC hj_8) rfl rfl rfl rfl rfl dX9_fast_24 (fun r h => mX0_askedDays hj_8 h) (fun r_9 => ?_)
    refine sm_iconst C ic_m1 dX9_fast_27 ?_
    refine sm_ixor C dX9_fast_28 ?_
    refine sm_iand C dX9_fast_29 ?_
    refine sm_aload_n C 0 rfl dX9_fast_30 rfl ?_
    refine sm_getC C fo_9_10 rfl wd58 kd_0 dX9_fast_31 rfl (fun j_11 hj_11 => ?_)
    refine sm_cVI (As := []) C cfX0_fedDays wd125 (kdC hj_11) rfl rfl rfl rfl rfl dX9_fast_34 (fun r h => mX0_fedDays hj_11 h) (fun r_12 => ?_)
    refine sm_iconst C ic_m1 dX9_fast_37 ?_
    refine sm_ixor C dX9_fast_38 ?_
    refine sm_iand C dX9_fast_39 ?_
    refine sm_cSI (As := [.int ((r_6 &&& (r_9 ^^^ (-1))) &&& (r_12 ^^^ (-1)))]) C cfX9_longestRun wd129 rfl rfl rfl rfl dX9_fast_40 (fun r h => mX9_longestRun  h) (fun r_14 => ?_)
    exact sm_iret C E rfl dX9_fast_43
/-! X6_lastActAhead -/
set_option maxRecDepth 100000 in
set_option maxHeartbeats 4000000 in
theorem sX6_lastActAhead_4 {G : Gx} {a : Int32} {w : HW} (C : Cx G cX6_lastActAhead RX6 3 0 0) (E : Rx G (ρI w) a (some .int)) : ∀ (n : Nat) (x2 : Int32), Sm G a 4 [(0, .ref (hB G + 4)), (2, .int x2)] [] w (fX6_lastActAhead_4 w n x2) := by
  intro n
  induction n with
  | zero => intro _; exact sm_none
  | succ n ih =>
    intro x2
    rw [fX6_lastActAhead_4]
    refine sm_iload_n C 1 rfl dX6_lastActAhead_4 rfl ?_
    refine sm_if_lt C dX6_lastActAhead_5 (tgt := 27) rfl (fun h_2 => ?_) (fun h_2 => ?_)
    · refine sm_aload_n C 0 rfl dX6_lastActAhead_8 rfl ?_
      refine sm_getR C fo_6_5 rfl wd88 kd_4 dX6_lastActAhead_9 (rv_4_5 w) (by decide) ?_
      refine sm_iload_n C 1 rfl dX6_lastActAhead_12 rfl ?_
      refine sm_iald C kd_9 dX6_lastActAhead_13 (fun h_3 => ?_)
      refine sm_bipush C bp_m2 dX6_lastActAhead_14 ?_
      refine sm_icmp_eq C dX6_lastActAhead_16 (tgt := 21) rfl (fun h_4 => ?_) (fun h_4 => ?_)
      · refine sm_iload_n C 1 rfl dX6_lastActAhead_19 rfl ?_
        exact sm_iret C E rfl dX6_lastActAhead_20
      · refine sm_iinc (lv1 := [(2, .int (x2 + (-1))), (0, .ref (hB G + 4))]) C 1 rfl (iv_m1 _) dX6_lastActAhead_21 rfl rfl ?_
        refine sm_goto C dX6_lastActAhead_24 (tgt := 4) rfl ?_
        refine sm_sub [1, 0] rfl ?_
        exact ih (x2 + (-1))
    · refine sm_iconst C ic_m1 dX6_lastActAhead_27 ?_
      exact sm_iret C E rfl dX6_lastActAhead_28
set_option maxRecDepth 100000 in
set_option maxHeartbeats 4000000 in
theorem mX6_lastActAhead {b : Bx} {w : HW} {x1 : Int32} {a : Int32} (h : fX6_lastActAhead w x1 = some a) : Mt b yX6_lastActAhead cX6_lastActAhead 3 (some .int) 0 0 [.ref (bB b + 4), .int x1] w (some (.int a)) w := by
  refine Mt.of (ρI w) h (by decide) (Nat.le_of_ble_eq_true rfl) (fun G hG C E => ?_)
  subst hG
  have C : Cx G cX6_lastActAhead RX6 3 0 0 := C
  change Sm G a 0 [(0, .ref (hB G + 4)), (1, .int x1)] [] w _
  unfold fX6_lastActAhead
  refine sm_iload_n C 1 rfl dX6_lastActAhead_0 rfl ?_
  refine sm_iconst C ic_1 dX6_lastActAhead_1 ?_
  refine sm_isub C dX6_lastActAhead_2 ?_
  refine sm_let (fun x2_1 => ?_)
  refine sm_istore_n (lv1 := [(2, .int x2_1), (0, .ref (hB G + 4)), (1, .int x1)]) C dX6_lastActAhead_3 rfl rfl rfl ?_
  refine sm_sub [1, 0] rfl ?_
  exact sX6_lastActAhead_4 C E FU x2_1
/-! X9_first -/
set_option maxRecDepth 100000 in
set_option maxHeartbeats 4000000 in
theorem mX9_first {b : Bx} {w : HW} {x1 : Int32} {a : Int32 × HW} (h : fX9_first w x1 = some a) : Mt b yX9_first cX9_first 3 (some .int) 6 135 [.ref (bB b + 0), .int x1] w (some (.int a.1)) a.2 := by
  refine Mt.of ρIW h (by decide) (Nat.le_of_ble_eq_true rfl) (fun G hG C E => ?_)
  subst hG
  have C : Cx G cX9_first RX9 3 6 135 := C
  change Sm G a 0 [(0, .ref (hB G + 0)), (1, .int x1)] [] w _
  unfold fX9_first
  refine sm_aload_n C 0 rfl dX9_first_0 rfl ?_
  refine sm_getC C fo_9_10 rfl wd58 kd_0 dX9_first_1 rfl (fun j_1 hj_1 => ?_)
  refine sm_iload_n C 1 rfl dX9_first_4 rfl ?_
  refine sm_cVI (As := [.int x1]) C cfX0_hasDay wd80 (kdC hj_1) rfl rfl rfl rfl rfl dX9_first_5 (fun r h => mX0_hasDay hj_1 h) (fun r_2 => ?_)
  refine sm_if_ne C dX9_first_8 (tgt := 14) rfl (fun h_4 => ?_) (fun h_4 => ?_)
  · refine sm_bipush C bp_m2 dX9_first_11 ?_
    exact sm_iret C E rfl dX9_first_13
  · refine sm_aload_n C 0 rfl dX9_first_14 rfl ?_
    refine sm_getR C fo_9_2 rfl wd115 kd_0 dX9_first_15 (rv_0_2 w) (by decide) ?_
    refine sm_aload_n C 0 rfl dX9_first_18 rfl ?_
    refine sm_getC C fo_9_10 rfl wd58 kd_0 dX9_first_19 rfl (fun j_5 hj_5 => ?_)
    refine sm_cVW (As := [.ref (hB G + j_5)]) C cfX6_play wd116 kd_4 rfl rfl rfl rfl rfl dX9_first_22 (fun r h => mX6_play hj_5 h) (fun w_7 => ?_)
    refine sm_aload_n C 0 rfl dX9_first_25 rfl ?_
    refine sm_getR C fo_9_2 rfl wd115 kd_0 dX9_first_26 (rv_0_2 w_7) (by decide) ?_
    refine sm_iload_n C 1 rfl dX9_first_29 rfl ?_
    refine sm_cVI (As := [.int x1]) C cfX6_lastActAhead wd130 kd_4 rfl rfl rfl rfl rfl dX9_first_30 (fun r h => mX6_lastActAhead  h) (fun r_8 => ?_)
    refine sm_istore_n (lv1 := [(2, .int r_8), (0, .ref (hB G + 0)), (1, .int x1)]) C dX9_first_33 rfl rfl rfl ?_
    refine sm_iload_n C 0 rfl dX9_first_34 rfl ?_
    refine sm_iconst C ic_m1 dX9_first_35 ?_
    refine sm_icmp_ne C dX9_first_36 (tgt := 53) rfl (fun h_10 => ?_) (fun h_10 => ?_)
    · refine sm_iconst C ic_0 dX9_first_39 ?_
      refine sm_aload_n C 1 rfl dX9_first_40 rfl ?_
      refine sm_getC C fo_9_10 rfl wd58 kd_0 dX9_first_41 rfl (fun j_11 hj_11 => ?_)
      refine sm_getI C fo_0_3 rfl wd119 (kdC hj_11) dX9_first_44 ?_
      refine sm_iload_n C 2 rfl dX9_first_47 rfl ?_
      refine sm_isub C dX9_first_48 ?_
      refine sm_max C wd127 max_st math_in max_co rfl dX9_first_49 ?_
      exact sm_iret C E rfl dX9_first_52
    · refine sm_iload_n C 2 rfl dX9_first_53 rfl ?_
      refine sm_iload_n C 0 rfl dX9_first_54 rfl ?_
      refine sm_isub C dX9_first_55 ?_
      refine sm_aload_n C 1 rfl dX9_first_56 rfl ?_
      refine sm_getC C fo_9_10 rfl wd58 kd_0 dX9_first_57 rfl (fun j_12 hj_12 => ?_)
      refine sm_getI C fo_0_3 rfl wd119 (kdC hj_12) dX9_first_60 ?_
      refine sm_icmp_lt C dX9_first_63 (tgt := 70) rfl (fun h_13 => ?_) (fun h_13 => ?_)
      · refine sm_iconst C ic_0 dX9_first_66 ?_
        refine sm_goto C dX9_first_67 (tgt := 71) rfl ?_
        exact sm_iret C E rfl dX9_first_71
      · refine sm_iconst C ic_m1 dX9_first_70 ?_
        exact sm_iret C E rfl dX9_first_71
/-! X6_passingOn -/
set_option maxRecDepth 100000 in
set_option maxHeartbeats 4000000 in
theorem sX6_passingOn_2 {G : Gx} {a : Int32} {w : HW} (C : Cx G cX6_passingOn RX6 4 0 0) (E : Rx G (ρI w) a (some .int)) {k1 : Nat} (hk1 : isC k1 = true) {x2 : Int32} : ∀ (n : Nat) (x3 : Int32), Sm G a 2 [(0, .ref (hB G + 4)), (1, .ref (hB G + k1)), (2, .int x2), (3, .int x3)] [] w (fX6_passingOn_2 w k1 x2 n x3) := by
  intro n
  induction n with
  | zero => intro _; exact sm_none
  | succ n ih =>
    intro x3
    rw [fX6_passingOn_2]
    refine sm_iload_n C 3 rfl dX6_passingOn_2 rfl ?_
    refine sm_aload_n C 1 rfl dX6_passingOn_3 rfl ?_
    refine sm_getI C fo_0_10 rfl wd131 (kdC hk1) dX6_passingOn_4 ?_
    refine sm_icmp_ge C dX6_passingOn_7 (tgt := 28) rfl (fun h_1 => ?_) (fun h_1 => ?_)
    · refine sm_aload_n C 0 rfl dX6_passingOn_10 rfl ?_
      refine sm_getR C fo_6_2 rfl wd90 kd_4 dX6_passingOn_11 (rv_4_2 w) (by decide) ?_
      refine sm_iload_n C 3 rfl dX6_passingOn_14 rfl ?_
      refine sm_iald C kd_7 dX6_passingOn_15 (fun h_2 => ?_)
      refine sm_iload_n C 2 rfl dX6_passingOn_16 rfl ?_
      refine sm_icmp_ne C dX6_passingOn_17 (tgt := 22) rfl (fun h_3 => ?_) (fun h_3 => ?_)
      · refine sm_iload_n C 3 rfl dX6_passingOn_20 rfl ?_
        exact sm_iret C E rfl dX6_passingOn_21
      · refine sm_iinc (lv1 := [(3, .int (x3 + 1)), (0, .ref (hB G + 4)), (1, .ref (hB G + k1)), (2, .int x2)]) C 3 rfl (iv_1 _) dX6_passingOn_22 rfl rfl ?_
        refine sm_goto C dX6_passingOn_25 (tgt := 2) rfl ?_
        refine sm_sub [1, 2, 3, 0] rfl ?_
        exact ih (x3 + 1)
    · refine sm_iconst C ic_m1 dX6_passingOn_28 ?_
      exact sm_iret C E rfl dX6_passingOn_29
set_option maxRecDepth 100000 in
set_option maxHeartbeats 4000000 in
theorem mX6_passingOn {b : Bx} {w : HW} {k1 : Nat} {x2 : Int32} (hk1 : isC k1 = true) {a : Int32} (h : fX6_passingOn w k1 x2 = some a) : Mt b yX6_passingOn cX6_passingOn 4 (some .int) 0 0 [.ref (bB b + 4), .ref (bB b + k1), .int x2] w (some (.int a)) w := by
  refine Mt.of (ρI w) h (by decide) (Nat.le_of_ble_eq_true rfl) (fun G hG C E => ?_)
  subst hG
  have C : Cx G cX6_passingOn RX6 4 0 0 := C
  change Sm G a 0 [(0, .ref (hB G + 4)), (1, .ref (hB G + k1)), (2, .int x2)] [] w _
  unfold fX6_passingOn
  refine sm_iconst C ic_0 dX6_passingOn_0 ?_
  refine sm_istore_n (lv1 := [(3, .int 0), (0, .ref (hB G + 4)), (1, .ref (hB G + k1)), (2, .int x2)]) C dX6_passingOn_1 rfl rfl rfl ?_
  refine sm_sub [1, 2, 3, 0] rfl ?_
  exact sX6_passingOn_2 C E hk1 FU 0
/-! X9_passed -/
set_option maxRecDepth 100000 in
set_option maxHeartbeats 4000000 in
theorem mX9_passed {b : Bx} {w : HW} {x1 : Int32} {a : Int32 × HW} (h : fX9_passed w x1 = some a) : Mt b yX9_passed cX9_passed 2 (some .int) 6 135 [.ref (bB b + 0), .int x1] w (some (.int a.1)) a.2 := by
  refine Mt.of ρIW h (by decide) (Nat.le_of_ble_eq_true rfl) (fun G hG C E => ?_)
  subst hG
  have C : Cx G cX9_passed RX9 2 6 135 := C
  change Sm G a 0 [(0, .ref (hB G + 0)), (1, .int x1)] [] w _
  unfold fX9_passed
  refine sm_aload_n C 0 rfl dX9_passed_0 rfl ?_
  refine sm_getC C fo_9_10 rfl wd58 kd_0 dX9_passed_1 rfl (fun j_1 hj_1 => ?_)
  refine sm_iload_n C 1 rfl dX9_passed_4 rfl ?_
  refine sm_cVI (As := [.int x1]) C cfX0_hasDay wd80 (kdC hj_1) rfl rfl rfl rfl rfl dX9_passed_5 (fun r h => mX0_hasDay hj_1 h) (fun r_2 => ?_)
  refine sm_if_ne C dX9_passed_8 (tgt := 14) rfl (fun h_4 => ?_) (fun h_4 => ?_)
  · refine sm_bipush C bp_m2 dX9_passed_11 ?_
    exact sm_iret C E rfl dX9_passed_13
  · refine sm_aload_n C 0 rfl dX9_passed_14 rfl ?_
    refine sm_getR C fo_9_2 rfl wd115 kd_0 dX9_passed_15 (rv_0_2 w) (by decide) ?_
    refine sm_aload_n C 0 rfl dX9_passed_18 rfl ?_
    refine sm_getC C fo_9_10 rfl wd58 kd_0 dX9_passed_19 rfl (fun j_5 hj_5 => ?_)
    refine sm_cVW (As := [.ref (hB G + j_5)]) C cfX6_play wd116 kd_4 rfl rfl rfl rfl rfl dX9_passed_22 (fun r h => mX6_play hj_5 h) (fun w_7 => ?_)
    refine sm_aload_n C 0 rfl dX9_passed_25 rfl ?_
    refine sm_getR C fo_9_2 rfl wd115 kd_0 dX9_passed_26 (rv_0_2 w_7) (by decide) ?_
    refine sm_aload_n C 0 rfl dX9_passed_29 rfl ?_
    refine sm_getC C fo_9_10 rfl wd58 kd_0 dX9_passed_30 rfl (fun j_8 hj_8 => ?_)
    refine sm_iload_n C 1 rfl dX9_passed_33 rfl ?_
    refine sm_cVI (As := [.ref (hB G + j_8), .int x1]) C cfX6_passingOn wd132 kd_4 rfl rfl rfl rfl rfl dX9_passed_34 (fun r h => mX6_passingOn hj_8 h) (fun r_9 => ?_)
    exact sm_iret C E rfl dX9_passed_37
/-! X9_when -/
set_option maxRecDepth 100000 in
set_option maxHeartbeats 4000000 in
theorem mX9_when {b : Bx} {w : HW} {x1 : Int32} {a : Int32 × HW} (h : fX9_when w x1 = some a) : Mt b yX9_when cX9_when 2 (some .int) 6 135 [.ref (bB b + 0), .int x1] w (some (.int a.1)) a.2 := by
  refine Mt.of ρIW h (by decide) (Nat.le_of_ble_eq_true rfl) (fun G hG C E => ?_)
  subst hG
  have C : Cx G cX9_when RX9 2 6 135 := C
  change Sm G a 0 [(0, .ref (hB G + 0)), (1, .int x1)] [] w _
  unfold fX9_when
  refine sm_aload_n C 0 rfl dX9_when_0 rfl ?_
  refine sm_getC C fo_9_10 rfl wd58 kd_0 dX9_when_1 rfl (fun j_1 hj_1 => ?_)
  refine sm_iload_n C 1 rfl dX9_when_4 rfl ?_
  refine sm_cVI (As := [.int x1]) C cfX0_hasBill wd66 (kdC hj_1) rfl rfl rfl rfl rfl dX9_when_5 (fun r h => mX0_hasBill hj_1 h) (fun r_2 => ?_)
  refine sm_if_ne C dX9_when_8 (tgt := 14) rfl (fun h_4 => ?_) (fun h_4 => ?_)
  · refine sm_bipush C bp_m2 dX9_when_11 ?_
    exact sm_iret C E rfl dX9_when_13
  · refine sm_aload_n C 0 rfl dX9_when_14 rfl ?_
    refine sm_getR C fo_9_2 rfl wd115 kd_0 dX9_when_15 (rv_0_2 w) (by decide) ?_
    refine sm_aload_n C 0 rfl dX9_when_18 rfl ?_
    refine sm_getC C fo_9_10 rfl wd58 kd_0 dX9_when_19 rfl (fun j_5 hj_5 => ?_)
    refine sm_cVW (As := [.ref (hB G + j_5)]) C cfX6_play wd116 kd_4 rfl rfl rfl rfl rfl dX9_when_22 (fun r h => mX6_play hj_5 h) (fun w_7 => ?_)
    refine sm_aload_n C 0 rfl dX9_when_25 rfl ?_
    refine sm_getR C fo_9_2 rfl wd115 kd_0 dX9_when_26 (rv_0_2 w_7) (by decide) ?_
    refine sm_getR C fo_6_2 rfl wd133 kd_4 dX9_when_29 (rv_4_2 w_7) (by decide) ?_
    refine sm_iload_n C 1 rfl dX9_when_32 rfl ?_
    refine sm_iald C kd_7 dX9_when_33 (fun h_8 => ?_)
    exact sm_iret C E rfl dX9_when_34
/-! X9_why -/
set_option maxRecDepth 100000 in
set_option maxHeartbeats 4000000 in
theorem mX9_why {b : Bx} {w : HW} {x1 : Int32} {a : Int32 × HW} (h : fX9_why w x1 = some a) : Mt b yX9_why cX9_why 2 (some .int) 6 135 [.ref (bB b + 0), .int x1] w (some (.int a.1)) a.2 := by
  refine Mt.of ρIW h (by decide) (Nat.le_of_ble_eq_true rfl) (fun G hG C E => ?_)
  subst hG
  have C : Cx G cX9_why RX9 2 6 135 := C
  change Sm G a 0 [(0, .ref (hB G + 0)), (1, .int x1)] [] w _
  unfold fX9_why
  refine sm_aload_n C 0 rfl dX9_why_0 rfl ?_
  refine sm_getC C fo_9_10 rfl wd58 kd_0 dX9_why_1 rfl (fun j_1 hj_1 => ?_)
  refine sm_iload_n C 1 rfl dX9_why_4 rfl ?_
  refine sm_cVI (As := [.int x1]) C cfX0_hasBill wd66 (kdC hj_1) rfl rfl rfl rfl rfl dX9_why_5 (fun r h => mX0_hasBill hj_1 h) (fun r_2 => ?_)
  refine sm_if_ne C dX9_why_8 (tgt := 14) rfl (fun h_4 => ?_) (fun h_4 => ?_)
  · refine sm_bipush C bp_m2 dX9_why_11 ?_
    exact sm_iret C E rfl dX9_why_13
  · refine sm_aload_n C 0 rfl dX9_why_14 rfl ?_
    refine sm_getR C fo_9_2 rfl wd115 kd_0 dX9_why_15 (rv_0_2 w) (by decide) ?_
    refine sm_aload_n C 0 rfl dX9_why_18 rfl ?_
    refine sm_getC C fo_9_10 rfl wd58 kd_0 dX9_why_19 rfl (fun j_5 hj_5 => ?_)
    refine sm_cVW (As := [.ref (hB G + j_5)]) C cfX6_play wd116 kd_4 rfl rfl rfl rfl rfl dX9_why_22 (fun r h => mX6_play hj_5 h) (fun w_7 => ?_)
    refine sm_aload_n C 0 rfl dX9_why_25 rfl ?_
    refine sm_getR C fo_9_2 rfl wd115 kd_0 dX9_why_26 (rv_0_2 w_7) (by decide) ?_
    refine sm_getR C fo_6_3 rfl wd134 kd_4 dX9_why_29 (rv_4_3 w_7) (by decide) ?_
    refine sm_iload_n C 1 rfl dX9_why_32 rfl ?_
    refine sm_iald C kd_8 dX9_why_33 (fun h_8 => ?_)
    exact sm_iret C E rfl dX9_why_34
/-! X6_passing -/
set_option maxRecDepth 100000 in
set_option maxHeartbeats 4000000 in
theorem sX6_passing_4 {G : Gx} {a : Int32} {w : HW} (C : Cx G cX6_passing RX6 4 0 0) (E : Rx G (ρI w) a (some .int)) {k1 : Nat} (hk1 : isC k1 = true) : ∀ (n : Nat) (x2 : Int32) (x3 : Int32), Sm G a 4 [(0, .ref (hB G + 4)), (1, .ref (hB G + k1)), (2, .int x2), (3, .int x3)] [] w (fX6_passing_4 w k1 n x2 x3) := by
  intro n
  induction n with
  | zero => intro _ _; exact sm_none
  | succ n ih =>
    intro x2 x3
    rw [fX6_passing_4]
    refine sm_iload_n C 3 rfl dX6_passing_4 rfl ?_
    refine sm_aload_n C 1 rfl dX6_passing_5 rfl ?_
    refine sm_getI C fo_0_10 rfl wd131 (kdC hk1) dX6_passing_6 ?_
    refine sm_icmp_ge C dX6_passing_9 (tgt := 34) rfl (fun h_1 => ?_) (fun h_1 => ?_)
    · refine sm_aload_n C 0 rfl dX6_passing_12 rfl ?_
      refine sm_getR C fo_6_2 rfl wd90 kd_4 dX6_passing_13 (rv_4_2 w) (by decide) ?_
      refine sm_iload_n C 3 rfl dX6_passing_16 rfl ?_
      refine sm_iald C kd_7 dX6_passing_17 (fun h_2 => ?_)
      refine sm_iconst C ic_m1 dX6_passing_18 ?_
      refine sm_icmp_eq C dX6_passing_19 (tgt := 28) rfl (fun h_3 => ?_) (fun h_3 => ?_)
      · refine sm_iload_n C 2 rfl dX6_passing_22 rfl ?_
        refine sm_iconst C ic_1 dX6_passing_23 ?_
        refine sm_iload_n C 3 rfl dX6_passing_24 rfl ?_
        refine sm_ishl C dX6_passing_25 ?_
        refine sm_ior C dX6_passing_26 ?_
        refine sm_let (fun x2_4 => ?_)
        refine sm_istore_n (lv1 := [(2, .int x2_4), (0, .ref (hB G + 4)), (1, .ref (hB G + k1)), (3, .int x3)]) C dX6_passing_27 rfl rfl rfl ?_
        refine sm_iinc (lv1 := [(3, .int (x3 + 1)), (2, .int x2_4), (0, .ref (hB G + 4)), (1, .ref (hB G + k1))]) C 3 rfl (iv_1 _) dX6_passing_28 rfl rfl ?_
        refine sm_goto C dX6_passing_31 (tgt := 4) rfl ?_
        refine sm_sub [2, 3, 1, 0] rfl ?_
        exact ih x2_4 (x3 + 1)
      · refine sm_iinc (lv1 := [(3, .int (x3 + 1)), (0, .ref (hB G + 4)), (1, .ref (hB G + k1)), (2, .int x2)]) C 3 rfl (iv_1 _) dX6_passing_28 rfl rfl ?_
        refine sm_goto C dX6_passing_31 (tgt := 4) rfl ?_
        refine sm_sub [1, 2, 3, 0] rfl ?_
        exact ih x2 (x3 + 1)
    · refine sm_iload_n C 2 rfl dX6_passing_34 rfl ?_
      exact sm_iret C E rfl dX6_passing_35
set_option maxRecDepth 100000 in
set_option maxHeartbeats 4000000 in
theorem mX6_passing {b : Bx} {w : HW} {k1 : Nat} (hk1 : isC k1 = true) {a : Int32} (h : fX6_passing w k1 = some a) : Mt b yX6_passing cX6_passing 4 (some .int) 0 0 [.ref (bB b + 4), .ref (bB b + k1)] w (some (.int a)) w := by
  refine Mt.of (ρI w) h (by decide) (Nat.le_of_ble_eq_true rfl) (fun G hG C E => ?_)
  subst hG
  have C : Cx G cX6_passing RX6 4 0 0 := C
  change Sm G a 0 [(0, .ref (hB G + 4)), (1, .ref (hB G + k1))] [] w _
  unfold fX6_passing
  refine sm_iconst C ic_0 dX6_passing_0 ?_
  refine sm_istore_n (lv1 := [(2, .int 0), (0, .ref (hB G + 4)), (1, .ref (hB G + k1))]) C dX6_passing_1 rfl rfl rfl ?_
  refine sm_iconst C ic_0 dX6_passing_2 ?_
  refine sm_istore_n (lv1 := [(3, .int 0), (2, .int 0), (0, .ref (hB G + 4)), (1, .ref (hB G + k1))]) C dX6_passing_3 rfl rfl rfl ?_
  refine sm_sub [2, 3, 1, 0] rfl ?_
  exact sX6_passing_4 C E hk1 FU 0 0
/-! X0_billsOf -/
set_option maxRecDepth 100000 in
set_option maxHeartbeats 4000000 in
theorem sX0_billsOf_4 {G : Gx} {a : Int32} {w : HW} (C : Cx G cX0_billsOf RX0 4 0 0) (E : Rx G (ρI w) a (some .int)) {k0 : Nat} (hk0 : isC k0 = true) {x1 : Int32} : ∀ (n : Nat) (x2 : Int32) (x3 : Int32), Sm G a 4 [(0, .ref (hB G + k0)), (1, .int x1), (2, .int x2), (3, .int x3)] [] w (fX0_billsOf_4 w k0 x1 n x2 x3) := by
  intro n
  induction n with
  | zero => intro _ _; exact sm_none
  | succ n ih =>
    intro x2 x3
    rw [fX0_billsOf_4]
    refine sm_iload_n C 3 rfl dX0_billsOf_4 rfl ?_
    refine sm_aload_n C 0 rfl dX0_billsOf_5 rfl ?_
    refine sm_getI C fo_0_10 rfl wd12 (kdC hk0) dX0_billsOf_6 ?_
    refine sm_icmp_ge C dX0_billsOf_9 (tgt := 34) rfl (fun h_1 => ?_) (fun h_1 => ?_)
    · refine sm_aload_n C 0 rfl dX0_billsOf_12 rfl ?_
      refine sm_getR C fo_0_11 rfl wd135 (kdC hk0) dX0_billsOf_13 (rvC_11 hk0 w) (nzC_4 hk0) ?_
      refine sm_iload_n C 3 rfl dX0_billsOf_16 rfl ?_
      refine sm_iald C (kdC_4 hk0) dX0_billsOf_17 (fun h_2 => ?_)
      refine sm_iload_n C 1 rfl dX0_billsOf_18 rfl ?_
      refine sm_icmp_ne C dX0_billsOf_19 (tgt := 28) rfl (fun h_3 => ?_) (fun h_3 => ?_)
      · refine sm_iload_n C 2 rfl dX0_billsOf_22 rfl ?_
        refine sm_iconst C ic_1 dX0_billsOf_23 ?_
        refine sm_iload_n C 3 rfl dX0_billsOf_24 rfl ?_
        refine sm_ishl C dX0_billsOf_25 ?_
        refine sm_ior C dX0_billsOf_26 ?_
        refine sm_let (fun x2_4 => ?_)
        refine sm_istore_n (lv1 := [(2, .int x2_4), (0, .ref (hB G + k0)), (1, .int x1), (3, .int x3)]) C dX0_billsOf_27 rfl rfl rfl ?_
        refine sm_iinc (lv1 := [(3, .int (x3 + 1)), (2, .int x2_4), (0, .ref (hB G + k0)), (1, .int x1)]) C 3 rfl (iv_1 _) dX0_billsOf_28 rfl rfl ?_
        refine sm_goto C dX0_billsOf_31 (tgt := 4) rfl ?_
        refine sm_sub [2, 3, 1, 0] rfl ?_
        exact ih x2_4 (x3 + 1)
      · refine sm_iinc (lv1 := [(3, .int (x3 + 1)), (0, .ref (hB G + k0)), (1, .int x1), (2, .int x2)]) C 3 rfl (iv_1 _) dX0_billsOf_28 rfl rfl ?_
        refine sm_goto C dX0_billsOf_31 (tgt := 4) rfl ?_
        refine sm_sub [1, 2, 3, 0] rfl ?_
        exact ih x2 (x3 + 1)
    · refine sm_iload_n C 2 rfl dX0_billsOf_34 rfl ?_
      exact sm_iret C E rfl dX0_billsOf_35
set_option maxRecDepth 100000 in
set_option maxHeartbeats 4000000 in
theorem mX0_billsOf {b : Bx} {w : HW} {k0 : Nat} {x1 : Int32} (hk0 : isC k0 = true) {a : Int32} (h : fX0_billsOf w k0 x1 = some a) : Mt b yX0_billsOf cX0_billsOf 4 (some .int) 0 0 [.ref (bB b + k0), .int x1] w (some (.int a)) w := by
  refine Mt.of (ρI w) h (by decide) (Nat.le_of_ble_eq_true rfl) (fun G hG C E => ?_)
  subst hG
  have C : Cx G cX0_billsOf RX0 4 0 0 := C
  change Sm G a 0 [(0, .ref (hB G + k0)), (1, .int x1)] [] w _
  unfold fX0_billsOf
  refine sm_iconst C ic_0 dX0_billsOf_0 ?_
  refine sm_istore_n (lv1 := [(2, .int 0), (0, .ref (hB G + k0)), (1, .int x1)]) C dX0_billsOf_1 rfl rfl rfl ?_
  refine sm_iconst C ic_0 dX0_billsOf_2 ?_
  refine sm_istore_n (lv1 := [(3, .int 0), (2, .int 0), (0, .ref (hB G + k0)), (1, .int x1)]) C dX0_billsOf_3 rfl rfl rfl ?_
  refine sm_sub [2, 3, 1, 0] rfl ?_
  exact sX0_billsOf_4 C E hk0 FU 0 0
/-! X0_worthOf -/
set_option maxRecDepth 100000 in
set_option maxHeartbeats 4000000 in
theorem sX0_worthOf_4 {G : Gx} {a : Int32} {w : HW} (C : Cx G cX0_worthOf RX0 4 1 21) (E : Rx G (ρI w) a (some .int)) {k0 : Nat} (hk0 : isC k0 = true) {x1 : Int32} : ∀ (n : Nat) (x2 : Int32) (x3 : Int32), Sm G a 4 [(0, .ref (hB G + k0)), (1, .int x1), (2, .int x2), (3, .int x3)] [] w (fX0_worthOf_4 w k0 x1 n x2 x3) := by
  intro n
  induction n with
  | zero => intro _ _; exact sm_none
  | succ n ih =>
    intro x2 x3
    rw [fX0_worthOf_4]
    refine sm_iload_n C 3 rfl dX0_worthOf_4 rfl ?_
    refine sm_aload_n C 0 rfl dX0_worthOf_5 rfl ?_
    refine sm_getI C fo_0_10 rfl wd12 (kdC hk0) dX0_worthOf_6 ?_
    refine sm_icmp_ge C dX0_worthOf_9 (tgt := 35) rfl (fun h_1 => ?_) (fun h_1 => ?_)
    · refine sm_iload_n C 1 rfl dX0_worthOf_12 rfl ?_
      refine sm_iload_n C 3 rfl dX0_worthOf_13 rfl ?_
      refine sm_cNI (As := [.int x1, .int x3]) C cfX9_holds 10 rfl rfl rfl rfl rfl dX0_worthOf_14 (fun r h => mX9_holds  h) (fun r_2 => ?_)
      refine sm_if_eq C dX0_worthOf_17 (tgt := 29) rfl (fun h_4 => ?_) (fun h_4 => ?_)
      · refine sm_iload_n C 2 rfl dX0_worthOf_20 rfl ?_
        refine sm_aload_n C 0 rfl dX0_worthOf_21 rfl ?_
        refine sm_getR C fo_0_12 rfl wd136 (kdC hk0) dX0_worthOf_22 (rvC_12 hk0 w) (nzC_5 hk0) ?_
        refine sm_iload_n C 3 rfl dX0_worthOf_25 rfl ?_
        refine sm_iald C (kdC_5 hk0) dX0_worthOf_26 (fun h_5 => ?_)
        refine sm_iadd C dX0_worthOf_27 ?_
        refine sm_let (fun x2_6 => ?_)
        refine sm_istore_n (lv1 := [(2, .int x2_6), (0, .ref (hB G + k0)), (1, .int x1), (3, .int x3)]) C dX0_worthOf_28 rfl rfl rfl ?_
        refine sm_iinc (lv1 := [(3, .int (x3 + 1)), (2, .int x2_6), (0, .ref (hB G + k0)), (1, .int x1)]) C 3 rfl (iv_1 _) dX0_worthOf_29 rfl rfl ?_
        refine sm_goto C dX0_worthOf_32 (tgt := 4) rfl ?_
        refine sm_sub [2, 3, 1, 0] rfl ?_
        exact ih x2_6 (x3 + 1)
      · refine sm_iinc (lv1 := [(3, .int (x3 + 1)), (0, .ref (hB G + k0)), (1, .int x1), (2, .int x2)]) C 3 rfl (iv_1 _) dX0_worthOf_29 rfl rfl ?_
        refine sm_goto C dX0_worthOf_32 (tgt := 4) rfl ?_
        refine sm_sub [1, 2, 3, 0] rfl ?_
        exact ih x2 (x3 + 1)
    · refine sm_iload_n C 2 rfl dX0_worthOf_35 rfl ?_
      exact sm_iret C E rfl dX0_worthOf_36
set_option maxRecDepth 100000 in
set_option maxHeartbeats 4000000 in
theorem mX0_worthOf {b : Bx} {w : HW} {k0 : Nat} {x1 : Int32} (hk0 : isC k0 = true) {a : Int32} (h : fX0_worthOf w k0 x1 = some a) : Mt b yX0_worthOf cX0_worthOf 4 (some .int) 1 21 [.ref (bB b + k0), .int x1] w (some (.int a)) w := by
  refine Mt.of (ρI w) h (by decide) (Nat.le_of_ble_eq_true rfl) (fun G hG C E => ?_)
  subst hG
  have C : Cx G cX0_worthOf RX0 4 1 21 := C
  change Sm G a 0 [(0, .ref (hB G + k0)), (1, .int x1)] [] w _
  unfold fX0_worthOf
  refine sm_iconst C ic_0 dX0_worthOf_0 ?_
  refine sm_istore_n (lv1 := [(2, .int 0), (0, .ref (hB G + k0)), (1, .int x1)]) C dX0_worthOf_1 rfl rfl rfl ?_
  refine sm_iconst C ic_0 dX0_worthOf_2 ?_
  refine sm_istore_n (lv1 := [(3, .int 0), (2, .int 0), (0, .ref (hB G + k0)), (1, .int x1)]) C dX0_worthOf_3 rfl rfl rfl ?_
  refine sm_sub [2, 3, 1, 0] rfl ?_
  exact sX0_worthOf_4 C E hk0 FU 0 0
/-! X9_worth -/
set_option maxRecDepth 100000 in
set_option maxHeartbeats 4000000 in
theorem mX9_worth {b : Bx} {w : HW} {x1 : Int32} {a : Int32 × HW} (h : fX9_worth w x1 = some a) : Mt b yX9_worth cX9_worth 2 (some .int) 6 135 [.ref (bB b + 0), .int x1] w (some (.int a.1)) a.2 := by
  refine Mt.of ρIW h (by decide) (Nat.le_of_ble_eq_true rfl) (fun G hG C E => ?_)
  subst hG
  have C : Cx G cX9_worth RX9 2 6 135 := C
  change Sm G a 0 [(0, .ref (hB G + 0)), (1, .int x1)] [] w _
  unfold fX9_worth
  refine sm_aload_n C 0 rfl dX9_worth_0 rfl ?_
  refine sm_getC C fo_9_10 rfl wd58 kd_0 dX9_worth_1 rfl (fun j_1 hj_1 => ?_)
  refine sm_iload_n C 1 rfl dX9_worth_4 rfl ?_
  refine sm_cVI (As := [.int x1]) C cfX0_hasSide wd77 (kdC hj_1) rfl rfl rfl rfl rfl dX9_worth_5 (fun r h => mX0_hasSide hj_1 h) (fun r_2 => ?_)
  refine sm_if_ne C dX9_worth_8 (tgt := 14) rfl (fun h_4 => ?_) (fun h_4 => ?_)
  · refine sm_bipush C bp_m2 dX9_worth_11 ?_
    exact sm_iret C E rfl dX9_worth_13
  · refine sm_aload_n C 0 rfl dX9_worth_14 rfl ?_
    refine sm_getR C fo_9_2 rfl wd115 kd_0 dX9_worth_15 (rv_0_2 w) (by decide) ?_
    refine sm_aload_n C 0 rfl dX9_worth_18 rfl ?_
    refine sm_getC C fo_9_10 rfl wd58 kd_0 dX9_worth_19 rfl (fun j_5 hj_5 => ?_)
    refine sm_cVW (As := [.ref (hB G + j_5)]) C cfX6_play wd116 kd_4 rfl rfl rfl rfl rfl dX9_worth_22 (fun r h => mX6_play hj_5 h) (fun w_7 => ?_)
    refine sm_aload_n C 0 rfl dX9_worth_25 rfl ?_
    refine sm_getC C fo_9_10 rfl wd58 kd_0 dX9_worth_26 rfl (fun j_8 hj_8 => ?_)
    refine sm_aload_n C 0 rfl dX9_worth_29 rfl ?_
    refine sm_getR C fo_9_2 rfl wd115 kd_0 dX9_worth_30 (rv_0_2 w_7) (by decide) ?_
    refine sm_aload_n C 0 rfl dX9_worth_33 rfl ?_
    refine sm_getC C fo_9_10 rfl wd58 kd_0 dX9_worth_34 rfl (fun j_9 hj_9 => ?_)
    refine sm_cVI (As := [.ref (hB G + j_9)]) C cfX6_passing wd137 kd_4 rfl rfl rfl rfl rfl dX9_worth_37 (fun r h => mX6_passing hj_9 h) (fun r_10 => ?_)
    refine sm_aload_n C 0 rfl dX9_worth_40 rfl ?_
    refine sm_getC C fo_9_10 rfl wd58 kd_0 dX9_worth_41 rfl (fun j_12 hj_12 => ?_)
    refine sm_iload_n C 1 rfl dX9_worth_44 rfl ?_
    refine sm_cVI (As := [.int x1]) C cfX0_billsOf wd138 (kdC hj_12) rfl rfl rfl rfl rfl dX9_worth_45 (fun r h => mX0_billsOf hj_12 h) (fun r_13 => ?_)
    refine sm_iand C dX9_worth_48 ?_
    refine sm_cVI (As := [.int (r_10 &&& r_13)]) C cfX0_worthOf wd139 (kdC hj_8) rfl rfl rfl rfl rfl dX9_worth_49 (fun r h => mX0_worthOf hj_8 h) (fun r_15 => ?_)
    exact sm_iret C E rfl dX9_worth_52
/-! X3_billsByWorth -/
set_option maxRecDepth 100000 in
set_option maxHeartbeats 4000000 in
theorem sX3_billsByWorth_2 {G : Gx} {a : HW} (C : Cx G cX3_billsByWorth RX3 3 0 0) (E : Rx G ρW a (none)) {k1 : Nat} (hk1 : isC k1 = true) : ∀ (n : Nat) (w : HW) (x2 : Int32), Sm G a 2 [(0, .ref (hB G + 11)), (1, .ref (hB G + k1)), (2, .int x2)] [] w (fX3_billsByWorth_2 k1 n w x2) := by
  intro n
  induction n with
  | zero => intro _ _; exact sm_none
  | succ n ih =>
    intro w x2
    rw [fX3_billsByWorth_2]
    refine sm_iload_n C 2 rfl dX3_billsByWorth_2 rfl ?_
    refine sm_aload_n C 1 rfl dX3_billsByWorth_3 rfl ?_
    refine sm_getI C fo_0_10 rfl wd140 (kdC hk1) dX3_billsByWorth_4 ?_
    refine sm_icmp_ge C dX3_billsByWorth_7 (tgt := 28) rfl (fun h_1 => ?_) (fun h_1 => ?_)
    · refine sm_aload_n C 0 rfl dX3_billsByWorth_10 rfl ?_
      refine sm_getR C fo_3_2 rfl wd141 kd_11 dX3_billsByWorth_11 (rv_11_2 w) (by decide) ?_
      refine sm_iload_n C 2 rfl dX3_billsByWorth_14 rfl ?_
      refine sm_aload_n C 1 rfl dX3_billsByWorth_15 rfl ?_
      refine sm_getR C fo_0_12 rfl wd142 (kdC hk1) dX3_billsByWorth_16 (rvC_12 hk1 w) (nzC_5 hk1) ?_
      refine sm_iload_n C 2 rfl dX3_billsByWorth_19 rfl ?_
      refine sm_iald C (kdC_5 hk1) dX3_billsByWorth_20 (fun h_2 => ?_)
      refine sm_iast C kd_14 dX3_billsByWorth_21 (fun h_3 w_4 => ?_)
      refine sm_iinc (lv1 := [(2, .int (x2 + 1)), (0, .ref (hB G + 11)), (1, .ref (hB G + k1))]) C 2 rfl (iv_1 _) dX3_billsByWorth_22 rfl rfl ?_
      refine sm_goto C dX3_billsByWorth_25 (tgt := 2) rfl ?_
      refine sm_sub [1, 2, 0] rfl ?_
      exact ih w_4 (x2 + 1)
    · exact sm_vret C E rfl dX3_billsByWorth_28
set_option maxRecDepth 100000 in
set_option maxHeartbeats 4000000 in
theorem mX3_billsByWorth {b : Bx} {w : HW} {k1 : Nat} (hk1 : isC k1 = true) {a : HW} (h : fX3_billsByWorth w k1 = some a) : Mt b yX3_billsByWorth cX3_billsByWorth 3 (none) 0 0 [.ref (bB b + 11), .ref (bB b + k1)] w none a := by
  refine Mt.of ρW h (by decide) (Nat.le_of_ble_eq_true rfl) (fun G hG C E => ?_)
  subst hG
  have C : Cx G cX3_billsByWorth RX3 3 0 0 := C
  change Sm G a 0 [(0, .ref (hB G + 11)), (1, .ref (hB G + k1))] [] w _
  unfold fX3_billsByWorth
  refine sm_iconst C ic_0 dX3_billsByWorth_0 ?_
  refine sm_istore_n (lv1 := [(2, .int 0), (0, .ref (hB G + 11)), (1, .ref (hB G + k1))]) C dX3_billsByWorth_1 rfl rfl rfl ?_
  refine sm_sub [1, 2, 0] rfl ?_
  exact sX3_billsByWorth_2 C E hk1 FU w 0
/-! X0_firstHungryDay -/
set_option maxRecDepth 100000 in
set_option maxHeartbeats 4000000 in
theorem mX0_firstHungryDay {b : Bx} {w : HW} {k0 : Nat} (hk0 : isC k0 = true) {a : Int32} (h : fX0_firstHungryDay w k0 = some a) : Mt b yX0_firstHungryDay cX0_firstHungryDay 1 (some .int) 1 21 [.ref (bB b + k0)] w (some (.int a)) w := by
  refine Mt.of (ρI w) h (by decide) (Nat.le_of_ble_eq_true rfl) (fun G hG C E => ?_)
  subst hG
  have C : Cx G cX0_firstHungryDay RX0 1 1 21 := C
  change Sm G a 0 [(0, .ref (hB G + k0))] [] w _
  unfold fX0_firstHungryDay
  refine sm_aload_n C 0 rfl dX0_firstHungryDay_0 rfl ?_
  refine sm_getI C fo_0_1 rfl wd6 (kdC hk0) dX0_firstHungryDay_1 ?_
  refine sm_iconst C ic_0 dX0_firstHungryDay_4 ?_
  refine sm_aload_n C 0 rfl dX0_firstHungryDay_5 rfl ?_
  refine sm_getI C fo_0_3 rfl wd8 (kdC hk0) dX0_firstHungryDay_6 ?_
  refine sm_aload_n C 0 rfl dX0_firstHungryDay_9 rfl ?_
  refine sm_getI C fo_0_2 rfl wd7 (kdC hk0) dX0_firstHungryDay_10 ?_
  refine sm_isub C dX0_firstHungryDay_13 ?_
  refine sm_max C wd143 max_st math_in max_co rfl dX0_firstHungryDay_14 ?_
  refine sm_min C wd144 min_st math_in min_co rfl dX0_firstHungryDay_17 ?_
  exact sm_iret C E rfl dX0_firstHungryDay_20
/-! X3_openBill -/
set_option maxRecDepth 100000 in
set_option maxHeartbeats 4000000 in
theorem sX3_openBill_2 {G : Gx} {a : HW} (C : Cx G cX3_openBill RX3 4 1 21) (E : Rx G ρW a (none)) {x1 : Int32} {x2 : Int32} : ∀ (n : Nat) (w : HW) (x3 : Int32), Sm G a 2 [(0, .ref (hB G + 11)), (1, .int x1), (2, .int x2), (3, .int x3)] [] w (fX3_openBill_2 x1 x2 n w x3) := by
  intro n
  induction n with
  | zero => intro _ _; exact sm_none
  | succ n ih =>
    intro w x3
    rw [fX3_openBill_2]
    refine sm_iload_n C 3 rfl dX3_openBill_2 rfl ?_
    refine sm_bipush C bp_14 dX3_openBill_3 ?_
    refine sm_icmp_ge C dX3_openBill_5 (tgt := 34) rfl (fun h_1 => ?_) (fun h_1 => ?_)
    · refine sm_iload_n C 2 rfl dX3_openBill_8 rfl ?_
      refine sm_iload_n C 3 rfl dX3_openBill_9 rfl ?_
      refine sm_cNI (As := [.int x2, .int x3]) C cfX9_holds 12 rfl rfl rfl rfl rfl dX3_openBill_10 (fun r h => mX9_holds  h) (fun r_2 => ?_)
      refine sm_if_eq C dX3_openBill_13 (tgt := 28) rfl (fun h_4 => ?_) (fun h_4 => ?_)
      · refine sm_aload_n C 0 rfl dX3_openBill_16 rfl ?_
        refine sm_getR C fo_3_4 rfl wd145 kd_11 dX3_openBill_17 (rv_11_4 w) (by decide) ?_
        refine sm_iload_n C 3 rfl dX3_openBill_20 rfl ?_
        refine sm_dup2 C rfl rfl dX3_openBill_21 ?_
        refine sm_iald C kd_16 dX3_openBill_22 (fun h_5 => ?_)
        refine sm_iconst C ic_1 dX3_openBill_23 ?_
        refine sm_iload_n C 1 rfl dX3_openBill_24 rfl ?_
        refine sm_ishl C dX3_openBill_25 ?_
        refine sm_ior C dX3_openBill_26 ?_
        refine sm_iast C kd_16 dX3_openBill_27 (fun h_6 w_7 => ?_)
        refine sm_iinc (lv1 := [(3, .int (x3 + 1)), (0, .ref (hB G + 11)), (1, .int x1), (2, .int x2)]) C 3 rfl (iv_1 _) dX3_openBill_28 rfl rfl ?_
        refine sm_goto C dX3_openBill_31 (tgt := 2) rfl ?_
        refine sm_sub [1, 2, 3, 0] rfl ?_
        exact ih w_7 (x3 + 1)
      · refine sm_iinc (lv1 := [(3, .int (x3 + 1)), (0, .ref (hB G + 11)), (1, .int x1), (2, .int x2)]) C 3 rfl (iv_1 _) dX3_openBill_28 rfl rfl ?_
        refine sm_goto C dX3_openBill_31 (tgt := 2) rfl ?_
        refine sm_sub [1, 2, 3, 0] rfl ?_
        exact ih w (x3 + 1)
    · exact sm_vret C E rfl dX3_openBill_34
set_option maxRecDepth 100000 in
set_option maxHeartbeats 4000000 in
theorem mX3_openBill {b : Bx} {w : HW} {x1 : Int32} {x2 : Int32} {a : HW} (h : fX3_openBill w x1 x2 = some a) : Mt b yX3_openBill cX3_openBill 4 (none) 1 21 [.ref (bB b + 11), .int x1, .int x2] w none a := by
  refine Mt.of ρW h (by decide) (Nat.le_of_ble_eq_true rfl) (fun G hG C E => ?_)
  subst hG
  have C : Cx G cX3_openBill RX3 4 1 21 := C
  change Sm G a 0 [(0, .ref (hB G + 11)), (1, .int x1), (2, .int x2)] [] w _
  unfold fX3_openBill
  refine sm_iconst C ic_0 dX3_openBill_0 ?_
  refine sm_istore_n (lv1 := [(3, .int 0), (0, .ref (hB G + 11)), (1, .int x1), (2, .int x2)]) C dX3_openBill_1 rfl rfl rfl ?_
  refine sm_sub [1, 2, 3, 0] rfl ?_
  exact sX3_openBill_2 C E FU w 0
/-! J6_bitCount_0f7a4 -/
set_option maxRecDepth 100000 in
set_option maxHeartbeats 4000000 in
theorem mJ6_bitCount_0f7a4 {b : Bx} {w : HW} {x0 : Int32} {a : Int32} (h : fJ6_bitCount_0f7a4 w x0 = some a) : Mt b yJ6_bitCount_0f7a4 cJ6_bitCount_0f7a4 1 (some .int) 0 0 [.int x0] w (some (.int a)) w := by
  refine Mt.of (ρI w) h (by decide) (Nat.le_of_ble_eq_true rfl) (fun G hG C E => ?_)
  subst hG
  have C : Cx G cJ6_bitCount_0f7a4 RJ6 1 0 0 := C
  change Sm G a 0 [(0, .int x0)] [] w _
  unfold fJ6_bitCount_0f7a4
  refine sm_iload_n C 0 rfl dJ6_bitCount_0f7a4_0 rfl ?_
  refine sm_iload_n C 0 rfl dJ6_bitCount_0f7a4_1 rfl ?_
  refine sm_iconst C ic_1 dJ6_bitCount_0f7a4_2 ?_
  refine sm_iushr C dJ6_bitCount_0f7a4_3 ?_
  refine sm_ldcw C wd146 dJ6_bitCount_0f7a4_4 ?_
  refine sm_iand C dJ6_bitCount_0f7a4_7 ?_
  refine sm_isub C dJ6_bitCount_0f7a4_8 ?_
  refine sm_let (fun x0_1 => ?_)
  refine sm_istore_n (lv1 := [(0, .int x0_1)]) C dJ6_bitCount_0f7a4_9 rfl rfl rfl ?_
  refine sm_iload_n C 0 rfl dJ6_bitCount_0f7a4_10 rfl ?_
  refine sm_ldcw C wd147 dJ6_bitCount_0f7a4_11 ?_
  refine sm_iand C dJ6_bitCount_0f7a4_14 ?_
  refine sm_iload_n C 0 rfl dJ6_bitCount_0f7a4_15 rfl ?_
  refine sm_iconst C ic_2 dJ6_bitCount_0f7a4_16 ?_
  refine sm_iushr C dJ6_bitCount_0f7a4_17 ?_
  refine sm_ldcw C wd147 dJ6_bitCount_0f7a4_18 ?_
  refine sm_iand C dJ6_bitCount_0f7a4_21 ?_
  refine sm_iadd C dJ6_bitCount_0f7a4_22 ?_
  refine sm_let (fun x0_2 => ?_)
  refine sm_istore_n (lv1 := [(0, .int x0_2)]) C dJ6_bitCount_0f7a4_23 rfl rfl rfl ?_
  refine sm_iload_n C 0 rfl dJ6_bitCount_0f7a4_24 rfl ?_
  refine sm_iload_n C 0 rfl dJ6_bitCount_0f7a4_25 rfl ?_
  refine sm_iconst C ic_4 dJ6_bitCount_0f7a4_26 ?_
  refine sm_iushr C dJ6_bitCount_0f7a4_27 ?_
  refine sm_iadd C dJ6_bitCount_0f7a4_28 ?_
  refine sm_ldcw C wd148 dJ6_bitCount_0f7a4_29 ?_
  refine sm_iand C dJ6_bitCount_0f7a4_32 ?_
  refine sm_let (fun x0_3 => ?_)
  refine sm_istore_n (lv1 := [(0, .int x0_3)]) C dJ6_bitCount_0f7a4_33 rfl rfl rfl ?_
  refine sm_iload_n C 0 rfl dJ6_bitCount_0f7a4_34 rfl ?_
  refine sm_iload_n C 0 rfl dJ6_bitCount_0f7a4_35 rfl ?_
  refine sm_bipush C bp_8 dJ6_bitCount_0f7a4_36 ?_
  refine sm_iushr C dJ6_bitCount_0f7a4_38 ?_
  refine sm_iadd C dJ6_bitCount_0f7a4_39 ?_
  refine sm_let (fun x0_4 => ?_)
  refine sm_istore_n (lv1 := [(0, .int x0_4)]) C dJ6_bitCount_0f7a4_40 rfl rfl rfl ?_
  refine sm_iload_n C 0 rfl dJ6_bitCount_0f7a4_41 rfl ?_
  refine sm_iload_n C 0 rfl dJ6_bitCount_0f7a4_42 rfl ?_
  refine sm_bipush C bp_16 dJ6_bitCount_0f7a4_43 ?_
  refine sm_iushr C dJ6_bitCount_0f7a4_45 ?_
  refine sm_iadd C dJ6_bitCount_0f7a4_46 ?_
  refine sm_let (fun x0_5 => ?_)
  refine sm_istore_n (lv1 := [(0, .int x0_5)]) C dJ6_bitCount_0f7a4_47 rfl rfl rfl ?_
  refine sm_iload_n C 0 rfl dJ6_bitCount_0f7a4_48 rfl ?_
  refine sm_bipush C bp_63 dJ6_bitCount_0f7a4_49 ?_
  refine sm_iand C dJ6_bitCount_0f7a4_51 ?_
  exact sm_iret C E rfl dJ6_bitCount_0f7a4_52
/-! X3_settle -/
set_option maxRecDepth 100000 in
set_option maxHeartbeats 4000000 in
theorem sX3_settle_172 {G : Gx} {a : HW} (C : Cx G cX3_settle RX3 11 1 21) (E : Rx G ρW a (none)) (w : HW) (x3 : Int32) (x5 : Int32) (x6 : Int32) : Sm G a 172 [(0, .ref (hB G + 11)), (3, .int x3), (5, .int x5), (6, .int x6)] [] w (fX3_settle_172 w x3 x5 x6) := by
  unfold fX3_settle_172
  refine sm_aload_n C 0 rfl dX3_settle_172 rfl ?_
  refine sm_getR C fo_3_0 rfl wd152 kd_11 dX3_settle_173 (rv_11_0 w) (by decide) ?_
  refine sm_iload_n C 1 rfl dX3_settle_176 rfl ?_
  refine sm_iload C 2 rfl dX3_settle_177 ?_
  refine sm_iast C kd_12 dX3_settle_179 (fun h_22 w_23 => ?_)
  refine sm_aload_n C 0 rfl dX3_settle_180 rfl ?_
  refine sm_getR C fo_3_1 rfl wd153 kd_11 dX3_settle_181 (rv_11_1 w_23) (by decide) ?_
  refine sm_iload_n C 1 rfl dX3_settle_184 rfl ?_
  refine sm_iload C 3 rfl dX3_settle_185 ?_
  refine sm_iast C kd_13 dX3_settle_187 (fun h_24 w_25 => ?_)
  exact sm_vret C E rfl dX3_settle_188
set_option maxRecDepth 100000 in
set_option maxHeartbeats 4000000 in
theorem sX3_settle_147 {G : Gx} {a : HW} (C : Cx G cX3_settle RX3 11 1 21) (E : Rx G ρW a (none)) {K41 : HW → Int32 → Int32 → Int32 → Option HW} (w : HW) (x2 : Int32) (x3 : Int32) (x4 : Int32) (x5 : Int32) (x6 : Int32) (x7 : Int32) (x8 : Int32) (x9 : Int32) (x10 : Int32) (hK41 : ∀ (w' : HW) (x5' : Int32) (x6' : Int32) (x8' : Int32), Sm G a 66 [(0, .ref (hB G + 11)), (2, .int x2), (3, .int x3), (4, .int x4), (5, .int (x5')), (6, .int (x6')), (7, .int x7), (8, .int (x8'))] [] w' (K41 w' x5' x6' x8')) : Sm G a 147 [(0, .ref (hB G + 11)), (2, .int x2), (3, .int x3), (4, .int x4), (5, .int x5), (6, .int x6), (7, .int x7), (8, .int x8), (9, .int x9), (10, .int x10)] [] w (fX3_settle_147 w K41 x2 x3 x4 x5 x6 x7 x8 x9 x10) := by
  unfold fX3_settle_147
  refine sm_iload C 9 rfl dX3_settle_147 ?_
  refine sm_iload C 4 rfl dX3_settle_149 ?_
  refine sm_icmp_ne C dX3_settle_151 (tgt := 166) rfl (fun h_19 => ?_) (fun h_19 => ?_)
  · refine sm_iload C 5 rfl dX3_settle_154 ?_
    refine sm_aload_n C 0 rfl dX3_settle_156 rfl ?_
    refine sm_getR C fo_3_1 rfl wd153 kd_11 dX3_settle_157 (rv_11_1 w) (by decide) ?_
    refine sm_iload C 8 rfl dX3_settle_160 ?_
    refine sm_iald C kd_13 dX3_settle_162 (fun h_20 => ?_)
    refine sm_iadd C dX3_settle_163 ?_
    refine sm_let (fun x6_21 => ?_)
    refine sm_istore (lv1 := [(6, .int x6_21), (0, .ref (hB G + 11)), (2, .int x2), (3, .int x3), (4, .int x4), (5, .int x5), (7, .int x7), (8, .int x8), (9, .int x9), (10, .int x10)]) C dX3_settle_164 rfl rfl ?_
    refine sm_iinc (lv1 := [(8, .int (x8 + 1)), (6, .int x6_21), (0, .ref (hB G + 11)), (2, .int x2), (3, .int x3), (4, .int x4), (5, .int x5), (7, .int x7), (9, .int x9), (10, .int x10)]) C 7 rfl (iv_1 _) dX3_settle_166 rfl rfl ?_
    refine sm_goto C dX3_settle_169 (tgt := 66) rfl ?_
    refine sm_sub [2, 3, 4, 5, 6, 1, 7, 0] rfl ?_
    exact hK41 w x5 x6_21 (x8 + 1)
  · refine sm_iinc (lv1 := [(8, .int (x8 + 1)), (0, .ref (hB G + 11)), (2, .int x2), (3, .int x3), (4, .int x4), (5, .int x5), (6, .int x6), (7, .int x7), (9, .int x9), (10, .int x10)]) C 7 rfl (iv_1 _) dX3_settle_166 rfl rfl ?_
    refine sm_goto C dX3_settle_169 (tgt := 66) rfl ?_
    refine sm_sub [1, 2, 3, 4, 5, 6, 7, 0] rfl ?_
    exact hK41 w x5 x6 (x8 + 1)
set_option maxRecDepth 100000 in
set_option maxHeartbeats 4000000 in
theorem sX3_settle_66 {G : Gx} {a : HW} (C : Cx G cX3_settle RX3 11 1 21) (E : Rx G ρW a (none)) {x2 : Int32} {x3 : Int32} {x4 : Int32} {x7 : Int32} : ∀ (n : Nat) (w : HW) (x5 : Int32) (x6 : Int32) (x8 : Int32), Sm G a 66 [(0, .ref (hB G + 11)), (2, .int x2), (3, .int x3), (4, .int x4), (5, .int x5), (6, .int x6), (7, .int x7), (8, .int x8)] [] w (fX3_settle_66 x2 x3 x4 x7 n w x5 x6 x8) := by
  intro n
  induction n with
  | zero => intro _ _ _ _; exact sm_none
  | succ n ih =>
    intro w x5 x6 x8
    rw [fX3_settle_66]
    refine sm_iload C 7 rfl dX3_settle_66 ?_
    refine sm_bipush C bp_8 dX3_settle_68 ?_
    refine sm_icmp_ge C dX3_settle_70 (tgt := 172) rfl (fun h_9 => ?_) (fun h_9 => ?_)
    · refine sm_iload C 6 rfl dX3_settle_73 ?_
      refine sm_if_eq C dX3_settle_75 (tgt := 172) rfl (fun h_10 => ?_) (fun h_10 => ?_)
      · refine sm_iload C 6 rfl dX3_settle_78 ?_
        refine sm_iload C 7 rfl dX3_settle_80 ?_
        refine sm_ishr C dX3_settle_82 ?_
        refine sm_iconst C ic_1 dX3_settle_83 ?_
        refine sm_iand C dX3_settle_84 ?_
        refine sm_if_eq C dX3_settle_85 (tgt := 166) rfl (fun h_11 => ?_) (fun h_11 => ?_)
        · refine sm_aload_n C 0 rfl dX3_settle_88 rfl ?_
          refine sm_getR C fo_3_3 rfl wd154 kd_11 dX3_settle_89 (rv_11_3 w) (by decide) ?_
          refine sm_iload C 7 rfl dX3_settle_92 ?_
          refine sm_iald C kd_15 dX3_settle_94 (fun h_12 => ?_)
          refine sm_iload_n C 1 rfl dX3_settle_95 rfl ?_
          refine sm_iconst C ic_m1 dX3_settle_96 ?_
          refine sm_ixor C dX3_settle_97 ?_
          refine sm_iand C dX3_settle_98 ?_
          refine sm_if_eq C dX3_settle_99 (tgt := 105) rfl (fun h_13 => ?_) (fun h_13 => ?_)
          · refine sm_goto C dX3_settle_102 (tgt := 166) rfl ?_
            refine sm_iinc (lv1 := [(8, .int (x8 + 1)), (0, .ref (hB G + 11)), (2, .int x2), (3, .int x3), (4, .int x4), (5, .int x5), (6, .int x6), (7, .int x7)]) C 7 rfl (iv_1 _) dX3_settle_166 rfl rfl ?_
            refine sm_goto C dX3_settle_169 (tgt := 66) rfl ?_
            refine sm_sub [1, 2, 3, 4, 5, 6, 7, 0] rfl ?_
            exact ih w x5 x6 (x8 + 1)
          · refine sm_iload C 3 rfl dX3_settle_105 ?_
            refine sm_iload_n C 1 rfl dX3_settle_107 rfl ?_
            refine sm_iconst C ic_1 dX3_settle_108 ?_
            refine sm_iload C 7 rfl dX3_settle_109 ?_
            refine sm_ishl C dX3_settle_111 ?_
            refine sm_ior C dX3_settle_112 ?_
            refine sm_iadd C dX3_settle_113 ?_
            refine sm_let (fun x9_14 => ?_)
            refine sm_istore (lv1 := [(9, .int x9_14), (0, .ref (hB G + 11)), (2, .int x2), (3, .int x3), (4, .int x4), (5, .int x5), (6, .int x6), (7, .int x7), (8, .int x8)]) C dX3_settle_114 rfl rfl ?_
            refine sm_aload_n C 1 rfl dX3_settle_116 rfl ?_
            refine sm_getR C fo_3_2 rfl wd141 kd_11 dX3_settle_117 (rv_11_2 w) (by decide) ?_
            refine sm_iload C 8 rfl dX3_settle_120 ?_
            refine sm_iald C kd_14 dX3_settle_122 (fun h_15 => ?_)
            refine sm_aload_n C 1 rfl dX3_settle_123 rfl ?_
            refine sm_getR C fo_3_0 rfl wd152 kd_11 dX3_settle_124 (rv_11_0 w) (by decide) ?_
            refine sm_iload C 0 rfl dX3_settle_127 ?_
            refine sm_iald C kd_12 dX3_settle_129 (fun h_16 => ?_)
            refine sm_iadd C dX3_settle_130 ?_
            refine sm_let (fun x10_17 => ?_)
            refine sm_istore (lv1 := [(10, .int x10_17), (9, .int x9_14), (0, .ref (hB G + 11)), (2, .int x2), (3, .int x3), (4, .int x4), (5, .int x5), (6, .int x6), (7, .int x7), (8, .int x8)]) C dX3_settle_131 rfl rfl ?_
            refine sm_iload C 0 rfl dX3_settle_133 ?_
            refine sm_iload C 6 rfl dX3_settle_135 ?_
            refine sm_icmp_le C dX3_settle_137 (tgt := 147) rfl (fun h_18 => ?_) (fun h_18 => ?_)
            · refine sm_iload C 0 rfl dX3_settle_140 ?_
              refine sm_istore (lv1 := [(5, .int x10_17), (10, .int x10_17), (9, .int x9_14), (0, .ref (hB G + 11)), (2, .int x2), (3, .int x3), (4, .int x4), (6, .int x6), (7, .int x7), (8, .int x8)]) C dX3_settle_142 rfl rfl ?_
              refine sm_iconst C ic_0 dX3_settle_144 ?_
              refine sm_istore (lv1 := [(6, .int 0), (5, .int x10_17), (10, .int x10_17), (9, .int x9_14), (0, .ref (hB G + 11)), (2, .int x2), (3, .int x3), (4, .int x4), (7, .int x7), (8, .int x8)]) C dX3_settle_145 rfl rfl ?_
              refine sm_sub [4, 5, 6, 7, 1, 0, 8, 9, 3, 2] rfl ?_
              exact sX3_settle_147 C E w x2 x3 x4 x10_17 0 x7 x8 x9_14 x10_17 (fun w x5 x6 x8 => ih w x5 x6 x8)
            · refine sm_sub [2, 3, 4, 5, 6, 7, 8, 9, 1, 0] rfl ?_
              exact sX3_settle_147 C E w x2 x3 x4 x5 x6 x7 x8 x9_14 x10_17 (fun w x5 x6 x8 => ih w x5 x6 x8)
        · refine sm_iinc (lv1 := [(8, .int (x8 + 1)), (0, .ref (hB G + 11)), (2, .int x2), (3, .int x3), (4, .int x4), (5, .int x5), (6, .int x6), (7, .int x7)]) C 7 rfl (iv_1 _) dX3_settle_166 rfl rfl ?_
          refine sm_goto C dX3_settle_169 (tgt := 66) rfl ?_
          refine sm_sub [1, 2, 3, 4, 5, 6, 7, 0] rfl ?_
          exact ih w x5 x6 (x8 + 1)
      · refine sm_sub [0, 2, 4, 5] rfl ?_
        exact sX3_settle_172 C E w x3 x5 x6
    · refine sm_sub [0, 2, 4, 5] rfl ?_
      exact sX3_settle_172 C E w x3 x5 x6
set_option maxRecDepth 100000 in
set_option maxHeartbeats 4000000 in
theorem mX3_settle {b : Bx} {w : HW} {x1 : Int32} {x2 : Int32} {a : HW} (h : fX3_settle w x1 x2 = some a) : Mt b yX3_settle cX3_settle 11 (none) 1 21 [.ref (bB b + 11), .int x1, .int x2] w none a := by
  refine Mt.of ρW h (by decide) (Nat.le_of_ble_eq_true rfl) (fun G hG C E => ?_)
  subst hG
  have C : Cx G cX3_settle RX3 11 1 21 := C
  change Sm G a 0 [(0, .ref (hB G + 11)), (1, .int x1), (2, .int x2)] [] w _
  unfold fX3_settle
  refine sm_iload_n C 1 rfl dX3_settle_0 rfl ?_
  refine sm_sipush C sp_256 dX3_settle_1 ?_
  refine sm_imul C dX3_settle_4 ?_
  refine sm_iload_n C 2 rfl dX3_settle_5 rfl ?_
  refine sm_iadd C dX3_settle_6 ?_
  refine sm_let (fun x3_1 => ?_)
  refine sm_istore_n (lv1 := [(3, .int x3_1), (0, .ref (hB G + 11)), (1, .int x1), (2, .int x2)]) C dX3_settle_7 rfl rfl rfl ?_
  refine sm_aload_n C 1 rfl dX3_settle_8 rfl ?_
  refine sm_getI C fo_3_6 rfl wd149 kd_11 dX3_settle_9 ?_
  refine sm_iload_n C 2 rfl dX3_settle_12 rfl ?_
  refine sm_aload_n C 1 rfl dX3_settle_13 rfl ?_
  refine sm_getI C fo_3_7 rfl wd150 kd_11 dX3_settle_14 ?_
  refine sm_iadd C dX3_settle_17 ?_
  refine sm_min C wd151 min_st math_in min_co rfl dX3_settle_18 ?_
  refine sm_sipush C sp_256 dX3_settle_21 ?_
  refine sm_imul C dX3_settle_24 ?_
  refine sm_let (fun x4_2 => ?_)
  refine sm_istore (lv1 := [(4, .int x4_2), (3, .int x3_1), (0, .ref (hB G + 11)), (1, .int x1), (2, .int x2)]) C dX3_settle_25 rfl rfl ?_
  refine sm_aload_n C 2 rfl dX3_settle_27 rfl ?_
  refine sm_getR C fo_3_0 rfl wd152 kd_11 dX3_settle_28 (rv_11_0 w) (by decide) ?_
  refine sm_iload_n C 1 rfl dX3_settle_31 rfl ?_
  refine sm_sipush C sp_256 dX3_settle_32 ?_
  refine sm_iadd C dX3_settle_35 ?_
  refine sm_iald C kd_12 dX3_settle_36 (fun h_3 => ?_)
  refine sm_let (fun x5_4 => ?_)
  refine sm_istore (lv1 := [(5, .int x5_4), (4, .int x4_2), (3, .int x3_1), (0, .ref (hB G + 11)), (1, .int x1), (2, .int x2)]) C dX3_settle_37 rfl rfl ?_
  refine sm_aload_n C 3 rfl dX3_settle_39 rfl ?_
  refine sm_getR C fo_3_1 rfl wd153 kd_11 dX3_settle_40 (rv_11_1 w) (by decide) ?_
  refine sm_iload_n C 2 rfl dX3_settle_43 rfl ?_
  refine sm_sipush C sp_256 dX3_settle_44 ?_
  refine sm_iadd C dX3_settle_47 ?_
  refine sm_iald C kd_13 dX3_settle_48 (fun h_5 => ?_)
  refine sm_let (fun x6_6 => ?_)
  refine sm_istore (lv1 := [(6, .int x6_6), (5, .int x5_4), (4, .int x4_2), (3, .int x3_1), (0, .ref (hB G + 11)), (1, .int x1), (2, .int x2)]) C dX3_settle_49 rfl rfl ?_
  refine sm_aload_n C 4 rfl dX3_settle_51 rfl ?_
  refine sm_getR C fo_3_4 rfl wd145 kd_11 dX3_settle_52 (rv_11_4 w) (by decide) ?_
  refine sm_iload_n C 5 rfl dX3_settle_55 rfl ?_
  refine sm_iald C kd_16 dX3_settle_56 (fun h_7 => ?_)
  refine sm_iload_n C 6 rfl dX3_settle_57 rfl ?_
  refine sm_iconst C ic_m1 dX3_settle_58 ?_
  refine sm_ixor C dX3_settle_59 ?_
  refine sm_iand C dX3_settle_60 ?_
  refine sm_let (fun x7_8 => ?_)
  refine sm_istore (lv1 := [(7, .int x7_8), (6, .int x6_6), (5, .int x5_4), (4, .int x4_2), (3, .int x3_1), (0, .ref (hB G + 11)), (1, .int x1), (2, .int x2)]) C dX3_settle_61 rfl rfl ?_
  refine sm_iconst C ic_0 dX3_settle_63 ?_
  refine sm_istore (lv1 := [(8, .int 0), (7, .int x7_8), (6, .int x6_6), (5, .int x5_4), (4, .int x4_2), (3, .int x3_1), (0, .ref (hB G + 11)), (1, .int x1), (2, .int x2)]) C dX3_settle_64 rfl rfl ?_
  refine sm_sub [6, 8, 5, 4, 3, 2, 1, 0] rfl ?_
  exact sX3_settle_66 C E FU w x5_4 x6_6 0
/-! X3_goBack -/
set_option maxRecDepth 100000 in
set_option maxHeartbeats 4000000 in
theorem sX3_goBack_64 {G : Gx} {a : HW} (C : Cx G cX3_goBack RX3 4 2 51) (E : Rx G ρW a (none)) {K32 : HW → Int32 → Option HW} {x1 : Int32} {x2 : Int32} (hK32 : ∀ (w' : HW) (x2' : Int32), Sm G a 54 [(0, .ref (hB G + 11)), (1, .int x1), (2, .int (x2'))] [] w' (K32 w' x2')) : ∀ (n : Nat) (w : HW) (x3 : Int32), Sm G a 64 [(0, .ref (hB G + 11)), (1, .int x1), (2, .int x2), (3, .int x3)] [] w (fX3_goBack_64 K32 x1 x2 n w x3) := by
  intro n
  induction n with
  | zero => intro _ _; exact sm_none
  | succ n ih =>
    intro w x3
    rw [fX3_goBack_64]
    refine sm_iload_n C 3 rfl dX3_goBack_64 rfl ?_
    refine sm_sipush C sp_256 dX3_goBack_65 ?_
    refine sm_icmp_ge C dX3_goBack_68 (tgt := 108) rfl (fun h_8 => ?_) (fun h_8 => ?_)
    · refine sm_iload_n C 3 rfl dX3_goBack_71 rfl ?_
      refine sm_iload_n C 1 rfl dX3_goBack_72 rfl ?_
      refine sm_iand C dX3_goBack_73 ?_
      refine sm_iload_n C 3 rfl dX3_goBack_74 rfl ?_
      refine sm_icmp_ne C dX3_goBack_75 (tgt := 102) rfl (fun h_9 => ?_) (fun h_9 => ?_)
      · refine sm_iload_n C 3 rfl dX3_goBack_78 rfl ?_
        refine sm_cSI (As := [.int x3]) C cfJ6_bitCount_0f7a4 wd156 rfl rfl rfl rfl dX3_goBack_79 (fun r h => mJ6_bitCount_0f7a4  h) (fun r_10 => ?_)
        refine sm_aload_n C 0 rfl dX3_goBack_82 rfl ?_
        refine sm_getI C fo_3_7 rfl wd150 kd_11 dX3_goBack_83 ?_
        refine sm_imul C dX3_goBack_86 ?_
        refine sm_iload_n C 2 rfl dX3_goBack_87 rfl ?_
        refine sm_aload_n C 0 rfl dX3_goBack_88 rfl ?_
        refine sm_getI C fo_3_5 rfl wd155 kd_11 dX3_goBack_89 ?_
        refine sm_isub C dX3_goBack_92 ?_
        refine sm_icmp_gt C dX3_goBack_93 (tgt := 102) rfl (fun h_12 => ?_) (fun h_12 => ?_)
        · refine sm_aload_n C 0 rfl dX3_goBack_96 rfl ?_
          refine sm_iload_n C 2 rfl dX3_goBack_97 rfl ?_
          refine sm_iload_n C 3 rfl dX3_goBack_98 rfl ?_
          refine sm_cVW (As := [.int x2, .int x3]) C cfX3_settle wd157 kd_11 rfl rfl rfl rfl rfl dX3_goBack_99 (fun r h => mX3_settle  h) (fun w_14 => ?_)
          refine sm_iinc (lv1 := [(3, .int (x3 + 1)), (0, .ref (hB G + 11)), (1, .int x1), (2, .int x2)]) C 3 rfl (iv_1 _) dX3_goBack_102 rfl rfl ?_
          refine sm_goto C dX3_goBack_105 (tgt := 64) rfl ?_
          refine sm_sub [1, 2, 3, 0] rfl ?_
          exact ih w_14 (x3 + 1)
        · refine sm_iinc (lv1 := [(3, .int (x3 + 1)), (0, .ref (hB G + 11)), (1, .int x1), (2, .int x2)]) C 3 rfl (iv_1 _) dX3_goBack_102 rfl rfl ?_
          refine sm_goto C dX3_goBack_105 (tgt := 64) rfl ?_
          refine sm_sub [1, 2, 3, 0] rfl ?_
          exact ih w (x3 + 1)
      · refine sm_iinc (lv1 := [(3, .int (x3 + 1)), (0, .ref (hB G + 11)), (1, .int x1), (2, .int x2)]) C 3 rfl (iv_1 _) dX3_goBack_102 rfl rfl ?_
        refine sm_goto C dX3_goBack_105 (tgt := 64) rfl ?_
        refine sm_sub [1, 2, 3, 0] rfl ?_
        exact ih w (x3 + 1)
    · refine sm_iinc (lv1 := [(2, .int (x2 + (-1))), (0, .ref (hB G + 11)), (1, .int x1), (3, .int x3)]) C 2 rfl (iv_m1 _) dX3_goBack_108 rfl rfl ?_
      refine sm_goto C dX3_goBack_111 (tgt := 54) rfl ?_
      refine sm_sub [1, 2, 0] rfl ?_
      exact hK32 w (x2 + (-1))
set_option maxRecDepth 100000 in
set_option maxHeartbeats 4000000 in
theorem sX3_goBack_54 {G : Gx} {a : HW} (C : Cx G cX3_goBack RX3 4 2 51) (E : Rx G ρW a (none)) {x1 : Int32} : ∀ (n : Nat) (w : HW) (x2 : Int32), Sm G a 54 [(0, .ref (hB G + 11)), (1, .int x1), (2, .int x2)] [] w (fX3_goBack_54 x1 n w x2) := by
  intro n
  induction n with
  | zero => intro _ _; exact sm_none
  | succ n ih =>
    intro w x2
    rw [fX3_goBack_54]
    refine sm_iload_n C 2 rfl dX3_goBack_54 rfl ?_
    refine sm_aload_n C 0 rfl dX3_goBack_55 rfl ?_
    refine sm_getI C fo_3_5 rfl wd155 kd_11 dX3_goBack_56 ?_
    refine sm_icmp_lt C dX3_goBack_59 (tgt := 114) rfl (fun h_7 => ?_) (fun h_7 => ?_)
    · refine sm_iconst C ic_0 dX3_goBack_62 ?_
      refine sm_istore_n (lv1 := [(3, .int 0), (0, .ref (hB G + 11)), (1, .int x1), (2, .int x2)]) C dX3_goBack_63 rfl rfl rfl ?_
      refine sm_sub [1, 2, 3, 0] rfl ?_
      exact sX3_goBack_64 C E (fun w x2 => ih w x2) FU w 0
    · exact sm_vret C E rfl dX3_goBack_114
set_option maxRecDepth 100000 in
set_option maxHeartbeats 4000000 in
theorem sX3_goBack_2 {G : Gx} {a : HW} (C : Cx G cX3_goBack RX3 4 2 51) (E : Rx G ρW a (none)) {x1 : Int32} : ∀ (n : Nat) (w : HW) (x2 : Int32), Sm G a 2 [(0, .ref (hB G + 11)), (1, .int x1), (2, .int x2)] [] w (fX3_goBack_2 x1 n w x2) := by
  intro n
  induction n with
  | zero => intro _ _; exact sm_none
  | succ n ih =>
    intro w x2
    rw [fX3_goBack_2]
    refine sm_iload_n C 2 rfl dX3_goBack_2 rfl ?_
    refine sm_sipush C sp_256 dX3_goBack_3 ?_
    refine sm_icmp_ge C dX3_goBack_6 (tgt := 47) rfl (fun h_1 => ?_) (fun h_1 => ?_)
    · refine sm_aload_n C 0 rfl dX3_goBack_9 rfl ?_
      refine sm_getR C fo_3_0 rfl wd152 kd_11 dX3_goBack_10 (rv_11_0 w) (by decide) ?_
      refine sm_aload_n C 0 rfl dX3_goBack_13 rfl ?_
      refine sm_getI C fo_3_6 rfl wd149 kd_11 dX3_goBack_14 ?_
      refine sm_sipush C sp_256 dX3_goBack_17 ?_
      refine sm_imul C dX3_goBack_20 ?_
      refine sm_iload_n C 2 rfl dX3_goBack_21 rfl ?_
      refine sm_iadd C dX3_goBack_22 ?_
      refine sm_iconst C ic_0 dX3_goBack_23 ?_
      refine sm_iast C kd_12 dX3_goBack_24 (fun h_2 w_3 => ?_)
      refine sm_aload_n C 0 rfl dX3_goBack_25 rfl ?_
      refine sm_getR C fo_3_1 rfl wd153 kd_11 dX3_goBack_26 (rv_11_1 w_3) (by decide) ?_
      refine sm_aload_n C 0 rfl dX3_goBack_29 rfl ?_
      refine sm_getI C fo_3_6 rfl wd149 kd_11 dX3_goBack_30 ?_
      refine sm_sipush C sp_256 dX3_goBack_33 ?_
      refine sm_imul C dX3_goBack_36 ?_
      refine sm_iload_n C 2 rfl dX3_goBack_37 rfl ?_
      refine sm_iadd C dX3_goBack_38 ?_
      refine sm_iconst C ic_1 dX3_goBack_39 ?_
      refine sm_iast C kd_13 dX3_goBack_40 (fun h_4 w_5 => ?_)
      refine sm_iinc (lv1 := [(2, .int (x2 + 1)), (0, .ref (hB G + 11)), (1, .int x1)]) C 2 rfl (iv_1 _) dX3_goBack_41 rfl rfl ?_
      refine sm_goto C dX3_goBack_44 (tgt := 2) rfl ?_
      refine sm_sub [1, 2, 0] rfl ?_
      exact ih w_5 (x2 + 1)
    · refine sm_aload_n C 0 rfl dX3_goBack_47 rfl ?_
      refine sm_getI C fo_3_6 rfl wd149 kd_11 dX3_goBack_48 ?_
      refine sm_iconst C ic_1 dX3_goBack_51 ?_
      refine sm_isub C dX3_goBack_52 ?_
      refine sm_let (fun x2_6 => ?_)
      refine sm_istore_n (lv1 := [(2, .int x2_6), (0, .ref (hB G + 11)), (1, .int x1)]) C dX3_goBack_53 rfl rfl rfl ?_
      refine sm_sub [1, 2, 0] rfl ?_
      exact sX3_goBack_54 C E FU w x2_6
set_option maxRecDepth 100000 in
set_option maxHeartbeats 4000000 in
theorem mX3_goBack {b : Bx} {w : HW} {x1 : Int32} {a : HW} (h : fX3_goBack w x1 = some a) : Mt b yX3_goBack cX3_goBack 4 (none) 2 51 [.ref (bB b + 11), .int x1] w none a := by
  refine Mt.of ρW h (by decide) (Nat.le_of_ble_eq_true rfl) (fun G hG C E => ?_)
  subst hG
  have C : Cx G cX3_goBack RX3 4 2 51 := C
  change Sm G a 0 [(0, .ref (hB G + 11)), (1, .int x1)] [] w _
  unfold fX3_goBack
  refine sm_iconst C ic_0 dX3_goBack_0 ?_
  refine sm_istore_n (lv1 := [(2, .int 0), (0, .ref (hB G + 11)), (1, .int x1)]) C dX3_goBack_1 rfl rfl rfl ?_
  refine sm_sub [1, 2, 0] rfl ?_
  exact sX3_goBack_2 C E FU w 0
/-! X3_solve -/
set_option maxRecDepth 100000 in
set_option maxHeartbeats 4000000 in
theorem sX3_solve_155 {G : Gx} {a : Int32 × HW} (C : Cx G cX3_solve RX3 9 3 74) (E : Rx G ρIW a (some .int)) (w : HW) (x2 : Int32) : Sm G a 155 [(0, .ref (hB G + 11)), (2, .int x2)] [] w (fX3_solve_155 w x2) := by
  unfold fX3_solve_155
  refine sm_aload_n C 0 rfl dX3_solve_155 rfl ?_
  refine sm_iload_n C 1 rfl dX3_solve_156 rfl ?_
  refine sm_cVW (As := [.int x2]) C cfX3_goBack wd168 kd_11 rfl rfl rfl rfl rfl dX3_solve_157 (fun r h => mX3_goBack  h) (fun w_28 => ?_)
  refine sm_aload_n C 0 rfl dX3_solve_160 rfl ?_
  refine sm_getR C fo_3_0 rfl wd152 kd_11 dX3_solve_161 (rv_11_0 w_28) (by decide) ?_
  refine sm_aload_n C 0 rfl dX3_solve_164 rfl ?_
  refine sm_getI C fo_3_5 rfl wd155 kd_11 dX3_solve_165 ?_
  refine sm_sipush C sp_256 dX3_solve_168 ?_
  refine sm_imul C dX3_solve_171 ?_
  refine sm_iald C kd_12 dX3_solve_172 (fun h_29 => ?_)
  exact sm_iret C E rfl dX3_solve_173
set_option maxRecDepth 100000 in
set_option maxHeartbeats 4000000 in
theorem sX3_solve_93 {G : Gx} {a : Int32 × HW} (C : Cx G cX3_solve RX3 9 3 74) (E : Rx G ρIW a (some .int)) {K28 : HW → Int32 → Option (Int32 × HW)} (w : HW) (k1 : Nat) (hk1 : isC k1 = true) (x2 : Int32) (x3 : Int32) (x4 : Int32) (x5 : Int32) (x6 : Int32) (s0 : Int32) (s1 : Int32) (hK28 : ∀ (w' : HW) (x6' : Int32), Sm G a 55 [(0, .ref (hB G + 11)), (1, .ref (hB G + k1)), (2, .int x2), (3, .int x3), (4, .int x4), (5, .int x5), (6, .int (x6'))] [] w' (K28 w' x6')) : Sm G a 93 [(0, .ref (hB G + 11)), (1, .ref (hB G + k1)), (2, .int x2), (3, .int x3), (4, .int x4), (5, .int x5), (6, .int x6)] [.int s0, .int s1, .ref (hB G + 15)] w (fX3_solve_93 w K28 k1 x2 x3 x4 x5 x6 s0 s1) := by
  unfold fX3_solve_93
  refine sm_iast C kd_15 dX3_solve_93 (fun h_13 w_14 => ?_)
  refine sm_iload_n C 2 rfl dX3_solve_94 rfl ?_
  refine sm_iload C 6 rfl dX3_solve_95 ?_
  refine sm_cNI (As := [.int x2, .int x6]) C cfX9_holds 12 rfl rfl rfl rfl rfl dX3_solve_97 (fun r h => mX9_holds  h) (fun r_15 => ?_)
  refine sm_if_eq C dX3_solve_100 (tgt := 149) rfl (fun h_17 => ?_) (fun h_17 => ?_)
  · refine sm_aload_n C 1 rfl dX3_solve_103 rfl ?_
    refine sm_iload C 4 rfl dX3_solve_104 ?_
    refine sm_aload_n C 1 rfl dX3_solve_106 rfl ?_
    refine sm_iconst C ic_1 dX3_solve_107 ?_
    refine sm_aload_n C 1 rfl dX3_solve_108 rfl ?_
    refine sm_getR C fo_0_11 rfl wd163 (kdC hk1) dX3_solve_109 (rvC_11 hk1 w_14) (nzC_4 hk1) ?_
    refine sm_iload C 6 rfl dX3_solve_112 ?_
    refine sm_iald C (kdC_4 hk1) dX3_solve_114 (fun h_18 => ?_)
    refine sm_isub C dX3_solve_115 ?_
    refine sm_cVI (As := [.int (1 - (gI w_14 (k1 + 4) (ix x6)))]) C cfX0_augursOf wd164 (kdC hk1) rfl rfl rfl rfl rfl dX3_solve_116 (fun r h => mX0_augursOf hk1 h) (fun r_19 => ?_)
    refine sm_iand C dX3_solve_119 ?_
    refine sm_cVI (As := [.int (x4 &&& r_19)]) C cfX0_skyOf wd165 (kdC hk1) rfl rfl rfl rfl rfl dX3_solve_120 (fun r h => mX0_skyOf hk1 h) (fun r_21 => ?_)
    refine sm_istore (lv1 := [(8, .int r_21), (0, .ref (hB G + 11)), (1, .ref (hB G + k1)), (2, .int x2), (3, .int x3), (4, .int x4), (5, .int x5), (6, .int x6)]) C dX3_solve_123 rfl rfl ?_
    refine sm_aload_n C 1 rfl dX3_solve_125 rfl ?_
    refine sm_iload C 7 rfl dX3_solve_126 ?_
    refine sm_aload_n C 2 rfl dX3_solve_128 rfl ?_
    refine sm_cVI (As := []) C cfX0_allDays wd166 (kdC hk1) rfl rfl rfl rfl rfl dX3_solve_129 (fun r h => mX0_allDays hk1 h) (fun r_23 => ?_)
    refine sm_iload_n C 4 rfl dX3_solve_132 rfl ?_
    refine sm_iconst C ic_m1 dX3_solve_133 ?_
    refine sm_ixor C dX3_solve_134 ?_
    refine sm_iand C dX3_solve_135 ?_
    refine sm_iload C 0 rfl dX3_solve_136 ?_
    refine sm_iconst C ic_m1 dX3_solve_138 ?_
    refine sm_ixor C dX3_solve_139 ?_
    refine sm_iand C dX3_solve_140 ?_
    refine sm_iload C 6 rfl dX3_solve_141 ?_
    refine sm_iconst C ic_m1 dX3_solve_143 ?_
    refine sm_ixor C dX3_solve_144 ?_
    refine sm_iand C dX3_solve_145 ?_
    refine sm_cVW (As := [.int x6, .int (((r_23 &&& (x3 ^^^ (-1))) &&& (r_21 ^^^ (-1))) &&& (x5 ^^^ (-1)))]) C cfX3_openBill wd167 kd_11 rfl rfl rfl rfl rfl dX3_solve_146 (fun r h => mX3_openBill  h) (fun w_26 => ?_)
    refine sm_iinc (lv1 := [(6, .int (x6 + 1)), (8, .int r_21), (0, .ref (hB G + 11)), (1, .ref (hB G + k1)), (2, .int x2), (3, .int x3), (4, .int x4), (5, .int x5)]) C 7 rfl (iv_1 _) dX3_solve_149 rfl rfl ?_
    refine sm_goto C dX3_solve_152 (tgt := 55) rfl ?_
    refine sm_sub [2, 3, 4, 5, 6, 7, 0] rfl ?_
    exact hK28 w_26 (x6 + 1)
  · refine sm_iinc (lv1 := [(6, .int (x6 + 1)), (0, .ref (hB G + 11)), (1, .ref (hB G + k1)), (2, .int x2), (3, .int x3), (4, .int x4), (5, .int x5)]) C 6 rfl (iv_1 _) dX3_solve_149 rfl rfl ?_
    refine sm_goto C dX3_solve_152 (tgt := 55) rfl ?_
    refine sm_sub [1, 2, 3, 4, 5, 6, 0] rfl ?_
    exact hK28 w_14 (x6 + 1)
set_option maxRecDepth 100000 in
set_option maxHeartbeats 4000000 in
theorem sX3_solve_55 {G : Gx} {a : Int32 × HW} (C : Cx G cX3_solve RX3 9 3 74) (E : Rx G ρIW a (some .int)) {k1 : Nat} (hk1 : isC k1 = true) {x2 : Int32} {x3 : Int32} {x4 : Int32} {x5 : Int32} : ∀ (n : Nat) (w : HW) (x6 : Int32), Sm G a 55 [(0, .ref (hB G + 11)), (1, .ref (hB G + k1)), (2, .int x2), (3, .int x3), (4, .int x4), (5, .int x5), (6, .int x6)] [] w (fX3_solve_55 k1 x2 x3 x4 x5 n w x6) := by
  intro n
  induction n with
  | zero => intro _ _; exact sm_none
  | succ n ih =>
    intro w x6
    rw [fX3_solve_55]
    refine sm_iload C 6 rfl dX3_solve_55 ?_
    refine sm_aload_n C 1 rfl dX3_solve_57 rfl ?_
    refine sm_getI C fo_0_10 rfl wd140 (kdC hk1) dX3_solve_58 ?_
    refine sm_icmp_ge C dX3_solve_61 (tgt := 155) rfl (fun h_9 => ?_) (fun h_9 => ?_)
    · refine sm_aload_n C 1 rfl dX3_solve_64 rfl ?_
      refine sm_getR C fo_0_13 rfl wd162 (kdC hk1) dX3_solve_65 (rvC_13 hk1 w) (nzC_6 hk1) ?_
      refine sm_iload C 6 rfl dX3_solve_68 ?_
      refine sm_iald C (kdC_6 hk1) dX3_solve_70 (fun h_10 => ?_)
      refine sm_let (fun x7_11 => ?_)
      refine sm_istore (lv1 := [(7, .int x7_11), (0, .ref (hB G + 11)), (1, .ref (hB G + k1)), (2, .int x2), (3, .int x3), (4, .int x4), (5, .int x5), (6, .int x6)]) C dX3_solve_71 rfl rfl ?_
      refine sm_aload_n C 1 rfl dX3_solve_73 rfl ?_
      refine sm_getR C fo_3_3 rfl wd154 kd_11 dX3_solve_74 (rv_11_3 w) (by decide) ?_
      refine sm_iload C 7 rfl dX3_solve_77 ?_
      refine sm_iload C 0 rfl dX3_solve_79 ?_
      refine sm_iconst C ic_m1 dX3_solve_81 ?_
      refine sm_icmp_ne C dX3_solve_82 (tgt := 89) rfl (fun h_12 => ?_) (fun h_12 => ?_)
      · refine sm_iconst C ic_0 dX3_solve_85 ?_
        refine sm_goto C dX3_solve_86 (tgt := 93) rfl ?_
        refine sm_sub [1, 2, 3, 4, 5, 6, 7] rfl ?_
        exact sX3_solve_93 C E w k1 hk1 x2 x3 x4 x5 x6 0 x6 (fun w x6 => ih w x6)
      · refine sm_iconst C ic_1 dX3_solve_89 ?_
        refine sm_iload C 0 rfl dX3_solve_90 ?_
        refine sm_ishl C dX3_solve_92 ?_
        refine sm_sub [1, 2, 3, 4, 5, 6, 7] rfl ?_
        exact sX3_solve_93 C E w k1 hk1 x2 x3 x4 x5 x6 (iSl 1 x7_11) x6 (fun w x6 => ih w x6)
    · refine sm_sub [0, 2] rfl ?_
      exact sX3_solve_155 C E w x2
set_option maxRecDepth 100000 in
set_option maxHeartbeats 4000000 in
theorem sX3_solve_31 {G : Gx} {a : Int32 × HW} (C : Cx G cX3_solve RX3 9 3 74) (E : Rx G ρIW a (some .int)) {k1 : Nat} (hk1 : isC k1 = true) {x2 : Int32} {x3 : Int32} {x4 : Int32} {x5 : Int32} : ∀ (n : Nat) (w : HW) (x6 : Int32), Sm G a 31 [(0, .ref (hB G + 11)), (1, .ref (hB G + k1)), (2, .int x2), (3, .int x3), (4, .int x4), (5, .int x5), (6, .int x6)] [] w (fX3_solve_31 k1 x2 x3 x4 x5 n w x6) := by
  intro n
  induction n with
  | zero => intro _ _; exact sm_none
  | succ n ih =>
    intro w x6
    rw [fX3_solve_31]
    refine sm_iload C 6 rfl dX3_solve_31 ?_
    refine sm_bipush C bp_14 dX3_solve_33 ?_
    refine sm_icmp_ge C dX3_solve_35 (tgt := 52) rfl (fun h_6 => ?_) (fun h_6 => ?_)
    · refine sm_aload_n C 0 rfl dX3_solve_38 rfl ?_
      refine sm_getR C fo_3_4 rfl wd145 kd_11 dX3_solve_39 (rv_11_4 w) (by decide) ?_
      refine sm_iload C 6 rfl dX3_solve_42 ?_
      refine sm_iconst C ic_0 dX3_solve_44 ?_
      refine sm_iast C kd_16 dX3_solve_45 (fun h_7 w_8 => ?_)
      refine sm_iinc (lv1 := [(6, .int (x6 + 1)), (0, .ref (hB G + 11)), (1, .ref (hB G + k1)), (2, .int x2), (3, .int x3), (4, .int x4), (5, .int x5)]) C 6 rfl (iv_1 _) dX3_solve_46 rfl rfl ?_
      refine sm_goto C dX3_solve_49 (tgt := 31) rfl ?_
      refine sm_sub [1, 2, 3, 4, 5, 6, 0] rfl ?_
      exact ih w_8 (x6 + 1)
    · refine sm_iconst C ic_0 dX3_solve_52 ?_
      refine sm_istore (lv1 := [(6, .int 0), (0, .ref (hB G + 11)), (1, .ref (hB G + k1)), (2, .int x2), (3, .int x3), (4, .int x4), (5, .int x5)]) C dX3_solve_53 rfl rfl ?_
      refine sm_sub [1, 2, 3, 4, 5, 6, 0] rfl ?_
      exact sX3_solve_55 C E hk1 FU w 0
set_option maxRecDepth 100000 in
set_option maxHeartbeats 4000000 in
theorem mX3_solve {b : Bx} {w : HW} {k1 : Nat} {x2 : Int32} {x3 : Int32} {x4 : Int32} {x5 : Int32} (hk1 : isC k1 = true) {a : Int32 × HW} (h : fX3_solve w k1 x2 x3 x4 x5 = some a) : Mt b yX3_solve cX3_solve 9 (some .int) 3 74 [.ref (bB b + 11), .ref (bB b + k1), .int x2, .int x3, .int x4, .int x5] w (some (.int a.1)) a.2 := by
  refine Mt.of ρIW h (by decide) (Nat.le_of_ble_eq_true rfl) (fun G hG C E => ?_)
  subst hG
  have C : Cx G cX3_solve RX3 9 3 74 := C
  change Sm G a 0 [(0, .ref (hB G + 11)), (1, .ref (hB G + k1)), (2, .int x2), (3, .int x3), (4, .int x4), (5, .int x5)] [] w _
  unfold fX3_solve
  refine sm_aload_n C 0 rfl dX3_solve_0 rfl ?_
  refine sm_aload_n C 1 rfl dX3_solve_1 rfl ?_
  refine sm_cVI (As := []) C cfX0_firstHungryDay wd158 (kdC hk1) rfl rfl rfl rfl rfl dX3_solve_2 (fun r h => mX0_firstHungryDay hk1 h) (fun r_1 => ?_)
  refine sm_putI C fo_3_5 rfl wd155 kd_11 rfl dX3_solve_5 (fun w_3 => ?_)
  refine sm_aload_n C 0 rfl dX3_solve_8 rfl ?_
  refine sm_aload_n C 1 rfl dX3_solve_9 rfl ?_
  refine sm_getI C fo_0_1 rfl wd159 (kdC hk1) dX3_solve_10 ?_
  refine sm_putI C fo_3_6 rfl wd149 kd_11 rfl dX3_solve_13 (fun w_4 => ?_)
  refine sm_aload_n C 0 rfl dX3_solve_16 rfl ?_
  refine sm_iconst C ic_1 dX3_solve_17 ?_
  refine sm_aload_n C 1 rfl dX3_solve_18 rfl ?_
  refine sm_getI C fo_0_3 rfl wd160 (kdC hk1) dX3_solve_19 ?_
  refine sm_max C wd161 max_st math_in max_co rfl dX3_solve_22 ?_
  refine sm_putI C fo_3_7 rfl wd150 kd_11 rfl dX3_solve_25 (fun w_5 => ?_)
  refine sm_iconst C ic_0 dX3_solve_28 ?_
  refine sm_istore (lv1 := [(6, .int 0), (0, .ref (hB G + 11)), (1, .ref (hB G + k1)), (2, .int x2), (3, .int x3), (4, .int x4), (5, .int x5)]) C dX3_solve_29 rfl rfl ?_
  refine sm_sub [1, 2, 3, 4, 5, 6, 0] rfl ?_
  exact sX3_solve_31 C E hk1 FU w_5 0
/-! X9_worthOfPlans -/
set_option maxRecDepth 100000 in
set_option maxHeartbeats 4000000 in
theorem mX9_worthOfPlans {b : Bx} {w : HW} {x1 : Int32} {x2 : Int32} {x3 : Int32} {x4 : Int32} {a : Int32 × HW} (h : fX9_worthOfPlans w x1 x2 x3 x4 = some a) : Mt b yX9_worthOfPlans cX9_worthOfPlans 5 (some .int) 4 102 [.ref (bB b + 0), .int x1, .int x2, .int x3, .int x4] w (some (.int a.1)) a.2 := by
  refine Mt.of ρIW h (by decide) (Nat.le_of_ble_eq_true rfl) (fun G hG C E => ?_)
  subst hG
  have C : Cx G cX9_worthOfPlans RX9 5 4 102 := C
  change Sm G a 0 [(0, .ref (hB G + 0)), (1, .int x1), (2, .int x2), (3, .int x3), (4, .int x4)] [] w _
  unfold fX9_worthOfPlans
  refine sm_aload_n C 0 rfl dX9_worthOfPlans_0 rfl ?_
  refine sm_getR C fo_9_3 rfl wd169 kd_0 dX9_worthOfPlans_1 (rv_0_3 w) (by decide) ?_
  refine sm_aload_n C 0 rfl dX9_worthOfPlans_4 rfl ?_
  refine sm_getC C fo_9_10 rfl wd58 kd_0 dX9_worthOfPlans_5 rfl (fun j_1 hj_1 => ?_)
  refine sm_cVW (As := [.ref (hB G + j_1)]) C cfX3_billsByWorth wd170 kd_11 rfl rfl rfl rfl rfl dX9_worthOfPlans_8 (fun r h => mX3_billsByWorth hj_1 h) (fun w_3 => ?_)
  refine sm_aload_n C 0 rfl dX9_worthOfPlans_11 rfl ?_
  refine sm_getR C fo_9_3 rfl wd169 kd_0 dX9_worthOfPlans_12 (rv_0_3 w_3) (by decide) ?_
  refine sm_aload_n C 0 rfl dX9_worthOfPlans_15 rfl ?_
  refine sm_getC C fo_9_10 rfl wd58 kd_0 dX9_worthOfPlans_16 rfl (fun j_4 hj_4 => ?_)
  refine sm_iload_n C 1 rfl dX9_worthOfPlans_19 rfl ?_
  refine sm_iload_n C 2 rfl dX9_worthOfPlans_20 rfl ?_
  refine sm_iload_n C 3 rfl dX9_worthOfPlans_21 rfl ?_
  refine sm_iload C 4 rfl dX9_worthOfPlans_22 ?_
  refine sm_cVIW (As := [.ref (hB G + j_4), .int x1, .int x2, .int x3, .int x4]) C cfX3_solve wd171 kd_11 rfl rfl rfl rfl rfl dX9_worthOfPlans_24 (fun r h => mX3_solve hj_4 h) (fun r_5 w_6 => ?_)
  exact sm_iret C E rfl dX9_worthOfPlans_27
/-! X9_worthOfPlan -/
set_option maxRecDepth 100000 in
set_option maxHeartbeats 4000000 in
theorem mX9_worthOfPlan {b : Bx} {w : HW} {x1 : Int32} {a : Int32 × HW} (h : fX9_worthOfPlan w x1 = some a) : Mt b yX9_worthOfPlan cX9_worthOfPlan 2 (some .int) 5 126 [.ref (bB b + 0), .int x1] w (some (.int a.1)) a.2 := by
  refine Mt.of ρIW h (by decide) (Nat.le_of_ble_eq_true rfl) (fun G hG C E => ?_)
  subst hG
  have C : Cx G cX9_worthOfPlan RX9 2 5 126 := C
  change Sm G a 0 [(0, .ref (hB G + 0)), (1, .int x1)] [] w _
  unfold fX9_worthOfPlan
  refine sm_aload_n C 0 rfl dX9_worthOfPlan_0 rfl ?_
  refine sm_aload_n C 0 rfl dX9_worthOfPlan_1 rfl ?_
  refine sm_getC C fo_9_10 rfl wd58 kd_0 dX9_worthOfPlan_2 rfl (fun j_1 hj_1 => ?_)
  refine sm_iload_n C 1 rfl dX9_worthOfPlan_5 rfl ?_
  refine sm_cVI (As := [.int x1]) C cfX0_billsOf wd138 (kdC hj_1) rfl rfl rfl rfl rfl dX9_worthOfPlan_6 (fun r h => mX0_billsOf hj_1 h) (fun r_2 => ?_)
  refine sm_aload_n C 0 rfl dX9_worthOfPlan_9 rfl ?_
  refine sm_getC C fo_9_10 rfl wd58 kd_0 dX9_worthOfPlan_10 rfl (fun j_4 hj_4 => ?_)
  refine sm_getI C fo_0_5 rfl wd71 (kdC hj_4) dX9_worthOfPlan_13 ?_
  refine sm_sipush C sp_255 dX9_worthOfPlan_16 ?_
  refine sm_iconst C ic_0 dX9_worthOfPlan_19 ?_
  refine sm_cVIW (As := [.int r_2, .int (gI w j_4 5), .int 255, .int 0]) C cfX9_worthOfPlans wd172 kd_0 rfl rfl rfl rfl rfl dX9_worthOfPlan_20 (fun r h => mX9_worthOfPlans  h) (fun r_5 w_6 => ?_)
  exact sm_iret C E rfl dX9_worthOfPlan_23
/-! X9_plan -/
set_option maxRecDepth 100000 in
set_option maxHeartbeats 4000000 in
theorem mX9_plan {b : Bx} {w : HW} {x1 : Int32} {a : Int32 × HW} (h : fX9_plan w x1 = some a) : Mt b yX9_plan cX9_plan 2 (some .int) 6 147 [.ref (bB b + 0), .int x1] w (some (.int a.1)) a.2 := by
  refine Mt.of ρIW h (by decide) (Nat.le_of_ble_eq_true rfl) (fun G hG C E => ?_)
  subst hG
  have C : Cx G cX9_plan RX9 2 6 147 := C
  change Sm G a 0 [(0, .ref (hB G + 0)), (1, .int x1)] [] w _
  unfold fX9_plan
  refine sm_aload_n C 0 rfl dX9_plan_0 rfl ?_
  refine sm_getC C fo_9_10 rfl wd58 kd_0 dX9_plan_1 rfl (fun j_1 hj_1 => ?_)
  refine sm_iload_n C 1 rfl dX9_plan_4 rfl ?_
  refine sm_cVI (As := [.int x1]) C cfX0_hasSide wd77 (kdC hj_1) rfl rfl rfl rfl rfl dX9_plan_5 (fun r h => mX0_hasSide hj_1 h) (fun r_2 => ?_)
  refine sm_if_eq C dX9_plan_8 (tgt := 19) rfl (fun h_4 => ?_) (fun h_4 => ?_)
  · refine sm_aload_n C 0 rfl dX9_plan_11 rfl ?_
    refine sm_iload_n C 1 rfl dX9_plan_12 rfl ?_
    refine sm_cVIW (As := [.int x1]) C cfX9_worthOfPlan wd173 kd_0 rfl rfl rfl rfl rfl dX9_plan_13 (fun r h => mX9_worthOfPlan  h) (fun r_5 w_6 => ?_)
    refine sm_goto C dX9_plan_16 (tgt := 21) rfl ?_
    exact sm_iret C E rfl dX9_plan_21
  · refine sm_bipush C bp_m2 dX9_plan_19 ?_
    exact sm_iret C E rfl dX9_plan_21
/-! X3_firstBill -/
set_option maxRecDepth 100000 in
set_option maxHeartbeats 4000000 in
theorem sX3_firstBill_113 {G : Gx} {a : Int32} {w : HW} (C : Cx G cX3_firstBill RX3 8 1 21) (E : Rx G (ρI w) a (some .int)) {K48 : Int32 → Option Int32} (x2 : Int32) (x3 : Int32) (x4 : Int32) (x5 : Int32) (x6 : Int32) (s0 : Int32) (hK48 : ∀ (x6' : Int32), Sm G a 77 [(0, .ref (hB G + 11)), (2, .int x2), (3, .int x3), (4, .int x4), (5, .int x5), (6, .int (x6'))] [] w (K48 x6')) : Sm G a 113 [(0, .ref (hB G + 11)), (2, .int x2), (3, .int x3), (4, .int x4), (5, .int x5), (6, .int x6)] [.int s0] w (fX3_firstBill_113 w K48 x2 x3 x4 x5 x6 s0) := by
  unfold fX3_firstBill_113
  refine sm_istore (lv1 := [(7, .int s0), (0, .ref (hB G + 11)), (2, .int x2), (3, .int x3), (4, .int x4), (5, .int x5), (6, .int x6)]) C dX3_firstBill_113 rfl rfl ?_
  refine sm_iload C 0 rfl dX3_firstBill_115 ?_
  refine sm_if_eq C dX3_firstBill_117 (tgt := 154) rfl (fun h_16 => ?_) (fun h_16 => ?_)
  · refine sm_aload_n C 1 rfl dX3_firstBill_120 rfl ?_
    refine sm_getR C fo_3_2 rfl wd141 kd_11 dX3_firstBill_121 (rv_11_2 w) (by decide) ?_
    refine sm_iload C 6 rfl dX3_firstBill_124 ?_
    refine sm_iald C kd_14 dX3_firstBill_126 (fun h_17 => ?_)
    refine sm_aload_n C 1 rfl dX3_firstBill_127 rfl ?_
    refine sm_getR C fo_3_0 rfl wd152 kd_11 dX3_firstBill_128 (rv_11_0 w) (by decide) ?_
    refine sm_iload C 4 rfl dX3_firstBill_131 ?_
    refine sm_iload_n C 2 rfl dX3_firstBill_133 rfl ?_
    refine sm_iconst C ic_1 dX3_firstBill_134 ?_
    refine sm_iload C 6 rfl dX3_firstBill_135 ?_
    refine sm_ishl C dX3_firstBill_137 ?_
    refine sm_ior C dX3_firstBill_138 ?_
    refine sm_iadd C dX3_firstBill_139 ?_
    refine sm_iald C kd_12 dX3_firstBill_140 (fun h_18 => ?_)
    refine sm_iadd C dX3_firstBill_141 ?_
    refine sm_aload_n C 1 rfl dX3_firstBill_142 rfl ?_
    refine sm_getR C fo_3_0 rfl wd152 kd_11 dX3_firstBill_143 (rv_11_0 w) (by decide) ?_
    refine sm_iload_n C 3 rfl dX3_firstBill_146 rfl ?_
    refine sm_iald C kd_12 dX3_firstBill_147 (fun h_19 => ?_)
    refine sm_icmp_ne C dX3_firstBill_148 (tgt := 154) rfl (fun h_20 => ?_) (fun h_20 => ?_)
    · refine sm_iload C 6 rfl dX3_firstBill_151 ?_
      exact sm_iret C E rfl dX3_firstBill_153
    · refine sm_iinc (lv1 := [(6, .int (x6 + 1)), (7, .int s0), (0, .ref (hB G + 11)), (2, .int x2), (3, .int x3), (4, .int x4), (5, .int x5)]) C 6 rfl (iv_1 _) dX3_firstBill_154 rfl rfl ?_
      refine sm_goto C dX3_firstBill_157 (tgt := 77) rfl ?_
      refine sm_sub [2, 3, 4, 5, 6, 0] rfl ?_
      exact hK48 (x6 + 1)
  · refine sm_iinc (lv1 := [(6, .int (x6 + 1)), (7, .int s0), (0, .ref (hB G + 11)), (2, .int x2), (3, .int x3), (4, .int x4), (5, .int x5)]) C 6 rfl (iv_1 _) dX3_firstBill_154 rfl rfl ?_
    refine sm_goto C dX3_firstBill_157 (tgt := 77) rfl ?_
    refine sm_sub [2, 3, 4, 5, 6, 0] rfl ?_
    exact hK48 (x6 + 1)
set_option maxRecDepth 100000 in
set_option maxHeartbeats 4000000 in
theorem sX3_firstBill_77 {G : Gx} {a : Int32} {w : HW} (C : Cx G cX3_firstBill RX3 8 1 21) (E : Rx G (ρI w) a (some .int)) {x2 : Int32} {x3 : Int32} {x4 : Int32} {x5 : Int32} : ∀ (n : Nat) (x6 : Int32), Sm G a 77 [(0, .ref (hB G + 11)), (2, .int x2), (3, .int x3), (4, .int x4), (5, .int x5), (6, .int x6)] [] w (fX3_firstBill_77 w x2 x3 x4 x5 n x6) := by
  intro n
  induction n with
  | zero => intro _; exact sm_none
  | succ n ih =>
    intro x6
    rw [fX3_firstBill_77]
    refine sm_iload C 5 rfl dX3_firstBill_77 ?_
    refine sm_bipush C bp_8 dX3_firstBill_79 ?_
    refine sm_icmp_ge C dX3_firstBill_81 (tgt := 160) rfl (fun h_10 => ?_) (fun h_10 => ?_)
    · refine sm_iload C 4 rfl dX3_firstBill_84 ?_
      refine sm_iload C 5 rfl dX3_firstBill_86 ?_
      refine sm_cNI (As := [.int x5, .int x6]) C cfX9_holds 12 rfl rfl rfl rfl rfl dX3_firstBill_88 (fun r h => mX9_holds  h) (fun r_11 => ?_)
      refine sm_if_eq C dX3_firstBill_91 (tgt := 112) rfl (fun h_13 => ?_) (fun h_13 => ?_)
      · refine sm_aload_n C 0 rfl dX3_firstBill_94 rfl ?_
        refine sm_getR C fo_3_3 rfl wd154 kd_11 dX3_firstBill_95 (rv_11_3 w) (by decide) ?_
        refine sm_iload C 5 rfl dX3_firstBill_98 ?_
        refine sm_iald C kd_15 dX3_firstBill_100 (fun h_14 => ?_)
        refine sm_iload_n C 1 rfl dX3_firstBill_101 rfl ?_
        refine sm_iconst C ic_m1 dX3_firstBill_102 ?_
        refine sm_ixor C dX3_firstBill_103 ?_
        refine sm_iand C dX3_firstBill_104 ?_
        refine sm_if_ne C dX3_firstBill_105 (tgt := 112) rfl (fun h_15 => ?_) (fun h_15 => ?_)
        · refine sm_iconst C ic_1 dX3_firstBill_108 ?_
          refine sm_goto C dX3_firstBill_109 (tgt := 113) rfl ?_
          exact sX3_firstBill_113 C E x2 x3 x4 x5 x6 1 (fun x6 => ih x6)
        · refine sm_iconst C ic_0 dX3_firstBill_112 ?_
          exact sX3_firstBill_113 C E x2 x3 x4 x5 x6 0 (fun x6 => ih x6)
      · refine sm_iconst C ic_0 dX3_firstBill_112 ?_
        exact sX3_firstBill_113 C E x2 x3 x4 x5 x6 0 (fun x6 => ih x6)
    · refine sm_iconst C ic_m1 dX3_firstBill_160 ?_
      exact sm_iret C E rfl dX3_firstBill_161
set_option maxRecDepth 100000 in
set_option maxHeartbeats 4000000 in
theorem mX3_firstBill {b : Bx} {w : HW} {x1 : Int32} {x2 : Int32} {a : Int32} (h : fX3_firstBill w x1 x2 = some a) : Mt b yX3_firstBill cX3_firstBill 8 (some .int) 1 21 [.ref (bB b + 11), .int x1, .int x2] w (some (.int a)) w := by
  refine Mt.of (ρI w) h (by decide) (Nat.le_of_ble_eq_true rfl) (fun G hG C E => ?_)
  subst hG
  have C : Cx G cX3_firstBill RX3 8 1 21 := C
  change Sm G a 0 [(0, .ref (hB G + 11)), (1, .int x1), (2, .int x2)] [] w _
  unfold fX3_firstBill
  refine sm_iload_n C 1 rfl dX3_firstBill_0 rfl ?_
  refine sm_if_lt C dX3_firstBill_1 (tgt := 12) rfl (fun h_1 => ?_) (fun h_1 => ?_)
  · refine sm_iload_n C 1 rfl dX3_firstBill_4 rfl ?_
    refine sm_aload_n C 0 rfl dX3_firstBill_5 rfl ?_
    refine sm_getI C fo_3_6 rfl wd149 kd_11 dX3_firstBill_6 ?_
    refine sm_icmp_lt C dX3_firstBill_9 (tgt := 14) rfl (fun h_2 => ?_) (fun h_2 => ?_)
    · refine sm_iconst C ic_m1 dX3_firstBill_12 ?_
      exact sm_iret C E rfl dX3_firstBill_13
    · refine sm_iload_n C 1 rfl dX3_firstBill_14 rfl ?_
      refine sm_sipush C sp_256 dX3_firstBill_15 ?_
      refine sm_imul C dX3_firstBill_18 ?_
      refine sm_iload_n C 2 rfl dX3_firstBill_19 rfl ?_
      refine sm_iadd C dX3_firstBill_20 ?_
      refine sm_let (fun x3_3 => ?_)
      refine sm_istore_n (lv1 := [(3, .int x3_3), (0, .ref (hB G + 11)), (1, .int x1), (2, .int x2)]) C dX3_firstBill_21 rfl rfl rfl ?_
      refine sm_aload_n C 1 rfl dX3_firstBill_22 rfl ?_
      refine sm_getR C fo_3_0 rfl wd152 kd_11 dX3_firstBill_23 (rv_11_0 w) (by decide) ?_
      refine sm_iload_n C 0 rfl dX3_firstBill_26 rfl ?_
      refine sm_sipush C sp_256 dX3_firstBill_27 ?_
      refine sm_iadd C dX3_firstBill_30 ?_
      refine sm_iald C kd_12 dX3_firstBill_31 (fun h_4 => ?_)
      refine sm_aload_n C 1 rfl dX3_firstBill_32 rfl ?_
      refine sm_getR C fo_3_0 rfl wd152 kd_11 dX3_firstBill_33 (rv_11_0 w) (by decide) ?_
      refine sm_iload_n C 0 rfl dX3_firstBill_36 rfl ?_
      refine sm_iald C kd_12 dX3_firstBill_37 (fun h_5 => ?_)
      refine sm_icmp_ne C dX3_firstBill_38 (tgt := 43) rfl (fun h_6 => ?_) (fun h_6 => ?_)
      · refine sm_iconst C ic_m1 dX3_firstBill_41 ?_
        exact sm_iret C E rfl dX3_firstBill_42
      · refine sm_aload_n C 1 rfl dX3_firstBill_43 rfl ?_
        refine sm_getI C fo_3_6 rfl wd149 kd_11 dX3_firstBill_44 ?_
        refine sm_iload_n C 2 rfl dX3_firstBill_47 rfl ?_
        refine sm_aload_n C 1 rfl dX3_firstBill_48 rfl ?_
        refine sm_getI C fo_3_7 rfl wd150 kd_11 dX3_firstBill_49 ?_
        refine sm_iadd C dX3_firstBill_52 ?_
        refine sm_min C wd151 min_st math_in min_co rfl dX3_firstBill_53 ?_
        refine sm_sipush C sp_256 dX3_firstBill_56 ?_
        refine sm_imul C dX3_firstBill_59 ?_
        refine sm_let (fun x4_7 => ?_)
        refine sm_istore (lv1 := [(4, .int x4_7), (3, .int x3_3), (0, .ref (hB G + 11)), (1, .int x1), (2, .int x2)]) C dX3_firstBill_60 rfl rfl ?_
        refine sm_aload_n C 2 rfl dX3_firstBill_62 rfl ?_
        refine sm_getR C fo_3_4 rfl wd145 kd_11 dX3_firstBill_63 (rv_11_4 w) (by decide) ?_
        refine sm_iload_n C 3 rfl dX3_firstBill_66 rfl ?_
        refine sm_iald C kd_16 dX3_firstBill_67 (fun h_8 => ?_)
        refine sm_iload_n C 4 rfl dX3_firstBill_68 rfl ?_
        refine sm_iconst C ic_m1 dX3_firstBill_69 ?_
        refine sm_ixor C dX3_firstBill_70 ?_
        refine sm_iand C dX3_firstBill_71 ?_
        refine sm_let (fun x5_9 => ?_)
        refine sm_istore (lv1 := [(5, .int x5_9), (4, .int x4_7), (3, .int x3_3), (0, .ref (hB G + 11)), (1, .int x1), (2, .int x2)]) C dX3_firstBill_72 rfl rfl ?_
        refine sm_iconst C ic_0 dX3_firstBill_74 ?_
        refine sm_istore (lv1 := [(6, .int 0), (5, .int x5_9), (4, .int x4_7), (3, .int x3_3), (0, .ref (hB G + 11)), (1, .int x1), (2, .int x2)]) C dX3_firstBill_75 rfl rfl ?_
        refine sm_sub [4, 6, 3, 2, 1, 0] rfl ?_
        exact sX3_firstBill_77 C E FU 0
  · refine sm_iconst C ic_m1 dX3_firstBill_12 ?_
    exact sm_iret C E rfl dX3_firstBill_13
/-! X3_billInFirstPlan -/
set_option maxRecDepth 100000 in
set_option maxHeartbeats 4000000 in
theorem sX3_billInFirstPlan_62 {G : Gx} {a : Int32} {w : HW} (C : Cx G cX3_billInFirstPlan RX3 6 2 48) (E : Rx G (ρI w) a (some .int)) (x1 : Int32) (x2 : Int32) (x3 : Int32) : Sm G a 62 [(0, .ref (hB G + 11)), (1, .int x1), (2, .int x2), (3, .int x3)] [] w (fX3_billInFirstPlan_62 w x1 x2 x3) := by
  unfold fX3_billInFirstPlan_62
  refine sm_iload_n C 3 rfl dX3_billInFirstPlan_62 rfl ?_
  refine sm_iload_n C 1 rfl dX3_billInFirstPlan_63 rfl ?_
  refine sm_icmp_ne C dX3_billInFirstPlan_64 (tgt := 76) rfl (fun h_9 => ?_) (fun h_9 => ?_)
  · refine sm_aload_n C 0 rfl dX3_billInFirstPlan_67 rfl ?_
    refine sm_iload_n C 3 rfl dX3_billInFirstPlan_68 rfl ?_
    refine sm_iload_n C 2 rfl dX3_billInFirstPlan_69 rfl ?_
    refine sm_cVI (As := [.int x3, .int x2]) C cfX3_firstBill wd174 kd_11 rfl rfl rfl rfl rfl dX3_billInFirstPlan_70 (fun r h => mX3_firstBill  h) (fun r_10 => ?_)
    refine sm_goto C dX3_billInFirstPlan_73 (tgt := 77) rfl ?_
    exact sm_iret C E rfl dX3_billInFirstPlan_77
  · refine sm_iconst C ic_m1 dX3_billInFirstPlan_76 ?_
    exact sm_iret C E rfl dX3_billInFirstPlan_77
set_option maxRecDepth 100000 in
set_option maxHeartbeats 4000000 in
theorem sX3_billInFirstPlan_10 {G : Gx} {a : Int32} {w : HW} (C : Cx G cX3_billInFirstPlan RX3 6 2 48) (E : Rx G (ρI w) a (some .int)) {x1 : Int32} : ∀ (n : Nat) (x2 : Int32) (x3 : Int32) (x4 : Int32), Sm G a 10 [(0, .ref (hB G + 11)), (1, .int x1), (2, .int x2), (3, .int x3), (4, .int x4)] [] w (fX3_billInFirstPlan_10 w x1 n x2 x3 x4) := by
  intro n
  induction n with
  | zero => intro _ _ _; exact sm_none
  | succ n ih =>
    intro x2 x3 x4
    rw [fX3_billInFirstPlan_10]
    refine sm_iload C 4 rfl dX3_billInFirstPlan_10 ?_
    refine sm_bipush C bp_14 dX3_billInFirstPlan_12 ?_
    refine sm_icmp_ge C dX3_billInFirstPlan_14 (tgt := 62) rfl (fun h_2 => ?_) (fun h_2 => ?_)
    · refine sm_iload_n C 3 rfl dX3_billInFirstPlan_17 rfl ?_
      refine sm_iload_n C 1 rfl dX3_billInFirstPlan_18 rfl ?_
      refine sm_icmp_ge C dX3_billInFirstPlan_19 (tgt := 62) rfl (fun h_3 => ?_) (fun h_3 => ?_)
      · refine sm_aload_n C 0 rfl dX3_billInFirstPlan_22 rfl ?_
        refine sm_iload_n C 3 rfl dX3_billInFirstPlan_23 rfl ?_
        refine sm_iload_n C 2 rfl dX3_billInFirstPlan_24 rfl ?_
        refine sm_cVI (As := [.int x3, .int x2]) C cfX3_firstBill wd174 kd_11 rfl rfl rfl rfl rfl dX3_billInFirstPlan_25 (fun r h => mX3_firstBill  h) (fun r_4 => ?_)
        refine sm_istore (lv1 := [(5, .int r_4), (0, .ref (hB G + 11)), (1, .int x1), (2, .int x2), (3, .int x3), (4, .int x4)]) C dX3_billInFirstPlan_28 rfl rfl ?_
        refine sm_iload C 0 rfl dX3_billInFirstPlan_30 ?_
        refine sm_iconst C ic_m1 dX3_billInFirstPlan_32 ?_
        refine sm_icmp_ne C dX3_billInFirstPlan_33 (tgt := 42) rfl (fun h_6 => ?_) (fun h_6 => ?_)
        · refine sm_iinc (lv1 := [(3, .int (x3 + 1)), (5, .int r_4), (0, .ref (hB G + 11)), (1, .int x1), (2, .int x2), (4, .int x4)]) C 4 rfl (iv_1 _) dX3_billInFirstPlan_36 rfl rfl ?_
          refine sm_goto C dX3_billInFirstPlan_39 (tgt := 56) rfl ?_
          refine sm_iinc (lv1 := [(4, .int (x4 + 1)), (3, .int (x3 + 1)), (5, .int r_4), (0, .ref (hB G + 11)), (1, .int x1), (2, .int x2)]) C 5 rfl (iv_1 _) dX3_billInFirstPlan_56 rfl rfl ?_
          refine sm_goto C dX3_billInFirstPlan_59 (tgt := 10) rfl ?_
          refine sm_sub [3, 4, 5, 1, 0] rfl ?_
          exact ih x2 (x3 + 1) (x4 + 1)
        · refine sm_iload_n C 3 rfl dX3_billInFirstPlan_42 rfl ?_
          refine sm_iconst C ic_1 dX3_billInFirstPlan_43 ?_
          refine sm_iload C 0 rfl dX3_billInFirstPlan_44 ?_
          refine sm_ishl C dX3_billInFirstPlan_46 ?_
          refine sm_ior C dX3_billInFirstPlan_47 ?_
          refine sm_let (fun x2_7 => ?_)
          refine sm_istore_n (lv1 := [(2, .int x2_7), (5, .int r_4), (0, .ref (hB G + 11)), (1, .int x1), (3, .int x3), (4, .int x4)]) C dX3_billInFirstPlan_48 rfl rfl rfl ?_
          refine sm_iload_n C 4 rfl dX3_billInFirstPlan_49 rfl ?_
          refine sm_aload_n C 2 rfl dX3_billInFirstPlan_50 rfl ?_
          refine sm_getI C fo_3_7 rfl wd150 kd_11 dX3_billInFirstPlan_51 ?_
          refine sm_iadd C dX3_billInFirstPlan_54 ?_
          refine sm_let (fun x3_8 => ?_)
          refine sm_istore_n (lv1 := [(3, .int x3_8), (2, .int x2_7), (5, .int r_4), (0, .ref (hB G + 11)), (1, .int x1), (4, .int x4)]) C dX3_billInFirstPlan_55 rfl rfl rfl ?_
          refine sm_iinc (lv1 := [(4, .int (x4 + 1)), (3, .int x3_8), (2, .int x2_7), (5, .int r_4), (0, .ref (hB G + 11)), (1, .int x1)]) C 5 rfl (iv_1 _) dX3_billInFirstPlan_56 rfl rfl ?_
          refine sm_goto C dX3_billInFirstPlan_59 (tgt := 10) rfl ?_
          refine sm_sub [4, 5, 2, 1, 0] rfl ?_
          exact ih x2_7 x3_8 (x4 + 1)
      · refine sm_sub [0, 1, 2, 3] rfl ?_
        exact sX3_billInFirstPlan_62 C E x1 x2 x3
    · refine sm_sub [0, 1, 2, 3] rfl ?_
      exact sX3_billInFirstPlan_62 C E x1 x2 x3
set_option maxRecDepth 100000 in
set_option maxHeartbeats 4000000 in
theorem mX3_billInFirstPlan {b : Bx} {w : HW} {x1 : Int32} {a : Int32} (h : fX3_billInFirstPlan w x1 = some a) : Mt b yX3_billInFirstPlan cX3_billInFirstPlan 6 (some .int) 2 48 [.ref (bB b + 11), .int x1] w (some (.int a)) w := by
  refine Mt.of (ρI w) h (by decide) (Nat.le_of_ble_eq_true rfl) (fun G hG C E => ?_)
  subst hG
  have C : Cx G cX3_billInFirstPlan RX3 6 2 48 := C
  change Sm G a 0 [(0, .ref (hB G + 11)), (1, .int x1)] [] w _
  unfold fX3_billInFirstPlan
  refine sm_iconst C ic_0 dX3_billInFirstPlan_0 ?_
  refine sm_istore_n (lv1 := [(2, .int 0), (0, .ref (hB G + 11)), (1, .int x1)]) C dX3_billInFirstPlan_1 rfl rfl rfl ?_
  refine sm_aload_n C 1 rfl dX3_billInFirstPlan_2 rfl ?_
  refine sm_getI C fo_3_5 rfl wd155 kd_11 dX3_billInFirstPlan_3 ?_
  refine sm_let (fun x3_1 => ?_)
  refine sm_istore_n (lv1 := [(3, .int x3_1), (2, .int 0), (0, .ref (hB G + 11)), (1, .int x1)]) C dX3_billInFirstPlan_6 rfl rfl rfl ?_
  refine sm_iconst C ic_0 dX3_billInFirstPlan_7 ?_
  refine sm_istore (lv1 := [(4, .int 0), (3, .int x3_1), (2, .int 0), (0, .ref (hB G + 11)), (1, .int x1)]) C dX3_billInFirstPlan_8 rfl rfl ?_
  refine sm_sub [3, 4, 2, 1, 0] rfl ?_
  exact sX3_billInFirstPlan_10 C E FU 0 x3_1 0
/-! X9_planned -/
set_option maxRecDepth 100000 in
set_option maxHeartbeats 4000000 in
theorem mX9_planned {b : Bx} {w : HW} {x1 : Int32} {x2 : Int32} {a : Int32 × HW} (h : fX9_planned w x1 x2 = some a) : Mt b yX9_planned cX9_planned 3 (some .int) 6 147 [.ref (bB b + 0), .int x1, .int x2] w (some (.int a.1)) a.2 := by
  refine Mt.of ρIW h (by decide) (Nat.le_of_ble_eq_true rfl) (fun G hG C E => ?_)
  subst hG
  have C : Cx G cX9_planned RX9 3 6 147 := C
  change Sm G a 0 [(0, .ref (hB G + 0)), (1, .int x1), (2, .int x2)] [] w _
  unfold fX9_planned
  refine sm_aload_n C 0 rfl dX9_planned_0 rfl ?_
  refine sm_getC C fo_9_10 rfl wd58 kd_0 dX9_planned_1 rfl (fun j_1 hj_1 => ?_)
  refine sm_iload_n C 1 rfl dX9_planned_4 rfl ?_
  refine sm_cVI (As := [.int x1]) C cfX0_hasSide wd77 (kdC hj_1) rfl rfl rfl rfl rfl dX9_planned_5 (fun r h => mX0_hasSide hj_1 h) (fun r_2 => ?_)
  refine sm_if_eq C dX9_planned_8 (tgt := 22) rfl (fun h_4 => ?_) (fun h_4 => ?_)
  · refine sm_aload_n C 0 rfl dX9_planned_11 rfl ?_
    refine sm_getC C fo_9_10 rfl wd58 kd_0 dX9_planned_12 rfl (fun j_5 hj_5 => ?_)
    refine sm_iload_n C 2 rfl dX9_planned_15 rfl ?_
    refine sm_cVI (As := [.int x2]) C cfX0_hasDay wd80 (kdC hj_5) rfl rfl rfl rfl rfl dX9_planned_16 (fun r h => mX0_hasDay hj_5 h) (fun r_6 => ?_)
    refine sm_if_ne C dX9_planned_19 (tgt := 25) rfl (fun h_8 => ?_) (fun h_8 => ?_)
    · refine sm_bipush C bp_m2 dX9_planned_22 ?_
      exact sm_iret C E rfl dX9_planned_24
    · refine sm_aload_n C 0 rfl dX9_planned_25 rfl ?_
      refine sm_iload_n C 1 rfl dX9_planned_26 rfl ?_
      refine sm_cVIW (As := [.int x1]) C cfX9_worthOfPlan wd173 kd_0 rfl rfl rfl rfl rfl dX9_planned_27 (fun r h => mX9_worthOfPlan  h) (fun r_9 w_10 => ?_)
      refine sm_pop C rfl dX9_planned_30 ?_
      refine sm_aload_n C 0 rfl dX9_planned_31 rfl ?_
      refine sm_getR C fo_9_3 rfl wd169 kd_0 dX9_planned_32 (rv_0_3 w_10) (by decide) ?_
      refine sm_iload_n C 2 rfl dX9_planned_35 rfl ?_
      refine sm_cVI (As := [.int x2]) C cfX3_billInFirstPlan wd175 kd_11 rfl rfl rfl rfl rfl dX9_planned_36 (fun r h => mX3_billInFirstPlan  h) (fun r_11 => ?_)
      exact sm_iret C E rfl dX9_planned_39
  · refine sm_bipush C bp_m2 dX9_planned_22 ?_
    exact sm_iret C E rfl dX9_planned_24
/-! X3_howManyPlans -/
set_option maxRecDepth 100000 in
set_option maxHeartbeats 4000000 in
theorem mX3_howManyPlans {b : Bx} {w : HW} {a : Int32} (h : fX3_howManyPlans w = some a) : Mt b yX3_howManyPlans cX3_howManyPlans 1 (some .int) 0 0 [.ref (bB b + 11)] w (some (.int a)) w := by
  refine Mt.of (ρI w) h (by decide) (Nat.le_of_ble_eq_true rfl) (fun G hG C E => ?_)
  subst hG
  have C : Cx G cX3_howManyPlans RX3 1 0 0 := C
  change Sm G a 0 [(0, .ref (hB G + 11))] [] w _
  unfold fX3_howManyPlans
  refine sm_aload_n C 0 rfl dX3_howManyPlans_0 rfl ?_
  refine sm_getR C fo_3_1 rfl wd153 kd_11 dX3_howManyPlans_1 (rv_11_1 w) (by decide) ?_
  refine sm_aload_n C 0 rfl dX3_howManyPlans_4 rfl ?_
  refine sm_getI C fo_3_5 rfl wd155 kd_11 dX3_howManyPlans_5 ?_
  refine sm_sipush C sp_256 dX3_howManyPlans_8 ?_
  refine sm_imul C dX3_howManyPlans_11 ?_
  refine sm_iald C kd_13 dX3_howManyPlans_12 (fun h_1 => ?_)
  exact sm_iret C E rfl dX3_howManyPlans_13
/-! X9_ways -/
set_option maxRecDepth 100000 in
set_option maxHeartbeats 4000000 in
theorem mX9_ways {b : Bx} {w : HW} {x1 : Int32} {a : Int32 × HW} (h : fX9_ways w x1 = some a) : Mt b yX9_ways cX9_ways 2 (some .int) 6 147 [.ref (bB b + 0), .int x1] w (some (.int a.1)) a.2 := by
  refine Mt.of ρIW h (by decide) (Nat.le_of_ble_eq_true rfl) (fun G hG C E => ?_)
  subst hG
  have C : Cx G cX9_ways RX9 2 6 147 := C
  change Sm G a 0 [(0, .ref (hB G + 0)), (1, .int x1)] [] w _
  unfold fX9_ways
  refine sm_aload_n C 0 rfl dX9_ways_0 rfl ?_
  refine sm_getC C fo_9_10 rfl wd58 kd_0 dX9_ways_1 rfl (fun j_1 hj_1 => ?_)
  refine sm_iload_n C 1 rfl dX9_ways_4 rfl ?_
  refine sm_cVI (As := [.int x1]) C cfX0_hasSide wd77 (kdC hj_1) rfl rfl rfl rfl rfl dX9_ways_5 (fun r h => mX0_hasSide hj_1 h) (fun r_2 => ?_)
  refine sm_if_ne C dX9_ways_8 (tgt := 14) rfl (fun h_4 => ?_) (fun h_4 => ?_)
  · refine sm_bipush C bp_m2 dX9_ways_11 ?_
    exact sm_iret C E rfl dX9_ways_13
  · refine sm_aload_n C 0 rfl dX9_ways_14 rfl ?_
    refine sm_iload_n C 1 rfl dX9_ways_15 rfl ?_
    refine sm_cVIW (As := [.int x1]) C cfX9_worthOfPlan wd173 kd_0 rfl rfl rfl rfl rfl dX9_ways_16 (fun r h => mX9_worthOfPlan  h) (fun r_5 w_6 => ?_)
    refine sm_pop C rfl dX9_ways_19 ?_
    refine sm_aload_n C 0 rfl dX9_ways_20 rfl ?_
    refine sm_getR C fo_9_3 rfl wd169 kd_0 dX9_ways_21 (rv_0_3 w_6) (by decide) ?_
    refine sm_cVI (As := []) C cfX3_howManyPlans wd176 kd_11 rfl rfl rfl rfl rfl dX9_ways_24 (fun r h => mX3_howManyPlans  h) (fun r_7 => ?_)
    exact sm_iret C E rfl dX9_ways_27
/-! X3_billsAlike -/
set_option maxRecDepth 100000 in
set_option maxHeartbeats 4000000 in
theorem sX3_billsAlike_2 {G : Gx} {a : HW} (C : Cx G cX3_billsAlike RX3 3 0 0) (E : Rx G ρW a (none)) {k1 : Nat} (hk1 : isC k1 = true) : ∀ (n : Nat) (w : HW) (x2 : Int32), Sm G a 2 [(0, .ref (hB G + 11)), (1, .ref (hB G + k1)), (2, .int x2)] [] w (fX3_billsAlike_2 k1 n w x2) := by
  intro n
  induction n with
  | zero => intro _ _; exact sm_none
  | succ n ih =>
    intro w x2
    rw [fX3_billsAlike_2]
    refine sm_iload_n C 2 rfl dX3_billsAlike_2 rfl ?_
    refine sm_aload_n C 1 rfl dX3_billsAlike_3 rfl ?_
    refine sm_getI C fo_0_10 rfl wd140 (kdC hk1) dX3_billsAlike_4 ?_
    refine sm_icmp_ge C dX3_billsAlike_7 (tgt := 23) rfl (fun h_1 => ?_) (fun h_1 => ?_)
    · refine sm_aload_n C 0 rfl dX3_billsAlike_10 rfl ?_
      refine sm_getR C fo_3_2 rfl wd141 kd_11 dX3_billsAlike_11 (rv_11_2 w) (by decide) ?_
      refine sm_iload_n C 2 rfl dX3_billsAlike_14 rfl ?_
      refine sm_iconst C ic_1 dX3_billsAlike_15 ?_
      refine sm_iast C kd_14 dX3_billsAlike_16 (fun h_2 w_3 => ?_)
      refine sm_iinc (lv1 := [(2, .int (x2 + 1)), (0, .ref (hB G + 11)), (1, .ref (hB G + k1))]) C 2 rfl (iv_1 _) dX3_billsAlike_17 rfl rfl ?_
      refine sm_goto C dX3_billsAlike_20 (tgt := 2) rfl ?_
      refine sm_sub [1, 2, 0] rfl ?_
      exact ih w_3 (x2 + 1)
    · exact sm_vret C E rfl dX3_billsAlike_23
set_option maxRecDepth 100000 in
set_option maxHeartbeats 4000000 in
theorem mX3_billsAlike {b : Bx} {w : HW} {k1 : Nat} (hk1 : isC k1 = true) {a : HW} (h : fX3_billsAlike w k1 = some a) : Mt b yX3_billsAlike cX3_billsAlike 3 (none) 0 0 [.ref (bB b + 11), .ref (bB b + k1)] w none a := by
  refine Mt.of ρW h (by decide) (Nat.le_of_ble_eq_true rfl) (fun G hG C E => ?_)
  subst hG
  have C : Cx G cX3_billsAlike RX3 3 0 0 := C
  change Sm G a 0 [(0, .ref (hB G + 11)), (1, .ref (hB G + k1))] [] w _
  unfold fX3_billsAlike
  refine sm_iconst C ic_0 dX3_billsAlike_0 ?_
  refine sm_istore_n (lv1 := [(2, .int 0), (0, .ref (hB G + 11)), (1, .ref (hB G + k1))]) C dX3_billsAlike_1 rfl rfl rfl ?_
  refine sm_sub [1, 2, 0] rfl ?_
  exact sX3_billsAlike_2 C E hk1 FU w 0
