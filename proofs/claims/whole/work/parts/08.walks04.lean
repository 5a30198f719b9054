/-! X10_asks -/
set_option maxRecDepth 100000 in
set_option maxHeartbeats 4000000 in
theorem mX10_asks {b : Bx} {w : HW} {x1 : Int32} {x2 : Int32} {a : Int32 × HW} (h : fX10_asks w x1 x2 = some a) : Mt b yX10_asks cX10_asks 3 (some .int) 8 178 [.ref (bB b + 79), .int x1, .int x2] w (some (.int a.1)) a.2 := by
  refine Mt.of ρIW h (by decide) (Nat.le_of_ble_eq_true rfl) (fun G hG C E => ?_)
  subst hG
  have C : Cx G cX10_asks RX10 3 8 178 := C
  change Sm G a 0 [(0, .ref (hB G + 79)), (1, .int x1), (2, .int x2)] [] w _
  unfold fX10_asks
  refine sm_aload_n C 0 rfl dX10_asks_0 rfl ?_
  refine sm_iload_n C 1 rfl dX10_asks_1 rfl ?_
  refine sm_cVIW (As := [.int x1]) C cfX10_asksBill wd368 kd_79 rfl rfl rfl rfl rfl dX10_asks_2 (fun r h => mX10_asksBill  h) (fun r_1 w_2 => ?_)
  refine sm_if_eq C dX10_asks_5 (tgt := 17) rfl (fun h_3 => ?_) (fun h_3 => ?_)
  · refine sm_aload_n C 0 rfl dX10_asks_8 rfl ?_
    refine sm_iload_n C 2 rfl dX10_asks_9 rfl ?_
    refine sm_i2l C dX10_asks_10 ?_
    refine sm_cVI (As := [.long (x2.toInt64)]) C cfX10_isDay wd343 kd_79 rfl rfl rfl rfl rfl dX10_asks_11 (fun r h => mX10_isDay  h) (fun r_4 => ?_)
    refine sm_if_ne C dX10_asks_14 (tgt := 20) rfl (fun h_6 => ?_) (fun h_6 => ?_)
    · refine sm_bipush C bp_m2 dX10_asks_17 ?_
      exact sm_iret C E rfl dX10_asks_19
    · refine sm_aload_n C 0 rfl dX10_asks_20 rfl ?_
      refine sm_getR C fo_10_15 rfl wd344 kd_79 dX10_asks_21 (rv_79_15 w_2) (by decide) ?_
      refine sm_iload_n C 2 rfl dX10_asks_24 rfl ?_
      refine sm_iald C kd_86 dX10_asks_25 (fun h_7 => ?_)
      refine sm_iconst C ic_m1 dX10_asks_26 ?_
      refine sm_icmp_ne C dX10_asks_27 (tgt := 53) rfl (fun h_8 => ?_) (fun h_8 => ?_)
      · refine sm_aload_n C 0 rfl dX10_asks_30 rfl ?_
        refine sm_getR C fo_10_19 rfl wd345 kd_79 dX10_asks_31 (rv_79_19 w_2) (by decide) ?_
        refine sm_iload_n C 1 rfl dX10_asks_34 rfl ?_
        refine sm_iald C kd_90 dX10_asks_35 (fun h_9 => ?_)
        refine sm_iconst C ic_m1 dX10_asks_36 ?_
        refine sm_icmp_ne C dX10_asks_37 (tgt := 53) rfl (fun h_10 => ?_) (fun h_10 => ?_)
        · refine sm_aload_n C 0 rfl dX10_asks_40 rfl ?_
          refine sm_bipush C bp_100 dX10_asks_41 ?_
          refine sm_iload_n C 1 rfl dX10_asks_43 rfl ?_
          refine sm_imul C dX10_asks_44 ?_
          refine sm_iload_n C 2 rfl dX10_asks_45 rfl ?_
          refine sm_iadd C dX10_asks_46 ?_
          refine sm_cVIW (As := [.int ((100 * x1) + x2)]) C cfX10_keepAct wd422 kd_79 rfl rfl rfl rfl rfl dX10_asks_47 (fun r h => mX10_keepAct  h) (fun r_11 w_12 => ?_)
          refine sm_if_ne C dX10_asks_50 (tgt := 56) rfl (fun h_13 => ?_) (fun h_13 => ?_)
          · refine sm_bipush C bp_m5 dX10_asks_53 ?_
            exact sm_iret C E rfl dX10_asks_55
          · refine sm_aload_n C 0 rfl dX10_asks_56 rfl ?_
            refine sm_getR C fo_10_18 rfl wd347 kd_79 dX10_asks_57 (rv_79_18 w_12) (by decide) ?_
            refine sm_iload_n C 1 rfl dX10_asks_60 rfl ?_
            refine sm_iald C kd_89 dX10_asks_61 (fun h_14 => ?_)
            refine sm_iconst C ic_m1 dX10_asks_62 ?_
            refine sm_icmp_ne C dX10_asks_63 (tgt := 70) rfl (fun h_15 => ?_) (fun h_15 => ?_)
            · refine sm_iconst C ic_0 dX10_asks_66 ?_
              refine sm_goto C dX10_asks_67 (tgt := 71) rfl ?_
              exact sm_iret C E rfl dX10_asks_71
            · refine sm_iconst C ic_1 dX10_asks_70 ?_
              exact sm_iret C E rfl dX10_asks_71
        · refine sm_bipush C bp_m5 dX10_asks_53 ?_
          exact sm_iret C E rfl dX10_asks_55
      · refine sm_bipush C bp_m5 dX10_asks_53 ?_
        exact sm_iret C E rfl dX10_asks_55
  · refine sm_bipush C bp_m2 dX10_asks_17 ?_
    exact sm_iret C E rfl dX10_asks_19
/-! X10_feeds -/
set_option maxRecDepth 100000 in
set_option maxHeartbeats 4000000 in
theorem mX10_feeds {b : Bx} {w : HW} {x1 : Int32} {a : Int32 × HW} (h : fX10_feeds w x1 = some a) : Mt b yX10_feeds cX10_feeds 2 (some .int) 8 178 [.ref (bB b + 79), .int x1] w (some (.int a.1)) a.2 := by
  refine Mt.of ρIW h (by decide) (Nat.le_of_ble_eq_true rfl) (fun G hG C E => ?_)
  subst hG
  have C : Cx G cX10_feeds RX10 2 8 178 := C
  change Sm G a 0 [(0, .ref (hB G + 79)), (1, .int x1)] [] w _
  unfold fX10_feeds
  refine sm_aload_n C 0 rfl dX10_feeds_0 rfl ?_
  refine sm_iload_n C 1 rfl dX10_feeds_1 rfl ?_
  refine sm_cVIW (As := [.int x1]) C cfX10_asksDay wd363 kd_79 rfl rfl rfl rfl rfl dX10_feeds_2 (fun r h => mX10_asksDay  h) (fun r_1 w_2 => ?_)
  refine sm_if_ne C dX10_feeds_5 (tgt := 11) rfl (fun h_3 => ?_) (fun h_3 => ?_)
  · refine sm_bipush C bp_m2 dX10_feeds_8 ?_
    exact sm_iret C E rfl dX10_feeds_10
  · refine sm_aload_n C 0 rfl dX10_feeds_11 rfl ?_
    refine sm_getR C fo_10_15 rfl wd344 kd_79 dX10_feeds_12 (rv_79_15 w_2) (by decide) ?_
    refine sm_iload_n C 1 rfl dX10_feeds_15 rfl ?_
    refine sm_iald C kd_86 dX10_feeds_16 (fun h_4 => ?_)
    refine sm_iconst C ic_m1 dX10_feeds_17 ?_
    refine sm_icmp_ne C dX10_feeds_18 (tgt := 42) rfl (fun h_5 => ?_) (fun h_5 => ?_)
    · refine sm_aload_n C 0 rfl dX10_feeds_21 rfl ?_
      refine sm_sipush C sp_1000 dX10_feeds_22 ?_
      refine sm_iload_n C 1 rfl dX10_feeds_25 rfl ?_
      refine sm_iadd C dX10_feeds_26 ?_
      refine sm_cVIW (As := [.int (1000 + x1)]) C cfX10_keepAct wd422 kd_79 rfl rfl rfl rfl rfl dX10_feeds_27 (fun r h => mX10_keepAct  h) (fun r_6 w_7 => ?_)
      refine sm_if_eq C dX10_feeds_30 (tgt := 42) rfl (fun h_8 => ?_) (fun h_8 => ?_)
      · refine sm_aload_n C 0 rfl dX10_feeds_33 rfl ?_
        refine sm_getR C fo_10_16 rfl wd346 kd_79 dX10_feeds_34 (rv_79_16 w_7) (by decide) ?_
        refine sm_iload_n C 1 rfl dX10_feeds_37 rfl ?_
        refine sm_iald C kd_87 dX10_feeds_38 (fun h_9 => ?_)
        refine sm_goto C dX10_feeds_39 (tgt := 44) rfl ?_
        exact sm_iret C E rfl dX10_feeds_44
      · refine sm_bipush C bp_m5 dX10_feeds_42 ?_
        exact sm_iret C E rfl dX10_feeds_44
    · refine sm_bipush C bp_m5 dX10_feeds_42 ?_
      exact sm_iret C E rfl dX10_feeds_44
/-! X10_undo -/
set_option maxRecDepth 100000 in
set_option maxHeartbeats 4000000 in
theorem mX10_undo {b : Bx} {w : HW} {a : Int32 × HW} (h : fX10_undo w = some a) : Mt b yX10_undo cX10_undo 1 (some .int) 1 20 [.ref (bB b + 79)] w (some (.int a.1)) a.2 := by
  refine Mt.of ρIW h (by decide) (Nat.le_of_ble_eq_true rfl) (fun G hG C E => ?_)
  subst hG
  have C : Cx G cX10_undo RX10 1 1 20 := C
  change Sm G a 0 [(0, .ref (hB G + 79))] [] w _
  unfold fX10_undo
  refine sm_aload_n C 0 rfl dX10_undo_0 rfl ?_
  refine sm_cVI (As := []) C cfX10_isCamp wd299 kd_79 rfl rfl rfl rfl rfl dX10_undo_1 (fun r h => mX10_isCamp  h) (fun r_1 => ?_)
  refine sm_if_ne C dX10_undo_4 (tgt := 10) rfl (fun h_3 => ?_) (fun h_3 => ?_)
  · refine sm_bipush C bp_m2 dX10_undo_7 ?_
    exact sm_iret C E rfl dX10_undo_9
  · refine sm_aload_n C 0 rfl dX10_undo_10 rfl ?_
    refine sm_getR C fo_10_1 rfl wd297 kd_79 dX10_undo_11 (rv_79_1 w) (by decide) ?_
    refine sm_bipush C bp_6 dX10_undo_14 ?_
    refine sm_iald C kd_80 dX10_undo_16 (fun h_4 => ?_)
    refine sm_if_ne C dX10_undo_17 (tgt := 23) rfl (fun h_5 => ?_) (fun h_5 => ?_)
    · refine sm_bipush C bp_m5 dX10_undo_20 ?_
      exact sm_iret C E rfl dX10_undo_22
    · refine sm_aload_n C 0 rfl dX10_undo_23 rfl ?_
      refine sm_getR C fo_10_1 rfl wd297 kd_79 dX10_undo_24 (rv_79_1 w) (by decide) ?_
      refine sm_bipush C bp_6 dX10_undo_27 ?_
      refine sm_dup2 C rfl rfl dX10_undo_29 ?_
      refine sm_iald C kd_80 dX10_undo_30 (fun h_6 => ?_)
      refine sm_iconst C ic_1 dX10_undo_31 ?_
      refine sm_isub C dX10_undo_32 ?_
      refine sm_iast C kd_80 dX10_undo_33 (fun h_7 w_8 => ?_)
      refine sm_aload_n C 0 rfl dX10_undo_34 rfl ?_
      refine sm_getR C fo_10_1 rfl wd297 kd_79 dX10_undo_35 (rv_79_1 w_8) (by decide) ?_
      refine sm_bipush C bp_6 dX10_undo_38 ?_
      refine sm_iald C kd_80 dX10_undo_40 (fun h_9 => ?_)
      exact sm_iret C E rfl dX10_undo_41
/-! X10_anew -/
set_option maxRecDepth 100000 in
set_option maxHeartbeats 4000000 in
theorem mX10_anew {b : Bx} {w : HW} {a : Int32 × HW} (h : fX10_anew w = some a) : Mt b yX10_anew cX10_anew 2 (some .int) 1 20 [.ref (bB b + 79)] w (some (.int a.1)) a.2 := by
  refine Mt.of ρIW h (by decide) (Nat.le_of_ble_eq_true rfl) (fun G hG C E => ?_)
  subst hG
  have C : Cx G cX10_anew RX10 2 1 20 := C
  change Sm G a 0 [(0, .ref (hB G + 79))] [] w _
  unfold fX10_anew
  refine sm_aload_n C 0 rfl dX10_anew_0 rfl ?_
  refine sm_cVI (As := []) C cfX10_isCamp wd299 kd_79 rfl rfl rfl rfl rfl dX10_anew_1 (fun r h => mX10_isCamp  h) (fun r_1 => ?_)
  refine sm_if_ne C dX10_anew_4 (tgt := 10) rfl (fun h_3 => ?_) (fun h_3 => ?_)
  · refine sm_bipush C bp_m2 dX10_anew_7 ?_
    exact sm_iret C E rfl dX10_anew_9
  · refine sm_aload_n C 0 rfl dX10_anew_10 rfl ?_
    refine sm_getR C fo_10_1 rfl wd297 kd_79 dX10_anew_11 (rv_79_1 w) (by decide) ?_
    refine sm_bipush C bp_6 dX10_anew_14 ?_
    refine sm_iald C kd_80 dX10_anew_16 (fun h_4 => ?_)
    refine sm_let (fun x1_5 => ?_)
    refine sm_istore_n (lv1 := [(1, .int x1_5), (0, .ref (hB G + 79))]) C dX10_anew_17 rfl rfl rfl ?_
    refine sm_aload_n C 1 rfl dX10_anew_18 rfl ?_
    refine sm_getR C fo_10_1 rfl wd297 kd_79 dX10_anew_19 (rv_79_1 w) (by decide) ?_
    refine sm_bipush C bp_6 dX10_anew_22 ?_
    refine sm_iconst C ic_0 dX10_anew_24 ?_
    refine sm_iast C kd_80 dX10_anew_25 (fun h_6 w_7 => ?_)
    refine sm_iload_n C 0 rfl dX10_anew_26 rfl ?_
    exact sm_iret C E rfl dX10_anew_27
/-! X10_goDrawn -/
set_option maxRecDepth 100000 in
set_option maxHeartbeats 4000000 in
theorem sX10_goDrawn_33 {G : Gx} {a : Int32 × HW} (C : Cx G cX10_goDrawn RX10 5 6 137) (E : Rx G ρIW a (some .int)) : ∀ (n : Nat) (w : HW) (x3 : Int32) (x4 : Int32), Sm G a 33 [(0, .ref (hB G + 79)), (3, .int x3), (4, .int x4)] [] w (fX10_goDrawn_33 n w x3 x4) := by
  intro n
  induction n with
  | zero => intro _ _ _; exact sm_none
  | succ n ih =>
    intro w x3 x4
    rw [fX10_goDrawn_33]
    refine sm_iload C 2 rfl dX10_goDrawn_33 ?_
    refine sm_aload_n C 0 rfl dX10_goDrawn_35 rfl ?_
    refine sm_getR C fo_10_1 rfl wd297 kd_79 dX10_goDrawn_36 (rv_79_1 w) (by decide) ?_
    refine sm_iconst C ic_5 dX10_goDrawn_39 ?_
    refine sm_iald C kd_80 dX10_goDrawn_40 (fun h_9 => ?_)
    refine sm_icmp_ge C dX10_goDrawn_41 (tgt := 72) rfl (fun h_10 => ?_) (fun h_10 => ?_)
    · refine sm_iload_n C 1 rfl dX10_goDrawn_44 rfl ?_
      refine sm_aload_n C 0 rfl dX10_goDrawn_45 rfl ?_
      refine sm_getR C fo_10_18 rfl wd347 kd_79 dX10_goDrawn_46 (rv_79_18 w) (by decide) ?_
      refine sm_iload C 2 rfl dX10_goDrawn_49 ?_
      refine sm_iald C kd_89 dX10_goDrawn_51 (fun h_11 => ?_)
      refine sm_iconst C ic_m1 dX10_goDrawn_52 ?_
      refine sm_icmp_ne C dX10_goDrawn_53 (tgt := 60) rfl (fun h_12 => ?_) (fun h_12 => ?_)
      · refine sm_iconst C ic_0 dX10_goDrawn_56 ?_
        refine sm_goto C dX10_goDrawn_57 (tgt := 64) rfl ?_
        refine sm_ior C dX10_goDrawn_64 ?_
        refine sm_let (fun x3_13 => ?_)
        refine sm_istore_n (lv1 := [(3, .int x3_13), (0, .ref (hB G + 79)), (4, .int x4)]) C dX10_goDrawn_65 rfl rfl rfl ?_
        refine sm_iinc (lv1 := [(4, .int (x4 + 1)), (3, .int x3_13), (0, .ref (hB G + 79))]) C 2 rfl (iv_1 _) dX10_goDrawn_66 rfl rfl ?_
        refine sm_goto C dX10_goDrawn_69 (tgt := 33) rfl ?_
        refine sm_sub [2, 1, 0] rfl ?_
        exact ih w x3_13 (x4 + 1)
      · refine sm_iconst C ic_1 dX10_goDrawn_60 ?_
        refine sm_iload C 2 rfl dX10_goDrawn_61 ?_
        refine sm_ishl C dX10_goDrawn_63 ?_
        refine sm_ior C dX10_goDrawn_64 ?_
        refine sm_let (fun x3_14 => ?_)
        refine sm_istore_n (lv1 := [(3, .int x3_14), (0, .ref (hB G + 79)), (4, .int x4)]) C dX10_goDrawn_65 rfl rfl rfl ?_
        refine sm_iinc (lv1 := [(4, .int (x4 + 1)), (3, .int x3_14), (0, .ref (hB G + 79))]) C 2 rfl (iv_1 _) dX10_goDrawn_66 rfl rfl ?_
        refine sm_goto C dX10_goDrawn_69 (tgt := 33) rfl ?_
        refine sm_sub [2, 1, 0] rfl ?_
        exact ih w x3_14 (x4 + 1)
    · refine sm_iload_n C 1 rfl dX10_goDrawn_72 rfl ?_
      exact sm_iret C E rfl dX10_goDrawn_73
set_option maxRecDepth 100000 in
set_option maxHeartbeats 4000000 in
theorem mX10_goDrawn {b : Bx} {w : HW} {x1 : Int64} {a : Int32 × HW} (h : fX10_goDrawn w x1 = some a) : Mt b yX10_goDrawn cX10_goDrawn 5 (some .int) 6 137 [.ref (bB b + 79), .long x1] w (some (.int a.1)) a.2 := by
  refine Mt.of ρIW h (by decide) (Nat.le_of_ble_eq_true rfl) (fun G hG C E => ?_)
  subst hG
  have C : Cx G cX10_goDrawn RX10 5 6 137 := C
  change Sm G a 0 [(0, .ref (hB G + 79)), (1, .long x1)] [] w _
  unfold fX10_goDrawn
  refine sm_aload_n C 0 rfl dX10_goDrawn_0 rfl ?_
  refine sm_cVW (As := []) C cfX10_layAsked wd360 kd_79 rfl rfl rfl rfl rfl dX10_goDrawn_1 (fun r h => mX10_layAsked  h) (fun w_2 => ?_)
  refine sm_aload_n C 0 rfl dX10_goDrawn_4 rfl ?_
  refine sm_lload_n C 1 rfl dX10_goDrawn_5 rfl ?_
  refine sm_putL C fo_10_20 rfl wd350 kd_79 rfl dX10_goDrawn_6 (fun w_3 => ?_)
  refine sm_aload_n C 0 rfl dX10_goDrawn_9 rfl ?_
  refine sm_iconst C ic_0 dX10_goDrawn_10 ?_
  refine sm_putI C fo_10_22 rfl wd353 kd_79 rfl dX10_goDrawn_11 (fun w_4 => ?_)
  refine sm_aload_n C 0 rfl dX10_goDrawn_14 rfl ?_
  refine sm_iconst C ic_1 dX10_goDrawn_15 ?_
  refine sm_putZ C fo_10_21 rfl wd348 kd_79 rfl (by decide) dX10_goDrawn_16 (fun w_5 => ?_)
  refine sm_aload_n C 0 rfl dX10_goDrawn_19 rfl ?_
  refine sm_cVW (As := []) C cfX10_goDays wd361 kd_79 rfl rfl rfl rfl rfl dX10_goDrawn_20 (fun r h => mX10_goDays  h) (fun w_7 => ?_)
  refine sm_aload_n C 0 rfl dX10_goDrawn_23 rfl ?_
  refine sm_iconst C ic_0 dX10_goDrawn_24 ?_
  refine sm_putZ C fo_10_21 rfl wd348 kd_79 rfl (by decide) dX10_goDrawn_25 (fun w_8 => ?_)
  refine sm_iconst C ic_0 dX10_goDrawn_28 ?_
  refine sm_istore_n (lv1 := [(3, .int 0), (0, .ref (hB G + 79)), (1, .long x1)]) C dX10_goDrawn_29 rfl rfl rfl ?_
  refine sm_iconst C ic_0 dX10_goDrawn_30 ?_
  refine sm_istore (lv1 := [(4, .int 0), (3, .int 0), (0, .ref (hB G + 79)), (1, .long x1)]) C dX10_goDrawn_31 rfl rfl ?_
  refine sm_sub [2, 1, 0] rfl ?_
  exact sX10_goDrawn_33 C E FU w_8 0 0
/-! X10_isSeed -/
set_option maxRecDepth 100000 in
set_option maxHeartbeats 4000000 in
theorem mX10_isSeed {b : Bx} {w : HW} {x0 : Int32} {a : Int32} (h : fX10_isSeed w x0 = some a) : Mt b yX10_isSeed cX10_isSeed 1 (some .boolean) 1 25 [.int x0] w (some (.int a)) w := by
  refine Mt.of (ρI w) h (by decide) (Nat.le_of_ble_eq_true rfl) (fun G hG C E => ?_)
  subst hG
  have C : Cx G cX10_isSeed RX10 1 1 25 := C
  change Sm G a 0 [(0, .int x0)] [] w _
  unfold fX10_isSeed
  refine sm_iload_n C 0 rfl dX10_isSeed_0 rfl ?_
  refine sm_i2l C dX10_isSeed_1 ?_
  refine sm_lconst C lc_0 dX10_isSeed_2 ?_
  refine sm_ldc2 C wd423 dX10_isSeed_3 ?_
  refine sm_cSI (As := [.long (x0.toInt64), .long 0, .long 2000000000]) C cfX10_in wd295 rfl rfl rfl rfl dX10_isSeed_6 (fun r h => mX10_in  h) (fun r_1 => ?_)
  refine sm_chk (fun h_3 => ?_)
  exact sm_zret C E rfl (zB_nar h_3) dX10_isSeed_9
/-! X10_drawn -/
set_option maxRecDepth 100000 in
set_option maxHeartbeats 4000000 in
theorem mX10_drawn {b : Bx} {w : HW} {x1 : Int32} {x2 : Int32} {a : Int32 × HW} (h : fX10_drawn w x1 x2 = some a) : Mt b yX10_drawn cX10_drawn 4 (some .int) 7 161 [.ref (bB b + 79), .int x1, .int x2] w (some (.int a.1)) a.2 := by
  refine Mt.of ρIW h (by decide) (Nat.le_of_ble_eq_true rfl) (fun G hG C E => ?_)
  subst hG
  have C : Cx G cX10_drawn RX10 4 7 161 := C
  change Sm G a 0 [(0, .ref (hB G + 79)), (1, .int x1), (2, .int x2)] [] w _
  unfold fX10_drawn
  refine sm_aload_n C 0 rfl dX10_drawn_0 rfl ?_
  refine sm_cVI (As := []) C cfX10_isCamp wd299 kd_79 rfl rfl rfl rfl rfl dX10_drawn_1 (fun r h => mX10_isCamp  h) (fun r_1 => ?_)
  refine sm_if_eq C dX10_drawn_4 (tgt := 24) rfl (fun h_3 => ?_) (fun h_3 => ?_)
  · refine sm_iload_n C 1 rfl dX10_drawn_7 rfl ?_
    refine sm_cSI (As := [.int x1]) C cfX10_isSeed wd424 rfl rfl rfl rfl dX10_drawn_8 (fun r h => mX10_isSeed  h) (fun r_4 => ?_)
    refine sm_if_eq C dX10_drawn_11 (tgt := 24) rfl (fun h_6 => ?_) (fun h_6 => ?_)
    · refine sm_iload_n C 2 rfl dX10_drawn_14 rfl ?_
      refine sm_i2l C dX10_drawn_15 ?_
      refine sm_lconst C lc_0 dX10_drawn_16 ?_
      refine sm_lconst C lc_1 dX10_drawn_17 ?_
      refine sm_cSI (As := [.long (x2.toInt64), .long 0, .long 1]) C cfX10_in wd295 rfl rfl rfl rfl dX10_drawn_18 (fun r h => mX10_in  h) (fun r_7 => ?_)
      refine sm_if_ne C dX10_drawn_21 (tgt := 27) rfl (fun h_9 => ?_) (fun h_9 => ?_)
      · refine sm_bipush C bp_m2 dX10_drawn_24 ?_
        exact sm_iret C E rfl dX10_drawn_26
      · refine sm_aload_n C 0 rfl dX10_drawn_27 rfl ?_
        refine sm_iload_n C 1 rfl dX10_drawn_28 rfl ?_
        refine sm_i2l C dX10_drawn_29 ?_
        refine sm_cVIW (As := [.long (x1.toInt64)]) C cfX10_goDrawn wd425 kd_79 rfl rfl rfl rfl rfl dX10_drawn_30 (fun r h => mX10_goDrawn  h) (fun r_10 w_11 => ?_)
        refine sm_istore_n (lv1 := [(3, .int r_10), (0, .ref (hB G + 79)), (1, .int x1), (2, .int x2)]) C dX10_drawn_33 rfl rfl rfl ?_
        refine sm_iload_n C 3 rfl dX10_drawn_34 rfl ?_
        refine sm_if_ne C dX10_drawn_35 (tgt := 42) rfl (fun h_12 => ?_) (fun h_12 => ?_)
        · refine sm_iload_n C 0 rfl dX10_drawn_38 rfl ?_
          refine sm_goto C dX10_drawn_39 (tgt := 46) rfl ?_
          exact sm_iret C E rfl dX10_drawn_46
        · refine sm_aload_n C 1 rfl dX10_drawn_42 rfl ?_
          refine sm_getI C fo_10_22 rfl wd353 kd_79 dX10_drawn_43 ?_
          exact sm_iret C E rfl dX10_drawn_46
    · refine sm_bipush C bp_m2 dX10_drawn_24 ?_
      exact sm_iret C E rfl dX10_drawn_26
  · refine sm_bipush C bp_m2 dX10_drawn_24 ?_
    exact sm_iret C E rfl dX10_drawn_26
/-! X10_luck -/
set_option maxRecDepth 100000 in
set_option maxHeartbeats 4000000 in
theorem sX10_luck_36 {G : Gx} {a : Int32 × HW} (C : Cx G cX10_luck RX10 6 7 161) (E : Rx G ρIW a (some .int)) {x1 : Int32} {x2 : Int32} {x3 : Int32} : ∀ (n : Nat) (w : HW) (x4 : Int32) (x5 : Int32), Sm G a 36 [(0, .ref (hB G + 79)), (1, .int x1), (2, .int x2), (3, .int x3), (4, .int x4), (5, .int x5)] [] w (fX10_luck_36 x1 x2 x3 n w x4 x5) := by
  intro n
  induction n with
  | zero => intro _ _ _; exact sm_none
  | succ n ih =>
    intro w x4 x5
    rw [fX10_luck_36]
    refine sm_iload C 5 rfl dX10_luck_36 ?_
    refine sm_iload_n C 2 rfl dX10_luck_38 rfl ?_
    refine sm_icmp_ge C dX10_luck_39 (tgt := 67) rfl (fun h_10 => ?_) (fun h_10 => ?_)
    · refine sm_iload C 4 rfl dX10_luck_42 ?_
      refine sm_aload_n C 0 rfl dX10_luck_44 rfl ?_
      refine sm_iload_n C 1 rfl dX10_luck_45 rfl ?_
      refine sm_i2l C dX10_luck_46 ?_
      refine sm_iload C 5 rfl dX10_luck_47 ?_
      refine sm_i2l C dX10_luck_49 ?_
      refine sm_ladd C dX10_luck_50 ?_
      refine sm_cVIW (As := [.long ((x1.toInt64) + (x5.toInt64))]) C cfX10_goDrawn wd425 kd_79 rfl rfl rfl rfl rfl dX10_luck_51 (fun r h => mX10_goDrawn  h) (fun r_11 w_12 => ?_)
      refine sm_iload_n C 3 rfl dX10_luck_54 rfl ?_
      refine sm_cSI (As := [.int r_11, .int x3]) C cfX10_bit wd337 rfl rfl rfl rfl dX10_luck_55 (fun r h => mX10_bit  h) (fun r_13 => ?_)
      refine sm_iadd C dX10_luck_58 ?_
      refine sm_let (fun x4_15 => ?_)
      refine sm_istore (lv1 := [(4, .int x4_15), (0, .ref (hB G + 79)), (1, .int x1), (2, .int x2), (3, .int x3), (5, .int x5)]) C dX10_luck_59 rfl rfl ?_
      refine sm_iinc (lv1 := [(5, .int (x5 + 1)), (4, .int x4_15), (0, .ref (hB G + 79)), (1, .int x1), (2, .int x2), (3, .int x3)]) C 5 rfl (iv_1 _) dX10_luck_61 rfl rfl ?_
      refine sm_goto C dX10_luck_64 (tgt := 36) rfl ?_
      refine sm_sub [2, 3, 4, 5, 1, 0] rfl ?_
      exact ih w_12 x4_15 (x5 + 1)
    · refine sm_iload C 4 rfl dX10_luck_67 ?_
      exact sm_iret C E rfl dX10_luck_69
set_option maxRecDepth 100000 in
set_option maxHeartbeats 4000000 in
theorem mX10_luck {b : Bx} {w : HW} {x1 : Int32} {x2 : Int32} {x3 : Int32} {a : Int32 × HW} (h : fX10_luck w x1 x2 x3 = some a) : Mt b yX10_luck cX10_luck 6 (some .int) 7 161 [.ref (bB b + 79), .int x1, .int x2, .int x3] w (some (.int a.1)) a.2 := by
  refine Mt.of ρIW h (by decide) (Nat.le_of_ble_eq_true rfl) (fun G hG C E => ?_)
  subst hG
  have C : Cx G cX10_luck RX10 6 7 161 := C
  change Sm G a 0 [(0, .ref (hB G + 79)), (1, .int x1), (2, .int x2), (3, .int x3)] [] w _
  unfold fX10_luck
  refine sm_iload_n C 1 rfl dX10_luck_0 rfl ?_
  refine sm_cSI (As := [.int x1]) C cfX10_isSeed wd424 rfl rfl rfl rfl dX10_luck_1 (fun r h => mX10_isSeed  h) (fun r_1 => ?_)
  refine sm_if_eq C dX10_luck_4 (tgt := 27) rfl (fun h_3 => ?_) (fun h_3 => ?_)
  · refine sm_iload_n C 2 rfl dX10_luck_7 rfl ?_
    refine sm_i2l C dX10_luck_8 ?_
    refine sm_lconst C lc_1 dX10_luck_9 ?_
    refine sm_ldc2 C wd426 dX10_luck_10 ?_
    refine sm_cSI (As := [.long (x2.toInt64), .long 1, .long 20]) C cfX10_in wd295 rfl rfl rfl rfl dX10_luck_13 (fun r h => mX10_in  h) (fun r_4 => ?_)
    refine sm_if_eq C dX10_luck_16 (tgt := 27) rfl (fun h_6 => ?_) (fun h_6 => ?_)
    · refine sm_aload_n C 0 rfl dX10_luck_19 rfl ?_
      refine sm_iload_n C 3 rfl dX10_luck_20 rfl ?_
      refine sm_cVI (As := [.int x3]) C cfX10_isBill wd335 kd_79 rfl rfl rfl rfl rfl dX10_luck_21 (fun r h => mX10_isBill  h) (fun r_7 => ?_)
      refine sm_if_ne C dX10_luck_24 (tgt := 30) rfl (fun h_9 => ?_) (fun h_9 => ?_)
      · refine sm_bipush C bp_m2 dX10_luck_27 ?_
        exact sm_iret C E rfl dX10_luck_29
      · refine sm_iconst C ic_0 dX10_luck_30 ?_
        refine sm_istore (lv1 := [(4, .int 0), (0, .ref (hB G + 79)), (1, .int x1), (2, .int x2), (3, .int x3)]) C dX10_luck_31 rfl rfl ?_
        refine sm_iconst C ic_0 dX10_luck_33 ?_
        refine sm_istore (lv1 := [(5, .int 0), (4, .int 0), (0, .ref (hB G + 79)), (1, .int x1), (2, .int x2), (3, .int x3)]) C dX10_luck_34 rfl rfl ?_
        refine sm_sub [2, 3, 4, 5, 1, 0] rfl ?_
        exact sX10_luck_36 C E FU w 0 0
    · refine sm_bipush C bp_m2 dX10_luck_27 ?_
      exact sm_iret C E rfl dX10_luck_29
  · refine sm_bipush C bp_m2 dX10_luck_27 ?_
    exact sm_iret C E rfl dX10_luck_29
/-! X10_rate -/
set_option maxRecDepth 100000 in
set_option maxHeartbeats 4000000 in
theorem mX10_rate {b : Bx} {w : HW} {x1 : Int32} {x2 : Int32} {a : Int32 × HW} (h : fX10_rate w x1 x2 = some a) : Mt b yX10_rate cX10_rate 4 (some .int) 2 46 [.ref (bB b + 79), .int x1, .int x2] w (some (.int a.1)) a.2 := by
  refine Mt.of ρIW h (by decide) (Nat.le_of_ble_eq_true rfl) (fun G hG C E => ?_)
  subst hG
  have C : Cx G cX10_rate RX10 4 2 46 := C
  change Sm G a 0 [(0, .ref (hB G + 79)), (1, .int x1), (2, .int x2)] [] w _
  unfold fX10_rate
  refine sm_aload_n C 0 rfl dX10_rate_0 rfl ?_
  refine sm_iload_n C 1 rfl dX10_rate_1 rfl ?_
  refine sm_cVI (As := [.int x1]) C cfX10_isBill wd335 kd_79 rfl rfl rfl rfl rfl dX10_rate_2 (fun r h => mX10_isBill  h) (fun r_1 => ?_)
  refine sm_if_eq C dX10_rate_5 (tgt := 20) rfl (fun h_3 => ?_) (fun h_3 => ?_)
  · refine sm_iload_n C 2 rfl dX10_rate_8 rfl ?_
    refine sm_i2l C dX10_rate_9 ?_
    refine sm_lconst C lc_0 dX10_rate_10 ?_
    refine sm_ldc2 C wd419 dX10_rate_11 ?_
    refine sm_cSI (As := [.long (x2.toInt64), .long 0, .long 99]) C cfX10_in wd295 rfl rfl rfl rfl dX10_rate_14 (fun r h => mX10_in  h) (fun r_4 => ?_)
    refine sm_if_ne C dX10_rate_17 (tgt := 23) rfl (fun h_6 => ?_) (fun h_6 => ?_)
    · refine sm_bipush C bp_m2 dX10_rate_20 ?_
      exact sm_iret C E rfl dX10_rate_22
    · refine sm_aload_n C 0 rfl dX10_rate_23 rfl ?_
      refine sm_getR C fo_10_1 rfl wd297 kd_79 dX10_rate_24 (rv_79_1 w) (by decide) ?_
      refine sm_bipush C bp_6 dX10_rate_27 ?_
      refine sm_iald C kd_80 dX10_rate_29 (fun h_7 => ?_)
      refine sm_if_le C dX10_rate_30 (tgt := 36) rfl (fun h_8 => ?_) (fun h_8 => ?_)
      · refine sm_bipush C bp_m5 dX10_rate_33 ?_
        exact sm_iret C E rfl dX10_rate_35
      · refine sm_aload_n C 0 rfl dX10_rate_36 rfl ?_
        refine sm_iload_n C 1 rfl dX10_rate_37 rfl ?_
        refine sm_iconst C ic_1 dX10_rate_38 ?_
        refine sm_cVI (As := [.int x1, .int 1]) C cfX10_of wd336 kd_79 rfl rfl rfl rfl rfl dX10_rate_39 (fun r h => mX10_of  h) (fun r_9 => ?_)
        refine sm_istore_n (lv1 := [(3, .int r_9), (0, .ref (hB G + 79)), (1, .int x1), (2, .int x2)]) C dX10_rate_42 rfl rfl rfl ?_
        refine sm_aload_n C 1 rfl dX10_rate_43 rfl ?_
        refine sm_getR C fo_10_1 rfl wd297 kd_79 dX10_rate_44 (rv_79_1 w) (by decide) ?_
        refine sm_bipush C bp_33 dX10_rate_47 ?_
        refine sm_iconst C ic_3 dX10_rate_49 ?_
        refine sm_iload_n C 2 rfl dX10_rate_50 rfl ?_
        refine sm_imul C dX10_rate_51 ?_
        refine sm_iadd C dX10_rate_52 ?_
        refine sm_iconst C ic_1 dX10_rate_53 ?_
        refine sm_iadd C dX10_rate_54 ?_
        refine sm_iload_n C 3 rfl dX10_rate_55 rfl ?_
        refine sm_iast C kd_80 dX10_rate_56 (fun h_11 w_12 => ?_)
        refine sm_iload_n C 0 rfl dX10_rate_57 rfl ?_
        exact sm_iret C E rfl dX10_rate_58
  · refine sm_bipush C bp_m2 dX10_rate_20 ?_
    exact sm_iret C E rfl dX10_rate_22
/-! X10_count -/
set_option maxRecDepth 100000 in
set_option maxHeartbeats 4000000 in
theorem sX10_count_42 {G : Gx} {a : Int32} {w : HW} (C : Cx G cX10_count RX10 4 1 25) (E : Rx G (ρI w) a (some .int)) : ∀ (n : Nat) (x2 : Int32) (x3 : Int32), Sm G a 42 [(0, .ref (hB G + 79)), (2, .int x2), (3, .int x3)] [] w (fX10_count_42 w n x2 x3) := by
  intro n
  induction n with
  | zero => intro _ _; exact sm_none
  | succ n ih =>
    intro x2 x3
    rw [fX10_count_42]
    refine sm_iload_n C 2 rfl dX10_count_42 rfl ?_
    refine sm_iconst C ic_4 dX10_count_43 ?_
    refine sm_icmp_ge C dX10_count_44 (tgt := 71) rfl (fun h_7 => ?_) (fun h_7 => ?_)
    · refine sm_iload_n C 1 rfl dX10_count_47 rfl ?_
      refine sm_aload_n C 0 rfl dX10_count_48 rfl ?_
      refine sm_getR C fo_10_38 rfl wd402 kd_79 dX10_count_49 (rv_79_38 w) (by decide) ?_
      refine sm_iload_n C 2 rfl dX10_count_52 rfl ?_
      refine sm_iald C kd_98 dX10_count_53 (fun h_8 => ?_)
      refine sm_iconst C ic_m1 dX10_count_54 ?_
      refine sm_icmp_ne C dX10_count_55 (tgt := 62) rfl (fun h_9 => ?_) (fun h_9 => ?_)
      · refine sm_iconst C ic_0 dX10_count_58 ?_
        refine sm_goto C dX10_count_59 (tgt := 63) rfl ?_
        refine sm_iadd C dX10_count_63 ?_
        refine sm_let (fun x2_10 => ?_)
        refine sm_istore_n (lv1 := [(2, .int x2_10), (0, .ref (hB G + 79)), (3, .int x3)]) C dX10_count_64 rfl rfl rfl ?_
        refine sm_iinc (lv1 := [(3, .int (x3 + 1)), (2, .int x2_10), (0, .ref (hB G + 79))]) C 2 rfl (iv_1 _) dX10_count_65 rfl rfl ?_
        refine sm_goto C dX10_count_68 (tgt := 42) rfl ?_
        refine sm_sub [2, 1, 0] rfl ?_
        exact ih x2_10 (x3 + 1)
      · refine sm_iconst C ic_1 dX10_count_62 ?_
        refine sm_iadd C dX10_count_63 ?_
        refine sm_let (fun x2_11 => ?_)
        refine sm_istore_n (lv1 := [(2, .int x2_11), (0, .ref (hB G + 79)), (3, .int x3)]) C dX10_count_64 rfl rfl rfl ?_
        refine sm_iinc (lv1 := [(3, .int (x3 + 1)), (2, .int x2_11), (0, .ref (hB G + 79))]) C 2 rfl (iv_1 _) dX10_count_65 rfl rfl ?_
        refine sm_goto C dX10_count_68 (tgt := 42) rfl ?_
        refine sm_sub [2, 1, 0] rfl ?_
        exact ih x2_11 (x3 + 1)
    · refine sm_iload_n C 1 rfl dX10_count_71 rfl ?_
      exact sm_iret C E rfl dX10_count_72
set_option maxRecDepth 100000 in
set_option maxHeartbeats 4000000 in
theorem mX10_count {b : Bx} {w : HW} {x1 : Int32} {a : Int32} (h : fX10_count w x1 = some a) : Mt b yX10_count cX10_count 4 (some .int) 1 25 [.ref (bB b + 79), .int x1] w (some (.int a)) w := by
  refine Mt.of (ρI w) h (by decide) (Nat.le_of_ble_eq_true rfl) (fun G hG C E => ?_)
  subst hG
  have C : Cx G cX10_count RX10 4 1 25 := C
  change Sm G a 0 [(0, .ref (hB G + 79)), (1, .int x1)] [] w _
  unfold fX10_count
  refine sm_iload_n C 1 rfl dX10_count_0 rfl ?_
  refine sm_i2l C dX10_count_1 ?_
  refine sm_lconst C lc_0 dX10_count_2 ?_
  refine sm_ldc2 C wd427 dX10_count_3 ?_
  refine sm_cSI (As := [.long (x1.toInt64), .long 0, .long 7]) C cfX10_in wd295 rfl rfl rfl rfl dX10_count_6 (fun r h => mX10_in  h) (fun r_1 => ?_)
  refine sm_if_eq C dX10_count_9 (tgt := 19) rfl (fun h_3 => ?_) (fun h_3 => ?_)
  · refine sm_aload_n C 0 rfl dX10_count_12 rfl ?_
    refine sm_getR C fo_10_1 rfl wd297 kd_79 dX10_count_13 (rv_79_1 w) (by decide) ?_
    refine sm_iload_n C 1 rfl dX10_count_16 rfl ?_
    refine sm_iald C kd_80 dX10_count_17 (fun h_4 => ?_)
    exact sm_iret C E rfl dX10_count_18
  · refine sm_iload_n C 1 rfl dX10_count_19 rfl ?_
    refine sm_bipush C bp_8 dX10_count_20 ?_
    refine sm_icmp_ne C dX10_count_22 (tgt := 30) rfl (fun h_5 => ?_) (fun h_5 => ?_)
    · refine sm_aload_n C 0 rfl dX10_count_25 rfl ?_
      refine sm_getI C fo_10_5 rfl wd300 kd_79 dX10_count_26 ?_
      exact sm_iret C E rfl dX10_count_29
    · refine sm_iload_n C 1 rfl dX10_count_30 rfl ?_
      refine sm_bipush C bp_9 dX10_count_31 ?_
      refine sm_icmp_eq C dX10_count_33 (tgt := 38) rfl (fun h_6 => ?_) (fun h_6 => ?_)
      · refine sm_iconst C ic_m1 dX10_count_36 ?_
        exact sm_iret C E rfl dX10_count_37
      · refine sm_iconst C ic_0 dX10_count_38 ?_
        refine sm_istore_n (lv1 := [(2, .int 0), (0, .ref (hB G + 79)), (1, .int x1)]) C dX10_count_39 rfl rfl rfl ?_
        refine sm_iconst C ic_0 dX10_count_40 ?_
        refine sm_istore_n (lv1 := [(3, .int 0), (2, .int 0), (0, .ref (hB G + 79)), (1, .int x1)]) C dX10_count_41 rfl rfl rfl ?_
        refine sm_sub [2, 1, 0] rfl ?_
        exact sX10_count_42 C E FU 0 0
/-! X10_cut -/
set_option maxRecDepth 100000 in
set_option maxHeartbeats 4000000 in
theorem mX10_cut {b : Bx} {w : HW} {x0 : Int64} {x2 : Int32} {a : Int64} (h : fX10_cut w x0 x2 = some a) : Mt b yX10_cut cX10_cut 4 (some .long) 0 0 [.long x0, .int x2] w (some (.long a)) w := by
  refine Mt.of (ρL w) h (by decide) (Nat.le_of_ble_eq_true rfl) (fun G hG C E => ?_)
  subst hG
  have C : Cx G cX10_cut RX10 4 0 0 := C
  change Sm G a 0 [(0, .long x0), (2, .int x2)] [] w _
  unfold fX10_cut
  refine sm_bipush C bp_64 dX10_cut_0 ?_
  refine sm_bipush C bp_8 dX10_cut_2 ?_
  refine sm_iload_n C 1 rfl dX10_cut_4 rfl ?_
  refine sm_ishl C dX10_cut_5 ?_
  refine sm_isub C dX10_cut_6 ?_
  refine sm_let (fun x3_1 => ?_)
  refine sm_istore_n (lv1 := [(3, .int x3_1), (0, .long x0), (2, .int x2)]) C dX10_cut_7 rfl rfl rfl ?_
  refine sm_lload_n C 1 rfl dX10_cut_8 rfl ?_
  refine sm_iload_n C 0 rfl dX10_cut_9 rfl ?_
  refine sm_lshl C dX10_cut_10 ?_
  refine sm_iload_n C 0 rfl dX10_cut_11 rfl ?_
  refine sm_lshr C dX10_cut_12 ?_
  exact sm_lret C E rfl dX10_cut_13
/-! X10_row -/
set_option maxRecDepth 100000 in
set_option maxHeartbeats 4000000 in
theorem sX10_row_52 {G : Gx} {a : Int32 × HW} (C : Cx G cX10_row RX10 5 2 45) (E : Rx G ρIW a (some .int)) {x1 : Int32} : ∀ (n : Nat) (w : HW) (x4 : Int32), Sm G a 52 [(0, .ref (hB G + 79)), (1, .int x1), (4, .int x4)] [] w (fX10_row_52 x1 n w x4) := by
  intro n
  induction n with
  | zero => intro _ _; exact sm_none
  | succ n ih =>
    intro w x4
    rw [fX10_row_52]
    refine sm_iload C 2 rfl dX10_row_52 ?_
    refine sm_bipush C bp_60 dX10_row_54 ?_
    refine sm_icmp_ge C dX10_row_56 (tgt := 78) rfl (fun h_13 => ?_) (fun h_13 => ?_)
    · refine sm_aload_n C 0 rfl dX10_row_59 rfl ?_
      refine sm_getR C fo_10_40 rfl wd399 kd_79 dX10_row_60 (rv_79_40 w) (by decide) ?_
      refine sm_bipush C bp_60 dX10_row_63 ?_
      refine sm_iload_n C 1 rfl dX10_row_65 rfl ?_
      refine sm_imul C dX10_row_66 ?_
      refine sm_iload C 2 rfl dX10_row_67 ?_
      refine sm_iadd C dX10_row_69 ?_
      refine sm_lconst C lc_0 dX10_row_70 ?_
      refine sm_last C kd_100 dX10_row_71 (fun h_14 w_15 => ?_)
      refine sm_iinc (lv1 := [(4, .int (x4 + 1)), (0, .ref (hB G + 79)), (1, .int x1)]) C 2 rfl (iv_1 _) dX10_row_72 rfl rfl ?_
      refine sm_goto C dX10_row_75 (tgt := 52) rfl ?_
      refine sm_sub [1, 2, 0] rfl ?_
      exact ih w_15 (x4 + 1)
    · refine sm_iconst C ic_0 dX10_row_78 ?_
      exact sm_iret C E rfl dX10_row_79
set_option maxRecDepth 100000 in
set_option maxHeartbeats 4000000 in
theorem mX10_row {b : Bx} {w : HW} {x1 : Int32} {x2 : Int32} {x3 : Int32} {a : Int32 × HW} (h : fX10_row w x1 x2 x3 = some a) : Mt b yX10_row cX10_row 5 (some .int) 2 45 [.ref (bB b + 79), .int x1, .int x2, .int x3] w (some (.int a.1)) a.2 := by
  refine Mt.of ρIW h (by decide) (Nat.le_of_ble_eq_true rfl) (fun G hG C E => ?_)
  subst hG
  have C : Cx G cX10_row RX10 5 2 45 := C
  change Sm G a 0 [(0, .ref (hB G + 79)), (1, .int x1), (2, .int x2), (3, .int x3)] [] w _
  unfold fX10_row
  refine sm_iload_n C 1 rfl dX10_row_0 rfl ?_
  refine sm_cSI (As := [.int x1]) C cfX10_isSlot wd401 rfl rfl rfl rfl dX10_row_1 (fun r h => mX10_isSlot  h) (fun r_1 => ?_)
  refine sm_if_eq C dX10_row_4 (tgt := 25) rfl (fun h_3 => ?_) (fun h_3 => ?_)
  · refine sm_iload_n C 2 rfl dX10_row_7 rfl ?_
    refine sm_i2l C dX10_row_8 ?_
    refine sm_lconst C lc_0 dX10_row_9 ?_
    refine sm_ldc2 C wd400 dX10_row_10 ?_
    refine sm_cSI (As := [.long (x2.toInt64), .long 0, .long 3]) C cfX10_in wd295 rfl rfl rfl rfl dX10_row_13 (fun r h => mX10_in  h) (fun r_4 => ?_)
    refine sm_if_eq C dX10_row_16 (tgt := 25) rfl (fun h_6 => ?_) (fun h_6 => ?_)
    · refine sm_iload_n C 3 rfl dX10_row_19 rfl ?_
      refine sm_bipush C bp_60 dX10_row_20 ?_
      refine sm_icmp_le C dX10_row_22 (tgt := 28) rfl (fun h_7 => ?_) (fun h_7 => ?_)
      · refine sm_bipush C bp_m2 dX10_row_25 ?_
        exact sm_iret C E rfl dX10_row_27
      · refine sm_iload_n C 3 rfl dX10_row_28 rfl ?_
        refine sm_if_ge C dX10_row_29 (tgt := 35) rfl (fun h_8 => ?_) (fun h_8 => ?_)
        · refine sm_bipush C bp_m3 dX10_row_32 ?_
          exact sm_iret C E rfl dX10_row_34
        · refine sm_aload_n C 0 rfl dX10_row_35 rfl ?_
          refine sm_getR C fo_10_38 rfl wd402 kd_79 dX10_row_36 (rv_79_38 w) (by decide) ?_
          refine sm_iload_n C 1 rfl dX10_row_39 rfl ?_
          refine sm_iload_n C 3 rfl dX10_row_40 rfl ?_
          refine sm_iast C kd_98 dX10_row_41 (fun h_9 w_10 => ?_)
          refine sm_aload_n C 0 rfl dX10_row_42 rfl ?_
          refine sm_getR C fo_10_39 rfl wd428 kd_79 dX10_row_43 (rv_79_39 w_10) (by decide) ?_
          refine sm_iload_n C 1 rfl dX10_row_46 rfl ?_
          refine sm_iload_n C 2 rfl dX10_row_47 rfl ?_
          refine sm_iast C kd_99 dX10_row_48 (fun h_11 w_12 => ?_)
          refine sm_iconst C ic_0 dX10_row_49 ?_
          refine sm_istore (lv1 := [(4, .int 0), (0, .ref (hB G + 79)), (1, .int x1), (2, .int x2), (3, .int x3)]) C dX10_row_50 rfl rfl ?_
          refine sm_sub [1, 2, 0] rfl ?_
          exact sX10_row_52 C E FU w_12 0
    · refine sm_bipush C bp_m2 dX10_row_25 ?_
      exact sm_iret C E rfl dX10_row_27
  · refine sm_bipush C bp_m2 dX10_row_25 ?_
    exact sm_iret C E rfl dX10_row_27
/-! X10_write -/
set_option maxRecDepth 100000 in
set_option maxHeartbeats 4000000 in
theorem mX10_write {b : Bx} {w : HW} {x1 : Int32} {x2 : Int32} {x3 : Int64} {a : Int32 × HW} (h : fX10_write w x1 x2 x3 = some a) : Mt b yX10_write cX10_write 5 (some .int) 2 45 [.ref (bB b + 79), .int x1, .int x2, .long x3] w (some (.int a.1)) a.2 := by
  refine Mt.of ρIW h (by decide) (Nat.le_of_ble_eq_true rfl) (fun G hG C E => ?_)
  subst hG
  have C : Cx G cX10_write RX10 5 2 45 := C
  change Sm G a 0 [(0, .ref (hB G + 79)), (1, .int x1), (2, .int x2), (3, .long x3)] [] w _
  unfold fX10_write
  refine sm_iload_n C 1 rfl dX10_write_0 rfl ?_
  refine sm_cSI (As := [.int x1]) C cfX10_isSlot wd401 rfl rfl rfl rfl dX10_write_1 (fun r h => mX10_isSlot  h) (fun r_1 => ?_)
  refine sm_if_ne C dX10_write_4 (tgt := 10) rfl (fun h_3 => ?_) (fun h_3 => ?_)
  · refine sm_bipush C bp_m2 dX10_write_7 ?_
    exact sm_iret C E rfl dX10_write_9
  · refine sm_aload_n C 0 rfl dX10_write_10 rfl ?_
    refine sm_getR C fo_10_38 rfl wd402 kd_79 dX10_write_11 (rv_79_38 w) (by decide) ?_
    refine sm_iload_n C 1 rfl dX10_write_14 rfl ?_
    refine sm_iald C kd_98 dX10_write_15 (fun h_4 => ?_)
    refine sm_iconst C ic_m1 dX10_write_16 ?_
    refine sm_icmp_ne C dX10_write_17 (tgt := 23) rfl (fun h_5 => ?_) (fun h_5 => ?_)
    · refine sm_bipush C bp_m6 dX10_write_20 ?_
      exact sm_iret C E rfl dX10_write_22
    · refine sm_iload_n C 2 rfl dX10_write_23 rfl ?_
      refine sm_i2l C dX10_write_24 ?_
      refine sm_lconst C lc_0 dX10_write_25 ?_
      refine sm_aload_n C 0 rfl dX10_write_26 rfl ?_
      refine sm_getR C fo_10_38 rfl wd402 kd_79 dX10_write_27 (rv_79_38 w) (by decide) ?_
      refine sm_iload_n C 1 rfl dX10_write_30 rfl ?_
      refine sm_iald C kd_98 dX10_write_31 (fun h_6 => ?_)
      refine sm_iconst C ic_1 dX10_write_32 ?_
      refine sm_isub C dX10_write_33 ?_
      refine sm_i2l C dX10_write_34 ?_
      refine sm_cSI (As := [.long (x2.toInt64), .long 0, .long (((gI w 98 (ix x1)) - 1).toInt64)]) C cfX10_in wd295 rfl rfl rfl rfl dX10_write_35 (fun r h => mX10_in  h) (fun r_7 => ?_)
      refine sm_if_ne C dX10_write_38 (tgt := 44) rfl (fun h_9 => ?_) (fun h_9 => ?_)
      · refine sm_bipush C bp_m7 dX10_write_41 ?_
        exact sm_iret C E rfl dX10_write_43
      · refine sm_aload_n C 0 rfl dX10_write_44 rfl ?_
        refine sm_getR C fo_10_40 rfl wd399 kd_79 dX10_write_45 (rv_79_40 w) (by decide) ?_
        refine sm_bipush C bp_60 dX10_write_48 ?_
        refine sm_iload_n C 1 rfl dX10_write_50 rfl ?_
        refine sm_imul C dX10_write_51 ?_
        refine sm_iload_n C 2 rfl dX10_write_52 rfl ?_
        refine sm_iadd C dX10_write_53 ?_
        refine sm_lload_n C 3 rfl dX10_write_54 rfl ?_
        refine sm_aload_n C 0 rfl dX10_write_55 rfl ?_
        refine sm_getR C fo_10_39 rfl wd428 kd_79 dX10_write_56 (rv_79_39 w) (by decide) ?_
        refine sm_iload_n C 1 rfl dX10_write_59 rfl ?_
        refine sm_iald C kd_99 dX10_write_60 (fun h_10 => ?_)
        refine sm_cSL (As := [.long x3, .int (gI w 99 (ix x1))]) C cfX10_cut wd429 rfl rfl rfl rfl dX10_write_61 (fun r h => mX10_cut  h) (fun r_11 => ?_)
        refine sm_last C kd_100 dX10_write_64 (fun h_13 w_14 => ?_)
        refine sm_iconst C ic_0 dX10_write_65 ?_
        exact sm_iret C E rfl dX10_write_66
/-! X10_paste -/
set_option maxRecDepth 100000 in
set_option maxHeartbeats 4000000 in
theorem sX10_paste_150 {G : Gx} {a : Int32 × HW} (C : Cx G cX10_paste RX10 7 2 45) (E : Rx G ρIW a (some .int)) {x3 : Int32} {x4 : Int32} {x5 : Int32} : ∀ (n : Nat) (w : HW) (x6 : Int32), Sm G a 150 [(0, .ref (hB G + 79)), (3, .int x3), (4, .int x4), (5, .int x5), (6, .int x6)] [] w (fX10_paste_150 x3 x4 x5 n w x6) := by
  intro n
  induction n with
  | zero => intro _ _; exact sm_none
  | succ n ih =>
    intro w x6
    rw [fX10_paste_150]
    refine sm_iload C 4 rfl dX10_paste_150 ?_
    refine sm_iload C 3 rfl dX10_paste_152 ?_
    refine sm_icmp_ge C dX10_paste_154 (tgt := 185) rfl (fun h_25 => ?_) (fun h_25 => ?_)
    · refine sm_aload_n C 0 rfl dX10_paste_157 rfl ?_
      refine sm_getR C fo_10_40 rfl wd399 kd_79 dX10_paste_158 (rv_79_40 w) (by decide) ?_
      refine sm_bipush C bp_60 dX10_paste_161 ?_
      refine sm_iload_n C 1 rfl dX10_paste_163 rfl ?_
      refine sm_imul C dX10_paste_164 ?_
      refine sm_iload C 2 rfl dX10_paste_165 ?_
      refine sm_iadd C dX10_paste_167 ?_
      refine sm_iload C 4 rfl dX10_paste_168 ?_
      refine sm_iadd C dX10_paste_170 ?_
      refine sm_aload_n C 0 rfl dX10_paste_171 rfl ?_
      refine sm_getR C fo_10_41 rfl wd430 kd_79 dX10_paste_172 (rv_79_41 w) (by decide) ?_
      refine sm_iload C 4 rfl dX10_paste_175 ?_
      refine sm_lald C kd_101 dX10_paste_177 (fun h_26 => ?_)
      refine sm_last C kd_100 dX10_paste_178 (fun h_27 w_28 => ?_)
      refine sm_iinc (lv1 := [(6, .int (x6 + 1)), (0, .ref (hB G + 79)), (3, .int x3), (4, .int x4), (5, .int x5)]) C 4 rfl (iv_1 _) dX10_paste_179 rfl rfl ?_
      refine sm_goto C dX10_paste_182 (tgt := 150) rfl ?_
      refine sm_sub [1, 2, 3, 4, 0] rfl ?_
      exact ih w_28 (x6 + 1)
    · refine sm_iconst C ic_0 dX10_paste_185 ?_
      exact sm_iret C E rfl dX10_paste_186
set_option maxRecDepth 100000 in
set_option maxHeartbeats 4000000 in
theorem sX10_paste_113 {G : Gx} {a : Int32 × HW} (C : Cx G cX10_paste RX10 7 2 45) (E : Rx G ρIW a (some .int)) {x1 : Int32} {x2 : Int32} {x3 : Int32} {x4 : Int32} {x5 : Int32} : ∀ (n : Nat) (w : HW) (x6 : Int32), Sm G a 113 [(0, .ref (hB G + 79)), (1, .int x1), (2, .int x2), (3, .int x3), (4, .int x4), (5, .int x5), (6, .int x6)] [] w (fX10_paste_113 x1 x2 x3 x4 x5 n w x6) := by
  intro n
  induction n with
  | zero => intro _ _; exact sm_none
  | succ n ih =>
    intro w x6
    rw [fX10_paste_113]
    refine sm_iload C 6 rfl dX10_paste_113 ?_
    refine sm_iload C 5 rfl dX10_paste_115 ?_
    refine sm_icmp_ge C dX10_paste_117 (tgt := 147) rfl (fun h_21 => ?_) (fun h_21 => ?_)
    · refine sm_aload_n C 0 rfl dX10_paste_120 rfl ?_
      refine sm_getR C fo_10_41 rfl wd430 kd_79 dX10_paste_121 (rv_79_41 w) (by decide) ?_
      refine sm_iload C 6 rfl dX10_paste_124 ?_
      refine sm_aload_n C 0 rfl dX10_paste_126 rfl ?_
      refine sm_getR C fo_10_40 rfl wd399 kd_79 dX10_paste_127 (rv_79_40 w) (by decide) ?_
      refine sm_bipush C bp_60 dX10_paste_130 ?_
      refine sm_iload_n C 1 rfl dX10_paste_132 rfl ?_
      refine sm_imul C dX10_paste_133 ?_
      refine sm_iload_n C 2 rfl dX10_paste_134 rfl ?_
      refine sm_iadd C dX10_paste_135 ?_
      refine sm_iload C 6 rfl dX10_paste_136 ?_
      refine sm_iadd C dX10_paste_138 ?_
      refine sm_lald C kd_100 dX10_paste_139 (fun h_22 => ?_)
      refine sm_last C kd_101 dX10_paste_140 (fun h_23 w_24 => ?_)
      refine sm_iinc (lv1 := [(6, .int (x6 + 1)), (0, .ref (hB G + 79)), (1, .int x1), (2, .int x2), (3, .int x3), (4, .int x4), (5, .int x5)]) C 6 rfl (iv_1 _) dX10_paste_141 rfl rfl ?_
      refine sm_goto C dX10_paste_144 (tgt := 113) rfl ?_
      refine sm_sub [1, 2, 3, 4, 5, 6, 0] rfl ?_
      exact ih w_24 (x6 + 1)
    · refine sm_iconst C ic_0 dX10_paste_147 ?_
      refine sm_istore (lv1 := [(6, .int 0), (0, .ref (hB G + 79)), (1, .int x1), (2, .int x2), (3, .int x3), (4, .int x4), (5, .int x5)]) C dX10_paste_148 rfl rfl ?_
      refine sm_sub [1, 4, 5, 6, 0] rfl ?_
      exact sX10_paste_150 C E FU w 0
set_option maxRecDepth 100000 in
set_option maxHeartbeats 4000000 in
theorem mX10_paste {b : Bx} {w : HW} {x1 : Int32} {x2 : Int32} {x3 : Int32} {x4 : Int32} {x5 : Int32} {a : Int32 × HW} (h : fX10_paste w x1 x2 x3 x4 x5 = some a) : Mt b yX10_paste cX10_paste 7 (some .int) 2 45 [.ref (bB b + 79), .int x1, .int x2, .int x3, .int x4, .int x5] w (some (.int a.1)) a.2 := by
  refine Mt.of ρIW h (by decide) (Nat.le_of_ble_eq_true rfl) (fun G hG C E => ?_)
  subst hG
  have C : Cx G cX10_paste RX10 7 2 45 := C
  change Sm G a 0 [(0, .ref (hB G + 79)), (1, .int x1), (2, .int x2), (3, .int x3), (4, .int x4), (5, .int x5)] [] w _
  unfold fX10_paste
  refine sm_iload_n C 1 rfl dX10_paste_0 rfl ?_
  refine sm_cSI (As := [.int x1]) C cfX10_isSlot wd401 rfl rfl rfl rfl dX10_paste_1 (fun r h => mX10_isSlot  h) (fun r_1 => ?_)
  refine sm_if_eq C dX10_paste_4 (tgt := 14) rfl (fun h_3 => ?_) (fun h_3 => ?_)
  · refine sm_iload_n C 3 rfl dX10_paste_7 rfl ?_
    refine sm_cSI (As := [.int x3]) C cfX10_isSlot wd401 rfl rfl rfl rfl dX10_paste_8 (fun r h => mX10_isSlot  h) (fun r_4 => ?_)
    refine sm_if_ne C dX10_paste_11 (tgt := 17) rfl (fun h_6 => ?_) (fun h_6 => ?_)
    · refine sm_bipush C bp_m2 dX10_paste_14 ?_
      exact sm_iret C E rfl dX10_paste_16
    · refine sm_aload_n C 0 rfl dX10_paste_17 rfl ?_
      refine sm_getR C fo_10_38 rfl wd402 kd_79 dX10_paste_18 (rv_79_38 w) (by decide) ?_
      refine sm_iload_n C 1 rfl dX10_paste_21 rfl ?_
      refine sm_iald C kd_98 dX10_paste_22 (fun h_7 => ?_)
      refine sm_iconst C ic_m1 dX10_paste_23 ?_
      refine sm_icmp_eq C dX10_paste_24 (tgt := 37) rfl (fun h_8 => ?_) (fun h_8 => ?_)
      · refine sm_aload_n C 0 rfl dX10_paste_27 rfl ?_
        refine sm_getR C fo_10_38 rfl wd402 kd_79 dX10_paste_28 (rv_79_38 w) (by decide) ?_
        refine sm_iload_n C 3 rfl dX10_paste_31 rfl ?_
        refine sm_iald C kd_98 dX10_paste_32 (fun h_9 => ?_)
        refine sm_iconst C ic_m1 dX10_paste_33 ?_
        refine sm_icmp_ne C dX10_paste_34 (tgt := 40) rfl (fun h_10 => ?_) (fun h_10 => ?_)
        · refine sm_bipush C bp_m6 dX10_paste_37 ?_
          exact sm_iret C E rfl dX10_paste_39
        · refine sm_aload_n C 0 rfl dX10_paste_40 rfl ?_
          refine sm_getR C fo_10_39 rfl wd428 kd_79 dX10_paste_41 (rv_79_39 w) (by decide) ?_
          refine sm_iload_n C 1 rfl dX10_paste_44 rfl ?_
          refine sm_iald C kd_99 dX10_paste_45 (fun h_11 => ?_)
          refine sm_aload_n C 0 rfl dX10_paste_46 rfl ?_
          refine sm_getR C fo_10_39 rfl wd428 kd_79 dX10_paste_47 (rv_79_39 w) (by decide) ?_
          refine sm_iload_n C 3 rfl dX10_paste_50 rfl ?_
          refine sm_iald C kd_99 dX10_paste_51 (fun h_12 => ?_)
          refine sm_icmp_eq C dX10_paste_52 (tgt := 58) rfl (fun h_13 => ?_) (fun h_13 => ?_)
          · refine sm_bipush C bp_m8 dX10_paste_55 ?_
            exact sm_iret C E rfl dX10_paste_57
          · refine sm_iload_n C 2 rfl dX10_paste_58 rfl ?_
            refine sm_if_lt C dX10_paste_59 (tgt := 107) rfl (fun h_14 => ?_) (fun h_14 => ?_)
            · refine sm_iload C 4 rfl dX10_paste_62 ?_
              refine sm_if_lt C dX10_paste_64 (tgt := 107) rfl (fun h_15 => ?_) (fun h_15 => ?_)
              · refine sm_iload C 5 rfl dX10_paste_67 ?_
                refine sm_if_lt C dX10_paste_69 (tgt := 107) rfl (fun h_16 => ?_) (fun h_16 => ?_)
                · refine sm_iload_n C 2 rfl dX10_paste_72 rfl ?_
                  refine sm_i2l C dX10_paste_73 ?_
                  refine sm_iload C 5 rfl dX10_paste_74 ?_
                  refine sm_i2l C dX10_paste_76 ?_
                  refine sm_ladd C dX10_paste_77 ?_
                  refine sm_aload_n C 0 rfl dX10_paste_78 rfl ?_
                  refine sm_getR C fo_10_38 rfl wd402 kd_79 dX10_paste_79 (rv_79_38 w) (by decide) ?_
                  refine sm_iload_n C 1 rfl dX10_paste_82 rfl ?_
                  refine sm_iald C kd_98 dX10_paste_83 (fun h_17 => ?_)
                  refine sm_i2l C dX10_paste_84 ?_
                  refine sm_lcmp C dX10_paste_85 ?_
                  refine sm_if_gt C dX10_paste_86 (tgt := 107) rfl (fun h_18 => ?_) (fun h_18 => ?_)
                  · refine sm_iload C 4 rfl dX10_paste_89 ?_
                    refine sm_i2l C dX10_paste_91 ?_
                    refine sm_iload C 5 rfl dX10_paste_92 ?_
                    refine sm_i2l C dX10_paste_94 ?_
                    refine sm_ladd C dX10_paste_95 ?_
                    refine sm_aload_n C 0 rfl dX10_paste_96 rfl ?_
                    refine sm_getR C fo_10_38 rfl wd402 kd_79 dX10_paste_97 (rv_79_38 w) (by decide) ?_
                    refine sm_iload_n C 3 rfl dX10_paste_100 rfl ?_
                    refine sm_iald C kd_98 dX10_paste_101 (fun h_19 => ?_)
                    refine sm_i2l C dX10_paste_102 ?_
                    refine sm_lcmp C dX10_paste_103 ?_
                    refine sm_if_le C dX10_paste_104 (tgt := 110) rfl (fun h_20 => ?_) (fun h_20 => ?_)
                    · refine sm_bipush C bp_m7 dX10_paste_107 ?_
                      exact sm_iret C E rfl dX10_paste_109
                    · refine sm_iconst C ic_0 dX10_paste_110 ?_
                      refine sm_istore (lv1 := [(6, .int 0), (0, .ref (hB G + 79)), (1, .int x1), (2, .int x2), (3, .int x3), (4, .int x4), (5, .int x5)]) C dX10_paste_111 rfl rfl ?_
                      refine sm_sub [1, 2, 3, 4, 5, 6, 0] rfl ?_
                      exact sX10_paste_113 C E FU w 0
                  · refine sm_bipush C bp_m7 dX10_paste_107 ?_
                    exact sm_iret C E rfl dX10_paste_109
                · refine sm_bipush C bp_m7 dX10_paste_107 ?_
                  exact sm_iret C E rfl dX10_paste_109
              · refine sm_bipush C bp_m7 dX10_paste_107 ?_
                exact sm_iret C E rfl dX10_paste_109
            · refine sm_bipush C bp_m7 dX10_paste_107 ?_
              exact sm_iret C E rfl dX10_paste_109
      · refine sm_bipush C bp_m6 dX10_paste_37 ?_
        exact sm_iret C E rfl dX10_paste_39
  · refine sm_bipush C bp_m2 dX10_paste_14 ?_
    exact sm_iret C E rfl dX10_paste_16
