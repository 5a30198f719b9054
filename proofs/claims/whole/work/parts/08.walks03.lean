/-! X10_layState -/
set_option maxRecDepth 100000 in
set_option maxHeartbeats 4000000 in
theorem sX10_layState_221 {G : Gx} {a : HW} (C : Cx G cX10_layState RX10 9 2 46) (E : Rx G ρW a (none)) {K47 : HW → Int32 → Option HW} (w : HW) (x1 : Int32) (x3 : Int32) (x4 : Int32) (x6 : Int32) (x7 : Int32) (s0 : Int32) (s1 : Int32) (s2 : Int32) (hK47 : ∀ (w' : HW) (x6' : Int32), Sm G a 78 [(0, .ref (hB G + 79)), (1, .int x1), (3, .int x3), (4, .int x4), (6, .int (x6'))] [] w' (K47 w' x6')) : Sm G a 221 [(0, .ref (hB G + 79)), (1, .int x1), (3, .int x3), (4, .int x4), (6, .int x6), (7, .int x7)] [.int s0, .int s1, .int s2, .ref (hB G + 92)] w (fX10_layState_221 w K47 x1 x3 x4 x6 x7 s0 s1 s2) := by
  unfold fX10_layState_221
  refine sm_iadd C dX10_layState_221 ?_
  refine sm_iast C kd_92 dX10_layState_222 (fun h_44 w_45 => ?_)
  refine sm_aload_n C 0 rfl dX10_layState_223 rfl ?_
  refine sm_getR C fo_10_25 rfl wd381 kd_79 dX10_layState_224 (rv_79_25 w_45) (by decide) ?_
  refine sm_iload C 3 rfl dX10_layState_227 ?_
  refine sm_aload_n C 0 rfl dX10_layState_229 rfl ?_
  refine sm_getR C fo_10_25 rfl wd381 kd_79 dX10_layState_230 (rv_79_25 w_45) (by decide) ?_
  refine sm_iload C 3 rfl dX10_layState_233 ?_
  refine sm_iald C kd_93 dX10_layState_235 (fun h_46 => ?_)
  refine sm_iconst C ic_1 dX10_layState_236 ?_
  refine sm_aload_n C 0 rfl dX10_layState_237 rfl ?_
  refine sm_getR C fo_10_25 rfl wd381 kd_79 dX10_layState_238 (rv_79_25 w_45) (by decide) ?_
  refine sm_iload C 5 rfl dX10_layState_241 ?_
  refine sm_iald C kd_93 dX10_layState_243 (fun h_47 => ?_)
  refine sm_iadd C dX10_layState_244 ?_
  refine sm_max C wd365 max_st math_in max_co rfl dX10_layState_245 ?_
  refine sm_iast C kd_93 dX10_layState_248 (fun h_48 w_49 => ?_)
  refine sm_iinc (lv1 := [(6, .int (x6 + 1)), (0, .ref (hB G + 79)), (1, .int x1), (3, .int x3), (4, .int x4), (7, .int x7)]) C 4 rfl (iv_1 _) dX10_layState_249 rfl rfl ?_
  refine sm_goto C dX10_layState_252 (tgt := 78) rfl ?_
  refine sm_sub [1, 2, 3, 4, 0] rfl ?_
  exact hK47 w_49 (x6 + 1)
set_option maxRecDepth 100000 in
set_option maxHeartbeats 4000000 in
theorem sX10_layState_171 {G : Gx} {a : HW} (C : Cx G cX10_layState RX10 9 2 46) (E : Rx G ρW a (none)) {K47 : HW → Int32 → Option HW} (w : HW) (x1 : Int32) (x3 : Int32) (x4 : Int32) (x6 : Int32) (x7 : Int32) (x8 : Int32) (hK47 : ∀ (w' : HW) (x6' : Int32), Sm G a 78 [(0, .ref (hB G + 79)), (1, .int x1), (3, .int x3), (4, .int x4), (6, .int (x6'))] [] w' (K47 w' x6')) : Sm G a 171 [(0, .ref (hB G + 79)), (1, .int x1), (3, .int x3), (4, .int x4), (6, .int x6), (7, .int x7), (8, .int x8)] [] w (fX10_layState_171 w K47 x1 x3 x4 x6 x7 x8) := by
  unfold fX10_layState_171
  refine sm_aload_n C 0 rfl dX10_layState_171 rfl ?_
  refine sm_getR C fo_10_23 rfl wd379 kd_79 dX10_layState_172 (rv_79_23 w) (by decide) ?_
  refine sm_iload C 3 rfl dX10_layState_175 ?_
  refine sm_aload_n C 0 rfl dX10_layState_177 rfl ?_
  refine sm_getR C fo_10_23 rfl wd379 kd_79 dX10_layState_178 (rv_79_23 w) (by decide) ?_
  refine sm_iload C 3 rfl dX10_layState_181 ?_
  refine sm_iald C kd_91 dX10_layState_183 (fun h_37 => ?_)
  refine sm_iload C 6 rfl dX10_layState_184 ?_
  refine sm_max C wd365 max_st math_in max_co rfl dX10_layState_186 ?_
  refine sm_iast C kd_91 dX10_layState_189 (fun h_38 w_39 => ?_)
  refine sm_aload_n C 0 rfl dX10_layState_190 rfl ?_
  refine sm_getR C fo_10_24 rfl wd380 kd_79 dX10_layState_191 (rv_79_24 w_39) (by decide) ?_
  refine sm_iload C 3 rfl dX10_layState_194 ?_
  refine sm_dup2 C rfl rfl dX10_layState_196 ?_
  refine sm_iald C kd_92 dX10_layState_197 (fun h_40 => ?_)
  refine sm_iload C 6 rfl dX10_layState_198 ?_
  refine sm_aload_n C 0 rfl dX10_layState_200 rfl ?_
  refine sm_getR C fo_10_23 rfl wd379 kd_79 dX10_layState_201 (rv_79_23 w_39) (by decide) ?_
  refine sm_iload C 3 rfl dX10_layState_204 ?_
  refine sm_iald C kd_91 dX10_layState_206 (fun h_41 => ?_)
  refine sm_icmp_ne C dX10_layState_207 (tgt := 220) rfl (fun h_42 => ?_) (fun h_42 => ?_)
  · refine sm_aload_n C 0 rfl dX10_layState_210 rfl ?_
    refine sm_getR C fo_10_24 rfl wd380 kd_79 dX10_layState_211 (rv_79_24 w_39) (by decide) ?_
    refine sm_iload C 5 rfl dX10_layState_214 ?_
    refine sm_iald C kd_92 dX10_layState_216 (fun h_43 => ?_)
    refine sm_goto C dX10_layState_217 (tgt := 221) rfl ?_
    refine sm_sub [0, 1, 2, 3, 4, 5] rfl ?_
    exact sX10_layState_221 C E w_39 x1 x3 x4 x6 x7 (gI w_39 92 (ix x7)) (gI w_39 92 (ix x4)) x4 hK47
  · refine sm_iconst C ic_0 dX10_layState_220 ?_
    refine sm_sub [0, 1, 2, 3, 4, 5] rfl ?_
    exact sX10_layState_221 C E w_39 x1 x3 x4 x6 x7 0 (gI w_39 92 (ix x4)) x4 hK47
set_option maxRecDepth 100000 in
set_option maxHeartbeats 4000000 in
theorem sX10_layState_78 {G : Gx} {a : HW} (C : Cx G cX10_layState RX10 9 2 46) (E : Rx G ρW a (none)) {x1 : Int32} {x3 : Int32} {x4 : Int32} : ∀ (n : Nat) (w : HW) (x6 : Int32), Sm G a 78 [(0, .ref (hB G + 79)), (1, .int x1), (3, .int x3), (4, .int x4), (6, .int x6)] [] w (fX10_layState_78 x1 x3 x4 n w x6) := by
  intro n
  induction n with
  | zero => intro _ _; exact sm_none
  | succ n ih =>
    intro w x6
    rw [fX10_layState_78]
    refine sm_iload C 4 rfl dX10_layState_78 ?_
    refine sm_aload_n C 0 rfl dX10_layState_80 rfl ?_
    refine sm_getI C fo_10_27 rfl wd372 kd_79 dX10_layState_81 ?_
    refine sm_icmp_ge C dX10_layState_84 (tgt := 255) rfl (fun h_18 => ?_) (fun h_18 => ?_)
    · refine sm_aload_n C 0 rfl dX10_layState_87 rfl ?_
      refine sm_getR C fo_10_31 rfl wd374 kd_79 dX10_layState_88 (rv_79_31 w) (by decide) ?_
      refine sm_iload C 4 rfl dX10_layState_91 ?_
      refine sm_iald C kd_95 dX10_layState_93 (fun h_19 => ?_)
      refine sm_iload_n C 1 rfl dX10_layState_94 rfl ?_
      refine sm_cSI (As := [.int (gI w 95 (ix x6)), .int x1]) C cfX10_bit wd337 rfl rfl rfl rfl dX10_layState_95 (fun r h => mX10_bit  h) (fun r_20 => ?_)
      refine sm_if_eq C dX10_layState_98 (tgt := 249) rfl (fun h_22 => ?_) (fun h_22 => ?_)
      · refine sm_aload_n C 0 rfl dX10_layState_101 rfl ?_
        refine sm_iload C 4 rfl dX10_layState_102 ?_
        refine sm_iload_n C 2 rfl dX10_layState_104 rfl ?_
        refine sm_cVI (As := [.int x6, .int x3]) C cfX10_mayPass wd382 kd_79 rfl rfl rfl rfl rfl dX10_layState_105 (fun r h => mX10_mayPass  h) (fun r_23 => ?_)
        refine sm_if_ne C dX10_layState_108 (tgt := 114) rfl (fun h_25 => ?_) (fun h_25 => ?_)
        · refine sm_goto C dX10_layState_111 (tgt := 249) rfl ?_
          refine sm_iinc (lv1 := [(6, .int (x6 + 1)), (0, .ref (hB G + 79)), (1, .int x1), (3, .int x3), (4, .int x4)]) C 4 rfl (iv_1 _) dX10_layState_249 rfl rfl ?_
          refine sm_goto C dX10_layState_252 (tgt := 78) rfl ?_
          refine sm_sub [1, 2, 3, 4, 0] rfl ?_
          exact ih w (x6 + 1)
        · refine sm_iload_n C 1 rfl dX10_layState_114 rfl ?_
          refine sm_iconst C ic_1 dX10_layState_115 ?_
          refine sm_iadd C dX10_layState_116 ?_
          refine sm_iconst C ic_1 dX10_layState_117 ?_
          refine sm_iload_n C 2 rfl dX10_layState_118 rfl ?_
          refine sm_iconst C ic_1 dX10_layState_119 ?_
          refine sm_iload C 4 rfl dX10_layState_120 ?_
          refine sm_ishl C dX10_layState_122 ?_
          refine sm_ior C dX10_layState_123 ?_
          refine sm_cSI (As := [.int (x1 + 1), .int 1, .int (x3 ||| (iSl 1 x6))]) C cfX10_state wd377 rfl rfl rfl rfl dX10_layState_124 (fun r h => mX10_state  h) (fun r_26 => ?_)
          refine sm_istore (lv1 := [(7, .int r_26), (0, .ref (hB G + 79)), (1, .int x1), (3, .int x3), (4, .int x4), (6, .int x6)]) C dX10_layState_127 rfl rfl ?_
          refine sm_aload_n C 1 rfl dX10_layState_129 rfl ?_
          refine sm_aload_n C 1 rfl dX10_layState_130 rfl ?_
          refine sm_getR C fo_10_26 rfl wd376 kd_79 dX10_layState_131 (rv_79_26 w) (by decide) ?_
          refine sm_iload C 5 rfl dX10_layState_134 ?_
          refine sm_iald C kd_94 dX10_layState_136 (fun h_28 => ?_)
          refine sm_iconst C ic_1 dX10_layState_137 ?_
          refine sm_cVI (As := [.int (gI w 94 (ix x6)), .int 1]) C cfX10_of wd336 kd_79 rfl rfl rfl rfl rfl dX10_layState_138 (fun r h => mX10_of  h) (fun r_29 => ?_)
          refine sm_aload_n C 1 rfl dX10_layState_141 rfl ?_
          refine sm_getR C fo_10_23 rfl wd379 kd_79 dX10_layState_142 (rv_79_23 w) (by decide) ?_
          refine sm_iload C 0 rfl dX10_layState_145 ?_
          refine sm_iald C kd_91 dX10_layState_147 (fun h_31 => ?_)
          refine sm_iadd C dX10_layState_148 ?_
          refine sm_let (fun x8_32 => ?_)
          refine sm_istore (lv1 := [(8, .int x8_32), (7, .int r_26), (0, .ref (hB G + 79)), (1, .int x1), (3, .int x3), (4, .int x4), (6, .int x6)]) C dX10_layState_149 rfl rfl ?_
          refine sm_iload C 0 rfl dX10_layState_151 ?_
          refine sm_aload_n C 2 rfl dX10_layState_153 rfl ?_
          refine sm_getR C fo_10_23 rfl wd379 kd_79 dX10_layState_154 (rv_79_23 w) (by decide) ?_
          refine sm_iload C 5 rfl dX10_layState_157 ?_
          refine sm_iald C kd_91 dX10_layState_159 (fun h_33 => ?_)
          refine sm_icmp_le C dX10_layState_160 (tgt := 171) rfl (fun h_34 => ?_) (fun h_34 => ?_)
          · refine sm_aload_n C 2 rfl dX10_layState_163 rfl ?_
            refine sm_getR C fo_10_24 rfl wd380 kd_79 dX10_layState_164 (rv_79_24 w) (by decide) ?_
            refine sm_iload C 5 rfl dX10_layState_167 ?_
            refine sm_iconst C ic_0 dX10_layState_169 ?_
            refine sm_iast C kd_92 dX10_layState_170 (fun h_35 w_36 => ?_)
            refine sm_sub [2, 3, 4, 5, 6, 1, 0] rfl ?_
            exact sX10_layState_171 C E w_36 x1 x3 x4 x6 r_26 x8_32 (fun w x6 => ih w x6)
          · refine sm_sub [2, 3, 4, 5, 6, 1, 0] rfl ?_
            exact sX10_layState_171 C E w x1 x3 x4 x6 r_26 x8_32 (fun w x6 => ih w x6)
      · refine sm_iinc (lv1 := [(6, .int (x6 + 1)), (0, .ref (hB G + 79)), (1, .int x1), (3, .int x3), (4, .int x4)]) C 4 rfl (iv_1 _) dX10_layState_249 rfl rfl ?_
        refine sm_goto C dX10_layState_252 (tgt := 78) rfl ?_
        refine sm_sub [1, 2, 3, 4, 0] rfl ?_
        exact ih w (x6 + 1)
    · exact sm_vret C E rfl dX10_layState_255
set_option maxRecDepth 100000 in
set_option maxHeartbeats 4000000 in
theorem mX10_layState {b : Bx} {w : HW} {x1 : Int32} {x2 : Int32} {x3 : Int32} {a : HW} (h : fX10_layState w x1 x2 x3 = some a) : Mt b yX10_layState cX10_layState 9 (none) 2 46 [.ref (bB b + 79), .int x1, .int x2, .int x3] w none a := by
  refine Mt.of ρW h (by decide) (Nat.le_of_ble_eq_true rfl) (fun G hG C E => ?_)
  subst hG
  have C : Cx G cX10_layState RX10 9 2 46 := C
  change Sm G a 0 [(0, .ref (hB G + 79)), (1, .int x1), (2, .int x2), (3, .int x3)] [] w _
  unfold fX10_layState
  refine sm_iload_n C 1 rfl dX10_layState_0 rfl ?_
  refine sm_iload_n C 2 rfl dX10_layState_1 rfl ?_
  refine sm_iload_n C 3 rfl dX10_layState_2 rfl ?_
  refine sm_cSI (As := [.int x1, .int x2, .int x3]) C cfX10_state wd377 rfl rfl rfl rfl dX10_layState_3 (fun r h => mX10_state  h) (fun r_1 => ?_)
  refine sm_istore (lv1 := [(4, .int r_1), (0, .ref (hB G + 79)), (1, .int x1), (2, .int x2), (3, .int x3)]) C dX10_layState_6 rfl rfl ?_
  refine sm_iload_n C 2 rfl dX10_layState_8 rfl ?_
  refine sm_iconst C ic_1 dX10_layState_9 ?_
  refine sm_iadd C dX10_layState_10 ?_
  refine sm_aload_n C 1 rfl dX10_layState_11 rfl ?_
  refine sm_iload_n C 3 rfl dX10_layState_12 rfl ?_
  refine sm_cVI (As := [.int x2]) C cfX10_then wd378 kd_79 rfl rfl rfl rfl rfl dX10_layState_13 (fun r h => mX10_then  h) (fun r_3 => ?_)
  refine sm_iload_n C 4 rfl dX10_layState_16 rfl ?_
  refine sm_cSI (As := [.int (x1 + 1), .int r_3, .int x3]) C cfX10_state wd377 rfl rfl rfl rfl dX10_layState_17 (fun r h => mX10_state  h) (fun r_5 => ?_)
  refine sm_istore (lv1 := [(5, .int r_5), (4, .int r_1), (0, .ref (hB G + 79)), (1, .int x1), (2, .int x2), (3, .int x3)]) C dX10_layState_20 rfl rfl ?_
  refine sm_aload_n C 2 rfl dX10_layState_22 rfl ?_
  refine sm_getR C fo_10_23 rfl wd379 kd_79 dX10_layState_23 (rv_79_23 w) (by decide) ?_
  refine sm_iload C 1 rfl dX10_layState_26 ?_
  refine sm_aload_n C 2 rfl dX10_layState_28 rfl ?_
  refine sm_getR C fo_10_23 rfl wd379 kd_79 dX10_layState_29 (rv_79_23 w) (by decide) ?_
  refine sm_iload C 0 rfl dX10_layState_32 ?_
  refine sm_iald C kd_91 dX10_layState_34 (fun h_7 => ?_)
  refine sm_iast C kd_91 dX10_layState_35 (fun h_8 w_9 => ?_)
  refine sm_aload_n C 2 rfl dX10_layState_36 rfl ?_
  refine sm_getR C fo_10_24 rfl wd380 kd_79 dX10_layState_37 (rv_79_24 w_9) (by decide) ?_
  refine sm_iload C 1 rfl dX10_layState_40 ?_
  refine sm_aload_n C 2 rfl dX10_layState_42 rfl ?_
  refine sm_getR C fo_10_24 rfl wd380 kd_79 dX10_layState_43 (rv_79_24 w_9) (by decide) ?_
  refine sm_iload C 0 rfl dX10_layState_46 ?_
  refine sm_iald C kd_92 dX10_layState_48 (fun h_10 => ?_)
  refine sm_iast C kd_92 dX10_layState_49 (fun h_11 w_12 => ?_)
  refine sm_aload_n C 2 rfl dX10_layState_50 rfl ?_
  refine sm_getR C fo_10_25 rfl wd381 kd_79 dX10_layState_51 (rv_79_25 w_12) (by decide) ?_
  refine sm_iload C 1 rfl dX10_layState_54 ?_
  refine sm_aload_n C 2 rfl dX10_layState_56 rfl ?_
  refine sm_getR C fo_10_25 rfl wd381 kd_79 dX10_layState_57 (rv_79_25 w_12) (by decide) ?_
  refine sm_iload C 0 rfl dX10_layState_60 ?_
  refine sm_iald C kd_93 dX10_layState_62 (fun h_13 => ?_)
  refine sm_iast C kd_93 dX10_layState_63 (fun h_14 w_15 => ?_)
  refine sm_iload_n C 4 rfl dX10_layState_64 rfl ?_
  refine sm_aload_n C 2 rfl dX10_layState_65 rfl ?_
  refine sm_getR C fo_10_1 rfl wd297 kd_79 dX10_layState_66 (rv_79_1 w_15) (by decide) ?_
  refine sm_iconst C ic_2 dX10_layState_69 ?_
  refine sm_iald C kd_80 dX10_layState_70 (fun h_16 => ?_)
  refine sm_icmp_ge C dX10_layState_71 (tgt := 75) rfl (fun h_17 => ?_) (fun h_17 => ?_)
  · exact sm_vret C E rfl dX10_layState_74
  · refine sm_iconst C ic_0 dX10_layState_75 ?_
    refine sm_istore (lv1 := [(6, .int 0), (5, .int r_5), (4, .int r_1), (0, .ref (hB G + 79)), (1, .int x1), (2, .int x2), (3, .int x3)]) C dX10_layState_76 rfl rfl ?_
    refine sm_sub [3, 4, 6, 2, 0] rfl ?_
    exact sX10_layState_78 C E FU w_15 0
/-! X10_startState -/
set_option maxRecDepth 100000 in
set_option maxHeartbeats 4000000 in
theorem mX10_startState {b : Bx} {w : HW} {a : Int32} (h : fX10_startState w = some a) : Mt b yX10_startState cX10_startState 1 (some .int) 1 22 [.ref (bB b + 79)] w (some (.int a)) w := by
  refine Mt.of (ρI w) h (by decide) (Nat.le_of_ble_eq_true rfl) (fun G hG C E => ?_)
  subst hG
  have C : Cx G cX10_startState RX10 1 1 22 := C
  change Sm G a 0 [(0, .ref (hB G + 79))] [] w _
  unfold fX10_startState
  refine sm_iconst C ic_0 dX10_startState_0 ?_
  refine sm_aload_n C 0 rfl dX10_startState_1 rfl ?_
  refine sm_getR C fo_10_1 rfl wd297 kd_79 dX10_startState_2 (rv_79_1 w) (by decide) ?_
  refine sm_iconst C ic_2 dX10_startState_5 ?_
  refine sm_iald C kd_80 dX10_startState_6 (fun h_1 => ?_)
  refine sm_aload_n C 0 rfl dX10_startState_7 rfl ?_
  refine sm_getR C fo_10_1 rfl wd297 kd_79 dX10_startState_8 (rv_79_1 w) (by decide) ?_
  refine sm_iconst C ic_1 dX10_startState_11 ?_
  refine sm_iald C kd_80 dX10_startState_12 (fun h_2 => ?_)
  refine sm_min C wd314 min_st math_in min_co rfl dX10_startState_13 ?_
  refine sm_iconst C ic_0 dX10_startState_16 ?_
  refine sm_cSI (As := [.int 0, .int (iMn (gI w 80 (ix 2)) (gI w 80 (ix 1))), .int 0]) C cfX10_state wd377 rfl rfl rfl rfl dX10_startState_17 (fun r h => mX10_state  h) (fun r_3 => ?_)
  exact sm_iret C E rfl dX10_startState_20
/-! X10_layPlans -/
set_option maxRecDepth 100000 in
set_option maxHeartbeats 4000000 in
theorem sX10_layPlans_31 {G : Gx} {a : Int32 × HW} (C : Cx G cX10_layPlans RX10 5 5 113) (E : Rx G ρIW a (some .int)) {K8 : HW → Int32 → Option (Int32 × HW)} {K12 : HW → Int32 → Option (Int32 × HW)} {x2 : Int32} {x3 : Int32} (hK8 : ∀ (w' : HW) (x2' : Int32), Sm G a 12 [(0, .ref (hB G + 79)), (2, .int (x2'))] [] w' (K8 w' x2')) (hK12 : ∀ (w' : HW) (x3' : Int32), Sm G a 18 [(0, .ref (hB G + 79)), (2, .int x2), (3, .int (x3'))] [] w' (K12 w' x3')) : ∀ (n : Nat) (w : HW) (x4 : Int32), Sm G a 31 [(0, .ref (hB G + 79)), (2, .int x2), (3, .int x3), (4, .int x4)] [] w (fX10_layPlans_31 K8 K12 x2 x3 n w x4) := by
  intro n
  induction n with
  | zero => intro _ _; exact sm_none
  | succ n ih =>
    intro w x4
    rw [fX10_layPlans_31]
    refine sm_iload C 3 rfl dX10_layPlans_31 ?_
    refine sm_iconst C ic_1 dX10_layPlans_33 ?_
    refine sm_aload_n C 0 rfl dX10_layPlans_34 rfl ?_
    refine sm_getI C fo_10_27 rfl wd372 kd_79 dX10_layPlans_35 ?_
    refine sm_ishl C dX10_layPlans_38 ?_
    refine sm_icmp_ge C dX10_layPlans_39 (tgt := 108) rfl (fun h_11 => ?_) (fun h_11 => ?_)
    · refine sm_iload_n C 1 rfl dX10_layPlans_42 rfl ?_
      refine sm_aload_n C 0 rfl dX10_layPlans_43 rfl ?_
      refine sm_getR C fo_10_1 rfl wd297 kd_79 dX10_layPlans_44 (rv_79_1 w) (by decide) ?_
      refine sm_iconst C ic_0 dX10_layPlans_47 ?_
      refine sm_iald C kd_80 dX10_layPlans_48 (fun h_12 => ?_)
      refine sm_icmp_ge C dX10_layPlans_49 (tgt := 63) rfl (fun h_13 => ?_) (fun h_13 => ?_)
      · refine sm_aload_n C 0 rfl dX10_layPlans_52 rfl ?_
        refine sm_iload_n C 1 rfl dX10_layPlans_53 rfl ?_
        refine sm_iload_n C 2 rfl dX10_layPlans_54 rfl ?_
        refine sm_iload C 3 rfl dX10_layPlans_55 ?_
        refine sm_cVW (As := [.int x2, .int x3, .int x4]) C cfX10_layState wd385 kd_79 rfl rfl rfl rfl rfl dX10_layPlans_57 (fun r h => mX10_layState  h) (fun w_15 => ?_)
        refine sm_goto C dX10_layPlans_60 (tgt := 102) rfl ?_
        refine sm_iinc (lv1 := [(4, .int (x4 + 1)), (0, .ref (hB G + 79)), (2, .int x2), (3, .int x3)]) C 3 rfl (iv_1 _) dX10_layPlans_102 rfl rfl ?_
        refine sm_goto C dX10_layPlans_105 (tgt := 31) rfl ?_
        refine sm_sub [1, 2, 3, 0] rfl ?_
        exact ih w_15 (x4 + 1)
      · refine sm_aload_n C 0 rfl dX10_layPlans_63 rfl ?_
        refine sm_getR C fo_10_23 rfl wd379 kd_79 dX10_layPlans_64 (rv_79_23 w) (by decide) ?_
        refine sm_iload_n C 1 rfl dX10_layPlans_67 rfl ?_
        refine sm_iload_n C 2 rfl dX10_layPlans_68 rfl ?_
        refine sm_iload C 3 rfl dX10_layPlans_69 ?_
        refine sm_cSI (As := [.int x2, .int x3, .int x4]) C cfX10_state wd377 rfl rfl rfl rfl dX10_layPlans_71 (fun r h => mX10_state  h) (fun r_16 => ?_)
        refine sm_iconst C ic_0 dX10_layPlans_74 ?_
        refine sm_iast C kd_91 dX10_layPlans_75 (fun h_18 w_19 => ?_)
        refine sm_aload_n C 0 rfl dX10_layPlans_76 rfl ?_
        refine sm_getR C fo_10_24 rfl wd380 kd_79 dX10_layPlans_77 (rv_79_24 w_19) (by decide) ?_
        refine sm_iload_n C 1 rfl dX10_layPlans_80 rfl ?_
        refine sm_iload_n C 2 rfl dX10_layPlans_81 rfl ?_
        refine sm_iload C 3 rfl dX10_layPlans_82 ?_
        refine sm_cSI (As := [.int x2, .int x3, .int x4]) C cfX10_state wd377 rfl rfl rfl rfl dX10_layPlans_84 (fun r h => mX10_state  h) (fun r_20 => ?_)
        refine sm_iconst C ic_1 dX10_layPlans_87 ?_
        refine sm_iast C kd_92 dX10_layPlans_88 (fun h_22 w_23 => ?_)
        refine sm_aload_n C 0 rfl dX10_layPlans_89 rfl ?_
        refine sm_getR C fo_10_25 rfl wd381 kd_79 dX10_layPlans_90 (rv_79_25 w_23) (by decide) ?_
        refine sm_iload_n C 1 rfl dX10_layPlans_93 rfl ?_
        refine sm_iload_n C 2 rfl dX10_layPlans_94 rfl ?_
        refine sm_iload C 3 rfl dX10_layPlans_95 ?_
        refine sm_cSI (As := [.int x2, .int x3, .int x4]) C cfX10_state wd377 rfl rfl rfl rfl dX10_layPlans_97 (fun r h => mX10_state  h) (fun r_24 => ?_)
        refine sm_iconst C ic_0 dX10_layPlans_100 ?_
        refine sm_iast C kd_93 dX10_layPlans_101 (fun h_26 w_27 => ?_)
        refine sm_iinc (lv1 := [(4, .int (x4 + 1)), (0, .ref (hB G + 79)), (2, .int x2), (3, .int x3)]) C 3 rfl (iv_1 _) dX10_layPlans_102 rfl rfl ?_
        refine sm_goto C dX10_layPlans_105 (tgt := 31) rfl ?_
        refine sm_sub [1, 2, 3, 0] rfl ?_
        exact ih w_27 (x4 + 1)
    · refine sm_iinc (lv1 := [(3, .int (x3 + 1)), (0, .ref (hB G + 79)), (2, .int x2), (4, .int x4)]) C 2 rfl (iv_1 _) dX10_layPlans_108 rfl rfl ?_
      refine sm_goto C dX10_layPlans_111 (tgt := 18) rfl ?_
      refine sm_sub [1, 2, 0] rfl ?_
      exact hK12 w (x3 + 1)
set_option maxRecDepth 100000 in
set_option maxHeartbeats 4000000 in
theorem sX10_layPlans_18 {G : Gx} {a : Int32 × HW} (C : Cx G cX10_layPlans RX10 5 5 113) (E : Rx G ρIW a (some .int)) {K8 : HW → Int32 → Option (Int32 × HW)} {x2 : Int32} (hK8 : ∀ (w' : HW) (x2' : Int32), Sm G a 12 [(0, .ref (hB G + 79)), (2, .int (x2'))] [] w' (K8 w' x2')) : ∀ (n : Nat) (w : HW) (x3 : Int32), Sm G a 18 [(0, .ref (hB G + 79)), (2, .int x2), (3, .int x3)] [] w (fX10_layPlans_18 K8 x2 n w x3) := by
  intro n
  induction n with
  | zero => intro _ _; exact sm_none
  | succ n ih =>
    intro w x3
    rw [fX10_layPlans_18]
    refine sm_iload_n C 2 rfl dX10_layPlans_18 rfl ?_
    refine sm_aload_n C 0 rfl dX10_layPlans_19 rfl ?_
    refine sm_getR C fo_10_1 rfl wd297 kd_79 dX10_layPlans_20 (rv_79_1 w) (by decide) ?_
    refine sm_iconst C ic_2 dX10_layPlans_23 ?_
    refine sm_iald C kd_80 dX10_layPlans_24 (fun h_9 => ?_)
    refine sm_icmp_gt C dX10_layPlans_25 (tgt := 114) rfl (fun h_10 => ?_) (fun h_10 => ?_)
    · refine sm_iconst C ic_0 dX10_layPlans_28 ?_
      refine sm_istore (lv1 := [(4, .int 0), (0, .ref (hB G + 79)), (2, .int x2), (3, .int x3)]) C dX10_layPlans_29 rfl rfl ?_
      refine sm_sub [1, 2, 3, 0] rfl ?_
      exact sX10_layPlans_31 C E hK8 (fun w x3 => ih w x3) FU w 0
    · refine sm_iinc (lv1 := [(2, .int (x2 + (-1))), (0, .ref (hB G + 79)), (3, .int x3)]) C 1 rfl (iv_m1 _) dX10_layPlans_114 rfl rfl ?_
      refine sm_goto C dX10_layPlans_117 (tgt := 12) rfl ?_
      refine sm_sub [1, 0] rfl ?_
      exact hK8 w (x2 + (-1))
set_option maxRecDepth 100000 in
set_option maxHeartbeats 4000000 in
theorem sX10_layPlans_12 {G : Gx} {a : Int32 × HW} (C : Cx G cX10_layPlans RX10 5 5 113) (E : Rx G ρIW a (some .int)) : ∀ (n : Nat) (w : HW) (x2 : Int32), Sm G a 12 [(0, .ref (hB G + 79)), (2, .int x2)] [] w (fX10_layPlans_12 n w x2) := by
  intro n
  induction n with
  | zero => intro _ _; exact sm_none
  | succ n ih =>
    intro w x2
    rw [fX10_layPlans_12]
    refine sm_iload_n C 1 rfl dX10_layPlans_12 rfl ?_
    refine sm_if_lt C dX10_layPlans_13 (tgt := 120) rfl (fun h_5 => ?_) (fun h_5 => ?_)
    · refine sm_iconst C ic_0 dX10_layPlans_16 ?_
      refine sm_istore_n (lv1 := [(3, .int 0), (0, .ref (hB G + 79)), (2, .int x2)]) C dX10_layPlans_17 rfl rfl rfl ?_
      refine sm_sub [1, 2, 0] rfl ?_
      exact sX10_layPlans_18 C E (fun w x2 => ih w x2) FU w 0
    · refine sm_aload_n C 0 rfl dX10_layPlans_120 rfl ?_
      refine sm_getR C fo_10_23 rfl wd379 kd_79 dX10_layPlans_121 (rv_79_23 w) (by decide) ?_
      refine sm_aload_n C 0 rfl dX10_layPlans_124 rfl ?_
      refine sm_cVI (As := []) C cfX10_startState wd384 kd_79 rfl rfl rfl rfl rfl dX10_layPlans_125 (fun r h => mX10_startState  h) (fun r_6 => ?_)
      refine sm_iald C kd_91 dX10_layPlans_128 (fun h_8 => ?_)
      exact sm_iret C E rfl dX10_layPlans_129
set_option maxRecDepth 100000 in
set_option maxHeartbeats 4000000 in
theorem mX10_layPlans {b : Bx} {w : HW} {x1 : Int32} {a : Int32 × HW} (h : fX10_layPlans w x1 = some a) : Mt b yX10_layPlans cX10_layPlans 5 (some .int) 5 113 [.ref (bB b + 79), .int x1] w (some (.int a.1)) a.2 := by
  refine Mt.of ρIW h (by decide) (Nat.le_of_ble_eq_true rfl) (fun G hG C E => ?_)
  subst hG
  have C : Cx G cX10_layPlans RX10 5 5 113 := C
  change Sm G a 0 [(0, .ref (hB G + 79)), (1, .int x1)] [] w _
  unfold fX10_layPlans
  refine sm_aload_n C 0 rfl dX10_layPlans_0 rfl ?_
  refine sm_iload_n C 1 rfl dX10_layPlans_1 rfl ?_
  refine sm_cVW (As := [.int x1]) C cfX10_layOwn wd383 kd_79 rfl rfl rfl rfl rfl dX10_layPlans_2 (fun r h => mX10_layOwn  h) (fun w_2 => ?_)
  refine sm_aload_n C 0 rfl dX10_layPlans_5 rfl ?_
  refine sm_getR C fo_10_1 rfl wd297 kd_79 dX10_layPlans_6 (rv_79_1 w_2) (by decide) ?_
  refine sm_iconst C ic_0 dX10_layPlans_9 ?_
  refine sm_iald C kd_80 dX10_layPlans_10 (fun h_3 => ?_)
  refine sm_let (fun x2_4 => ?_)
  refine sm_istore_n (lv1 := [(2, .int x2_4), (0, .ref (hB G + 79)), (1, .int x1)]) C dX10_layPlans_11 rfl rfl rfl ?_
  refine sm_sub [1, 0] rfl ?_
  exact sX10_layPlans_12 C E FU w_2 x2_4
/-! X10_plan -/
set_option maxRecDepth 100000 in
set_option maxHeartbeats 4000000 in
theorem mX10_plan {b : Bx} {w : HW} {x1 : Int32} {a : Int32 × HW} (h : fX10_plan w x1 = some a) : Mt b yX10_plan cX10_plan 2 (some .int) 6 137 [.ref (bB b + 79), .int x1] w (some (.int a.1)) a.2 := by
  refine Mt.of ρIW h (by decide) (Nat.le_of_ble_eq_true rfl) (fun G hG C E => ?_)
  subst hG
  have C : Cx G cX10_plan RX10 2 6 137 := C
  change Sm G a 0 [(0, .ref (hB G + 79)), (1, .int x1)] [] w _
  unfold fX10_plan
  refine sm_aload_n C 0 rfl dX10_plan_0 rfl ?_
  refine sm_iload_n C 1 rfl dX10_plan_1 rfl ?_
  refine sm_cVI (As := [.int x1]) C cfX10_isSide wd341 kd_79 rfl rfl rfl rfl rfl dX10_plan_2 (fun r h => mX10_isSide  h) (fun r_1 => ?_)
  refine sm_if_eq C dX10_plan_5 (tgt := 16) rfl (fun h_3 => ?_) (fun h_3 => ?_)
  · refine sm_aload_n C 0 rfl dX10_plan_8 rfl ?_
    refine sm_iload_n C 1 rfl dX10_plan_9 rfl ?_
    refine sm_cVIW (As := [.int x1]) C cfX10_layPlans wd386 kd_79 rfl rfl rfl rfl rfl dX10_plan_10 (fun r h => mX10_layPlans  h) (fun r_4 w_5 => ?_)
    refine sm_goto C dX10_plan_13 (tgt := 18) rfl ?_
    exact sm_iret C E rfl dX10_plan_18
  · refine sm_bipush C bp_m2 dX10_plan_16 ?_
    exact sm_iret C E rfl dX10_plan_18
/-! X10_ways -/
set_option maxRecDepth 100000 in
set_option maxHeartbeats 4000000 in
theorem mX10_ways {b : Bx} {w : HW} {x1 : Int32} {a : Int32 × HW} (h : fX10_ways w x1 = some a) : Mt b yX10_ways cX10_ways 2 (some .int) 6 137 [.ref (bB b + 79), .int x1] w (some (.int a.1)) a.2 := by
  refine Mt.of ρIW h (by decide) (Nat.le_of_ble_eq_true rfl) (fun G hG C E => ?_)
  subst hG
  have C : Cx G cX10_ways RX10 2 6 137 := C
  change Sm G a 0 [(0, .ref (hB G + 79)), (1, .int x1)] [] w _
  unfold fX10_ways
  refine sm_aload_n C 0 rfl dX10_ways_0 rfl ?_
  refine sm_iload_n C 1 rfl dX10_ways_1 rfl ?_
  refine sm_cVI (As := [.int x1]) C cfX10_isSide wd341 kd_79 rfl rfl rfl rfl rfl dX10_ways_2 (fun r h => mX10_isSide  h) (fun r_1 => ?_)
  refine sm_if_ne C dX10_ways_5 (tgt := 11) rfl (fun h_3 => ?_) (fun h_3 => ?_)
  · refine sm_bipush C bp_m2 dX10_ways_8 ?_
    exact sm_iret C E rfl dX10_ways_10
  · refine sm_aload_n C 0 rfl dX10_ways_11 rfl ?_
    refine sm_iload_n C 1 rfl dX10_ways_12 rfl ?_
    refine sm_cVIW (As := [.int x1]) C cfX10_layPlans wd386 kd_79 rfl rfl rfl rfl rfl dX10_ways_13 (fun r h => mX10_layPlans  h) (fun r_4 w_5 => ?_)
    refine sm_pop C rfl dX10_ways_16 ?_
    refine sm_aload_n C 0 rfl dX10_ways_17 rfl ?_
    refine sm_getR C fo_10_24 rfl wd380 kd_79 dX10_ways_18 (rv_79_24 w_5) (by decide) ?_
    refine sm_aload_n C 0 rfl dX10_ways_21 rfl ?_
    refine sm_cVI (As := []) C cfX10_startState wd384 kd_79 rfl rfl rfl rfl rfl dX10_ways_22 (fun r h => mX10_startState  h) (fun r_6 => ?_)
    refine sm_iald C kd_92 dX10_ways_25 (fun h_8 => ?_)
    exact sm_iret C E rfl dX10_ways_26
/-! X10_many -/
set_option maxRecDepth 100000 in
set_option maxHeartbeats 4000000 in
theorem mX10_many {b : Bx} {w : HW} {x1 : Int32} {a : Int32 × HW} (h : fX10_many w x1 = some a) : Mt b yX10_many cX10_many 2 (some .int) 6 137 [.ref (bB b + 79), .int x1] w (some (.int a.1)) a.2 := by
  refine Mt.of ρIW h (by decide) (Nat.le_of_ble_eq_true rfl) (fun G hG C E => ?_)
  subst hG
  have C : Cx G cX10_many RX10 2 6 137 := C
  change Sm G a 0 [(0, .ref (hB G + 79)), (1, .int x1)] [] w _
  unfold fX10_many
  refine sm_aload_n C 0 rfl dX10_many_0 rfl ?_
  refine sm_iload_n C 1 rfl dX10_many_1 rfl ?_
  refine sm_cVI (As := [.int x1]) C cfX10_isSide wd341 kd_79 rfl rfl rfl rfl rfl dX10_many_2 (fun r h => mX10_isSide  h) (fun r_1 => ?_)
  refine sm_if_ne C dX10_many_5 (tgt := 11) rfl (fun h_3 => ?_) (fun h_3 => ?_)
  · refine sm_bipush C bp_m2 dX10_many_8 ?_
    exact sm_iret C E rfl dX10_many_10
  · refine sm_aload_n C 0 rfl dX10_many_11 rfl ?_
    refine sm_iload_n C 1 rfl dX10_many_12 rfl ?_
    refine sm_cVIW (As := [.int x1]) C cfX10_layPlans wd386 kd_79 rfl rfl rfl rfl rfl dX10_many_13 (fun r h => mX10_layPlans  h) (fun r_4 w_5 => ?_)
    refine sm_pop C rfl dX10_many_16 ?_
    refine sm_aload_n C 0 rfl dX10_many_17 rfl ?_
    refine sm_getR C fo_10_25 rfl wd381 kd_79 dX10_many_18 (rv_79_25 w_5) (by decide) ?_
    refine sm_aload_n C 0 rfl dX10_many_21 rfl ?_
    refine sm_cVI (As := []) C cfX10_startState wd384 kd_79 rfl rfl rfl rfl rfl dX10_many_22 (fun r h => mX10_startState  h) (fun r_6 => ?_)
    refine sm_iald C kd_93 dX10_many_25 (fun h_8 => ?_)
    exact sm_iret C E rfl dX10_many_26
/-! X10_planned -/
set_option maxRecDepth 100000 in
set_option maxHeartbeats 4000000 in
theorem sX10_planned_218 {G : Gx} {a : Int32 × HW} (C : Cx G cX10_planned RX10 8 6 137) (E : Rx G ρIW a (some .int)) (w : HW) (x5 : Int32) : Sm G a 218 [(0, .ref (hB G + 79)), (5, .int x5)] [] w (fX10_planned_218 w x5) := by
  unfold fX10_planned_218
  refine sm_iload C 1 rfl dX10_planned_218 ?_
  refine sm_iconst C ic_m1 dX10_planned_220 ?_
  refine sm_icmp_ne C dX10_planned_221 (tgt := 228) rfl (fun h_46 => ?_) (fun h_46 => ?_)
  · refine sm_iconst C ic_m1 dX10_planned_224 ?_
    refine sm_goto C dX10_planned_225 (tgt := 235) rfl ?_
    exact sm_iret C E rfl dX10_planned_235
  · refine sm_aload_n C 0 rfl dX10_planned_228 rfl ?_
    refine sm_getR C fo_10_26 rfl wd376 kd_79 dX10_planned_229 (rv_79_26 w) (by decide) ?_
    refine sm_iload C 1 rfl dX10_planned_232 ?_
    refine sm_iald C kd_94 dX10_planned_234 (fun h_47 => ?_)
    exact sm_iret C E rfl dX10_planned_235
set_option maxRecDepth 100000 in
set_option maxHeartbeats 4000000 in
theorem sX10_planned_192 {G : Gx} {a : Int32 × HW} (C : Cx G cX10_planned RX10 8 6 137) (E : Rx G ρIW a (some .int)) {K31 : HW → Int32 → Int32 → Int32 → Int32 → Option (Int32 × HW)} (w : HW) (x2 : Int32) (x4 : Int32) (x5 : Int32) (x6 : Int32) (s0 : Int32) (hK31 : ∀ (w' : HW) (x3' : Int32) (x4' : Int32) (x5' : Int32) (x6' : Int32), Sm G a 51 [(0, .ref (hB G + 79)), (2, .int x2), (3, .int (x3')), (4, .int (x4')), (5, .int (x5')), (6, .int (x6'))] [] w' (K31 w' x3' x4' x5' x6')) : Sm G a 192 [(0, .ref (hB G + 79)), (2, .int x2), (4, .int x4), (5, .int x5), (6, .int x6)] [.int s0] w (fX10_planned_192 w K31 x2 x4 x5 x6 s0) := by
  unfold fX10_planned_192
  refine sm_istore_n (lv1 := [(3, .int s0), (0, .ref (hB G + 79)), (2, .int x2), (4, .int x4), (5, .int x5), (6, .int x6)]) C dX10_planned_192 rfl rfl rfl ?_
  refine sm_iload C 3 rfl dX10_planned_193 ?_
  refine sm_iload C 4 rfl dX10_planned_195 ?_
  refine sm_iconst C ic_m1 dX10_planned_197 ?_
  refine sm_icmp_ne C dX10_planned_198 (tgt := 205) rfl (fun h_43 => ?_) (fun h_43 => ?_)
  · refine sm_iconst C ic_0 dX10_planned_201 ?_
    refine sm_goto C dX10_planned_202 (tgt := 209) rfl ?_
    refine sm_ior C dX10_planned_209 ?_
    refine sm_let (fun x4_44 => ?_)
    refine sm_istore (lv1 := [(4, .int x4_44), (3, .int s0), (0, .ref (hB G + 79)), (2, .int x2), (5, .int x5), (6, .int x6)]) C dX10_planned_210 rfl rfl ?_
    refine sm_iinc (lv1 := [(6, .int (x6 + 1)), (4, .int x4_44), (3, .int s0), (0, .ref (hB G + 79)), (2, .int x2), (5, .int x5)]) C 5 rfl (iv_1 _) dX10_planned_212 rfl rfl ?_
    refine sm_goto C dX10_planned_215 (tgt := 51) rfl ?_
    refine sm_sub [3, 4, 2, 1, 5, 0] rfl ?_
    exact hK31 w s0 x4_44 x5 (x6 + 1)
  · refine sm_iconst C ic_1 dX10_planned_205 ?_
    refine sm_iload C 4 rfl dX10_planned_206 ?_
    refine sm_ishl C dX10_planned_208 ?_
    refine sm_ior C dX10_planned_209 ?_
    refine sm_let (fun x4_45 => ?_)
    refine sm_istore (lv1 := [(4, .int x4_45), (3, .int s0), (0, .ref (hB G + 79)), (2, .int x2), (5, .int x5), (6, .int x6)]) C dX10_planned_210 rfl rfl ?_
    refine sm_iinc (lv1 := [(6, .int (x6 + 1)), (4, .int x4_45), (3, .int s0), (0, .ref (hB G + 79)), (2, .int x2), (5, .int x5)]) C 5 rfl (iv_1 _) dX10_planned_212 rfl rfl ?_
    refine sm_goto C dX10_planned_215 (tgt := 51) rfl ?_
    refine sm_sub [3, 4, 2, 1, 5, 0] rfl ?_
    exact hK31 w s0 x4_45 x5 (x6 + 1)
set_option maxRecDepth 100000 in
set_option maxHeartbeats 4000000 in
theorem sX10_planned_102 {G : Gx} {a : Int32 × HW} (C : Cx G cX10_planned RX10 8 6 137) (E : Rx G ρIW a (some .int)) {K31 : HW → Int32 → Int32 → Int32 → Int32 → Option (Int32 × HW)} {x2 : Int32} {x3 : Int32} {x4 : Int32} {x6 : Int32} {x7 : Int32} (hK31 : ∀ (w' : HW) (x3' : Int32) (x4' : Int32) (x5' : Int32) (x6' : Int32), Sm G a 51 [(0, .ref (hB G + 79)), (2, .int x2), (3, .int (x3')), (4, .int (x4')), (5, .int (x5')), (6, .int (x6'))] [] w' (K31 w' x3' x4' x5' x6')) : ∀ (n : Nat) (w : HW) (x5 : Int32), Sm G a 102 [(0, .ref (hB G + 79)), (2, .int x2), (3, .int x3), (4, .int x4), (5, .int x5), (6, .int x6), (7, .int x7)] [] w (fX10_planned_102 K31 x2 x3 x4 x6 x7 n w x5) := by
  intro n
  induction n with
  | zero => intro _ _; exact sm_none
  | succ n ih =>
    intro w x5
    rw [fX10_planned_102]
    refine sm_aload_n C 0 rfl dX10_planned_102 rfl ?_
    refine sm_getR C fo_10_31 rfl wd374 kd_79 dX10_planned_103 (rv_79_31 w) (by decide) ?_
    refine sm_iload C 4 rfl dX10_planned_106 ?_
    refine sm_iald C kd_95 dX10_planned_108 (fun h_25 => ?_)
    refine sm_iload C 5 rfl dX10_planned_109 ?_
    refine sm_cSI (As := [.int (gI w 95 (ix x5)), .int x6]) C cfX10_bit wd337 rfl rfl rfl rfl dX10_planned_111 (fun r h => mX10_bit  h) (fun r_26 => ?_)
    refine sm_if_eq C dX10_planned_114 (tgt := 171) rfl (fun h_28 => ?_) (fun h_28 => ?_)
    · refine sm_aload_n C 0 rfl dX10_planned_117 rfl ?_
      refine sm_iload C 4 rfl dX10_planned_118 ?_
      refine sm_iload C 3 rfl dX10_planned_120 ?_
      refine sm_cVI (As := [.int x5, .int x4]) C cfX10_mayPass wd382 kd_79 rfl rfl rfl rfl rfl dX10_planned_122 (fun r h => mX10_mayPass  h) (fun r_29 => ?_)
      refine sm_if_eq C dX10_planned_125 (tgt := 171) rfl (fun h_31 => ?_) (fun h_31 => ?_)
      · refine sm_aload_n C 0 rfl dX10_planned_128 rfl ?_
        refine sm_aload_n C 0 rfl dX10_planned_129 rfl ?_
        refine sm_getR C fo_10_26 rfl wd376 kd_79 dX10_planned_130 (rv_79_26 w) (by decide) ?_
        refine sm_iload C 4 rfl dX10_planned_133 ?_
        refine sm_iald C kd_94 dX10_planned_135 (fun h_32 => ?_)
        refine sm_iconst C ic_1 dX10_planned_136 ?_
        refine sm_cVI (As := [.int (gI w 94 (ix x5)), .int 1]) C cfX10_of wd336 kd_79 rfl rfl rfl rfl rfl dX10_planned_137 (fun r h => mX10_of  h) (fun r_33 => ?_)
        refine sm_aload_n C 0 rfl dX10_planned_140 rfl ?_
        refine sm_getR C fo_10_23 rfl wd379 kd_79 dX10_planned_141 (rv_79_23 w) (by decide) ?_
        refine sm_iload C 5 rfl dX10_planned_144 ?_
        refine sm_iconst C ic_1 dX10_planned_146 ?_
        refine sm_iadd C dX10_planned_147 ?_
        refine sm_iconst C ic_1 dX10_planned_148 ?_
        refine sm_iload C 3 rfl dX10_planned_149 ?_
        refine sm_iconst C ic_1 dX10_planned_151 ?_
        refine sm_iload C 4 rfl dX10_planned_152 ?_
        refine sm_ishl C dX10_planned_154 ?_
        refine sm_ior C dX10_planned_155 ?_
        refine sm_cSI (As := [.int (x6 + 1), .int 1, .int (x4 ||| (iSl 1 x5))]) C cfX10_state wd377 rfl rfl rfl rfl dX10_planned_156 (fun r h => mX10_state  h) (fun r_35 => ?_)
        refine sm_iald C kd_91 dX10_planned_159 (fun h_37 => ?_)
        refine sm_iadd C dX10_planned_160 ?_
        refine sm_aload_n C 0 rfl dX10_planned_161 rfl ?_
        refine sm_getR C fo_10_23 rfl wd379 kd_79 dX10_planned_162 (rv_79_23 w) (by decide) ?_
        refine sm_iload C 6 rfl dX10_planned_165 ?_
        refine sm_iald C kd_91 dX10_planned_167 (fun h_38 => ?_)
        refine sm_icmp_eq C dX10_planned_168 (tgt := 177) rfl (fun h_39 => ?_) (fun h_39 => ?_)
        · refine sm_iinc (lv1 := [(5, .int (x5 + 1)), (0, .ref (hB G + 79)), (2, .int x2), (3, .int x3), (4, .int x4), (6, .int x6), (7, .int x7)]) C 4 rfl (iv_1 _) dX10_planned_171 rfl rfl ?_
          refine sm_goto C dX10_planned_174 (tgt := 102) rfl ?_
          refine sm_sub [1, 2, 3, 4, 0, 5, 6] rfl ?_
          exact ih w (x5 + 1)
        · refine sm_iload C 4 rfl dX10_planned_177 ?_
          refine sm_iconst C ic_m1 dX10_planned_179 ?_
          refine sm_icmp_ne C dX10_planned_180 (tgt := 191) rfl (fun h_40 => ?_) (fun h_40 => ?_)
          · refine sm_aload_n C 0 rfl dX10_planned_183 rfl ?_
            refine sm_iload_n C 2 rfl dX10_planned_184 rfl ?_
            refine sm_cVI (As := [.int x3]) C cfX10_then wd378 kd_79 rfl rfl rfl rfl rfl dX10_planned_185 (fun r h => mX10_then  h) (fun r_41 => ?_)
            refine sm_goto C dX10_planned_188 (tgt := 192) rfl ?_
            refine sm_sub [0, 1, 3, 4, 5] rfl ?_
            exact sX10_planned_192 C E w x2 x4 x5 x6 r_41 hK31
          · refine sm_iconst C ic_1 dX10_planned_191 ?_
            refine sm_sub [0, 1, 3, 4, 5] rfl ?_
            exact sX10_planned_192 C E w x2 x4 x5 x6 1 hK31
      · refine sm_iinc (lv1 := [(5, .int (x5 + 1)), (0, .ref (hB G + 79)), (2, .int x2), (3, .int x3), (4, .int x4), (6, .int x6), (7, .int x7)]) C 4 rfl (iv_1 _) dX10_planned_171 rfl rfl ?_
        refine sm_goto C dX10_planned_174 (tgt := 102) rfl ?_
        refine sm_sub [1, 2, 3, 4, 0, 5, 6] rfl ?_
        exact ih w (x5 + 1)
    · refine sm_iinc (lv1 := [(5, .int (x5 + 1)), (0, .ref (hB G + 79)), (2, .int x2), (3, .int x3), (4, .int x4), (6, .int x6), (7, .int x7)]) C 4 rfl (iv_1 _) dX10_planned_171 rfl rfl ?_
      refine sm_goto C dX10_planned_174 (tgt := 102) rfl ?_
      refine sm_sub [1, 2, 3, 4, 0, 5, 6] rfl ?_
      exact ih w (x5 + 1)
set_option maxRecDepth 100000 in
set_option maxHeartbeats 4000000 in
theorem sX10_planned_51 {G : Gx} {a : Int32 × HW} (C : Cx G cX10_planned RX10 8 6 137) (E : Rx G ρIW a (some .int)) {x2 : Int32} : ∀ (n : Nat) (w : HW) (x3 : Int32) (x4 : Int32) (x5 : Int32) (x6 : Int32), Sm G a 51 [(0, .ref (hB G + 79)), (2, .int x2), (3, .int x3), (4, .int x4), (5, .int x5), (6, .int x6)] [] w (fX10_planned_51 x2 n w x3 x4 x5 x6) := by
  intro n
  induction n with
  | zero => intro _ _ _ _ _; exact sm_none
  | succ n ih =>
    intro w x3 x4 x5 x6
    rw [fX10_planned_51]
    refine sm_iload C 5 rfl dX10_planned_51 ?_
    refine sm_iload_n C 1 rfl dX10_planned_53 rfl ?_
    refine sm_icmp_gt C dX10_planned_54 (tgt := 218) rfl (fun h_12 => ?_) (fun h_12 => ?_)
    · refine sm_iload C 5 rfl dX10_planned_57 ?_
      refine sm_iload_n C 2 rfl dX10_planned_59 rfl ?_
      refine sm_iload C 3 rfl dX10_planned_60 ?_
      refine sm_cSI (As := [.int x6, .int x3, .int x4]) C cfX10_state wd377 rfl rfl rfl rfl dX10_planned_62 (fun r h => mX10_state  h) (fun r_13 => ?_)
      refine sm_istore (lv1 := [(7, .int r_13), (0, .ref (hB G + 79)), (2, .int x2), (3, .int x3), (4, .int x4), (5, .int x5), (6, .int x6)]) C dX10_planned_65 rfl rfl ?_
      refine sm_iconst C ic_m1 dX10_planned_67 ?_
      refine sm_istore (lv1 := [(5, .int (-1)), (7, .int r_13), (0, .ref (hB G + 79)), (2, .int x2), (3, .int x3), (4, .int x4), (6, .int x6)]) C dX10_planned_68 rfl rfl ?_
      refine sm_aload_n C 2 rfl dX10_planned_70 rfl ?_
      refine sm_getR C fo_10_23 rfl wd379 kd_79 dX10_planned_71 (rv_79_23 w) (by decide) ?_
      refine sm_iload C 6 rfl dX10_planned_74 ?_
      refine sm_iconst C ic_1 dX10_planned_76 ?_
      refine sm_iadd C dX10_planned_77 ?_
      refine sm_aload_n C 2 rfl dX10_planned_78 rfl ?_
      refine sm_iload_n C 4 rfl dX10_planned_79 rfl ?_
      refine sm_cVI (As := [.int x3]) C cfX10_then wd378 kd_79 rfl rfl rfl rfl rfl dX10_planned_80 (fun r h => mX10_then  h) (fun r_15 => ?_)
      refine sm_iload C 5 rfl dX10_planned_83 ?_
      refine sm_cSI (As := [.int (x6 + 1), .int r_15, .int x4]) C cfX10_state wd377 rfl rfl rfl rfl dX10_planned_85 (fun r h => mX10_state  h) (fun r_17 => ?_)
      refine sm_iald C kd_91 dX10_planned_88 (fun h_19 => ?_)
      refine sm_aload_n C 2 rfl dX10_planned_89 rfl ?_
      refine sm_getR C fo_10_23 rfl wd379 kd_79 dX10_planned_90 (rv_79_23 w) (by decide) ?_
      refine sm_iload C 1 rfl dX10_planned_93 ?_
      refine sm_iald C kd_91 dX10_planned_95 (fun h_20 => ?_)
      refine sm_icmp_eq C dX10_planned_96 (tgt := 177) rfl (fun h_21 => ?_) (fun h_21 => ?_)
      · refine sm_iconst C ic_0 dX10_planned_99 ?_
        refine sm_istore (lv1 := [(5, .int 0), (7, .int r_13), (0, .ref (hB G + 79)), (2, .int x2), (3, .int x3), (4, .int x4), (6, .int x6)]) C dX10_planned_100 rfl rfl ?_
        refine sm_sub [2, 3, 4, 5, 0, 6, 1] rfl ?_
        exact sX10_planned_102 C E (fun w x3 x4 x5 x6 => ih w x3 x4 x5 x6) FU w 0
      · refine sm_iload C 0 rfl dX10_planned_177 ?_
        refine sm_iconst C ic_m1 dX10_planned_179 ?_
        refine sm_icmp_ne C dX10_planned_180 (tgt := 191) rfl (fun h_22 => ?_) (fun h_22 => ?_)
        · refine sm_aload_n C 2 rfl dX10_planned_183 rfl ?_
          refine sm_iload_n C 4 rfl dX10_planned_184 rfl ?_
          refine sm_cVI (As := [.int x3]) C cfX10_then wd378 kd_79 rfl rfl rfl rfl rfl dX10_planned_185 (fun r h => mX10_then  h) (fun r_23 => ?_)
          refine sm_goto C dX10_planned_188 (tgt := 192) rfl ?_
          refine sm_sub [2, 3, 5, 0, 6] rfl ?_
          exact sX10_planned_192 C E w x2 x4 (-1) x6 r_23 (fun w x3 x4 x5 x6 => ih w x3 x4 x5 x6)
        · refine sm_iconst C ic_1 dX10_planned_191 ?_
          refine sm_sub [2, 3, 5, 0, 6] rfl ?_
          exact sX10_planned_192 C E w x2 x4 (-1) x6 1 (fun w x3 x4 x5 x6 => ih w x3 x4 x5 x6)
    · refine sm_sub [0, 4] rfl ?_
      exact sX10_planned_218 C E w x5
set_option maxRecDepth 100000 in
set_option maxHeartbeats 4000000 in
theorem mX10_planned {b : Bx} {w : HW} {x1 : Int32} {x2 : Int32} {a : Int32 × HW} (h : fX10_planned w x1 x2 = some a) : Mt b yX10_planned cX10_planned 8 (some .int) 6 137 [.ref (bB b + 79), .int x1, .int x2] w (some (.int a.1)) a.2 := by
  refine Mt.of ρIW h (by decide) (Nat.le_of_ble_eq_true rfl) (fun G hG C E => ?_)
  subst hG
  have C : Cx G cX10_planned RX10 8 6 137 := C
  change Sm G a 0 [(0, .ref (hB G + 79)), (1, .int x1), (2, .int x2)] [] w _
  unfold fX10_planned
  refine sm_aload_n C 0 rfl dX10_planned_0 rfl ?_
  refine sm_iload_n C 1 rfl dX10_planned_1 rfl ?_
  refine sm_cVI (As := [.int x1]) C cfX10_isSide wd341 kd_79 rfl rfl rfl rfl rfl dX10_planned_2 (fun r h => mX10_isSide  h) (fun r_1 => ?_)
  refine sm_if_eq C dX10_planned_5 (tgt := 17) rfl (fun h_3 => ?_) (fun h_3 => ?_)
  · refine sm_aload_n C 0 rfl dX10_planned_8 rfl ?_
    refine sm_iload_n C 2 rfl dX10_planned_9 rfl ?_
    refine sm_i2l C dX10_planned_10 ?_
    refine sm_cVI (As := [.long (x2.toInt64)]) C cfX10_isDay wd343 kd_79 rfl rfl rfl rfl rfl dX10_planned_11 (fun r h => mX10_isDay  h) (fun r_4 => ?_)
    refine sm_if_ne C dX10_planned_14 (tgt := 20) rfl (fun h_6 => ?_) (fun h_6 => ?_)
    · refine sm_bipush C bp_m2 dX10_planned_17 ?_
      exact sm_iret C E rfl dX10_planned_19
    · refine sm_aload_n C 0 rfl dX10_planned_20 rfl ?_
      refine sm_iload_n C 1 rfl dX10_planned_21 rfl ?_
      refine sm_cVIW (As := [.int x1]) C cfX10_layPlans wd386 kd_79 rfl rfl rfl rfl rfl dX10_planned_22 (fun r h => mX10_layPlans  h) (fun r_7 w_8 => ?_)
      refine sm_pop C rfl dX10_planned_25 ?_
      refine sm_aload_n C 0 rfl dX10_planned_26 rfl ?_
      refine sm_getR C fo_10_1 rfl wd297 kd_79 dX10_planned_27 (rv_79_1 w_8) (by decide) ?_
      refine sm_iconst C ic_2 dX10_planned_30 ?_
      refine sm_iald C kd_80 dX10_planned_31 (fun h_9 => ?_)
      refine sm_aload_n C 0 rfl dX10_planned_32 rfl ?_
      refine sm_getR C fo_10_1 rfl wd297 kd_79 dX10_planned_33 (rv_79_1 w_8) (by decide) ?_
      refine sm_iconst C ic_1 dX10_planned_36 ?_
      refine sm_iald C kd_80 dX10_planned_37 (fun h_10 => ?_)
      refine sm_min C wd314 min_st math_in min_co rfl dX10_planned_38 ?_
      refine sm_let (fun x3_11 => ?_)
      refine sm_istore_n (lv1 := [(3, .int x3_11), (0, .ref (hB G + 79)), (1, .int x1), (2, .int x2)]) C dX10_planned_41 rfl rfl rfl ?_
      refine sm_iconst C ic_0 dX10_planned_42 ?_
      refine sm_istore (lv1 := [(4, .int 0), (3, .int x3_11), (0, .ref (hB G + 79)), (1, .int x1), (2, .int x2)]) C dX10_planned_43 rfl rfl ?_
      refine sm_iconst C ic_m1 dX10_planned_45 ?_
      refine sm_istore (lv1 := [(5, .int (-1)), (4, .int 0), (3, .int x3_11), (0, .ref (hB G + 79)), (1, .int x1), (2, .int x2)]) C dX10_planned_46 rfl rfl ?_
      refine sm_iconst C ic_0 dX10_planned_48 ?_
      refine sm_istore (lv1 := [(6, .int 0), (5, .int (-1)), (4, .int 0), (3, .int x3_11), (0, .ref (hB G + 79)), (1, .int x1), (2, .int x2)]) C dX10_planned_49 rfl rfl ?_
      refine sm_sub [4, 6, 3, 2, 1, 0] rfl ?_
      exact sX10_planned_51 C E FU w_8 x3_11 0 (-1) 0
  · refine sm_bipush C bp_m2 dX10_planned_17 ?_
    exact sm_iret C E rfl dX10_planned_19
/-! X10_together -/
set_option maxRecDepth 100000 in
set_option maxHeartbeats 4000000 in
theorem mX10_together {b : Bx} {w : HW} {a : Int32 × HW} (h : fX10_together w = some a) : Mt b yX10_together cX10_together 1 (some .int) 6 137 [.ref (bB b + 79)] w (some (.int a.1)) a.2 := by
  refine Mt.of ρIW h (by decide) (Nat.le_of_ble_eq_true rfl) (fun G hG C E => ?_)
  subst hG
  have C : Cx G cX10_together RX10 1 6 137 := C
  change Sm G a 0 [(0, .ref (hB G + 79))] [] w _
  unfold fX10_together
  refine sm_aload_n C 0 rfl dX10_together_0 rfl ?_
  refine sm_cVI (As := []) C cfX10_isCamp wd299 kd_79 rfl rfl rfl rfl rfl dX10_together_1 (fun r h => mX10_isCamp  h) (fun r_1 => ?_)
  refine sm_if_eq C dX10_together_4 (tgt := 15) rfl (fun h_3 => ?_) (fun h_3 => ?_)
  · refine sm_aload_n C 0 rfl dX10_together_7 rfl ?_
    refine sm_iconst C ic_2 dX10_together_8 ?_
    refine sm_cVIW (As := [.int 2]) C cfX10_layPlans wd386 kd_79 rfl rfl rfl rfl rfl dX10_together_9 (fun r h => mX10_layPlans  h) (fun r_4 w_5 => ?_)
    refine sm_goto C dX10_together_12 (tgt := 17) rfl ?_
    exact sm_iret C E rfl dX10_together_17
  · refine sm_bipush C bp_m2 dX10_together_15 ?_
    exact sm_iret C E rfl dX10_together_17
/-! X10_withoutOf -/
set_option maxRecDepth 100000 in
set_option maxHeartbeats 4000000 in
theorem mX10_withoutOf {b : Bx} {w : HW} {x1 : Int32} {a : Int32 × HW} (h : fX10_withoutOf w x1 = some a) : Mt b yX10_withoutOf cX10_withoutOf 3 (some .int) 6 137 [.ref (bB b + 79), .int x1] w (some (.int a.1)) a.2 := by
  refine Mt.of ρIW h (by decide) (Nat.le_of_ble_eq_true rfl) (fun G hG C E => ?_)
  subst hG
  have C : Cx G cX10_withoutOf RX10 3 6 137 := C
  change Sm G a 0 [(0, .ref (hB G + 79)), (1, .int x1)] [] w _
  unfold fX10_withoutOf
  refine sm_aload_n C 0 rfl dX10_withoutOf_0 rfl ?_
  refine sm_iload_n C 1 rfl dX10_withoutOf_1 rfl ?_
  refine sm_putI C fo_10_32 rfl wd373 kd_79 rfl dX10_withoutOf_2 (fun w_1 => ?_)
  refine sm_aload_n C 0 rfl dX10_withoutOf_5 rfl ?_
  refine sm_aload_n C 0 rfl dX10_withoutOf_6 rfl ?_
  refine sm_iload_n C 1 rfl dX10_withoutOf_7 rfl ?_
  refine sm_iconst C ic_0 dX10_withoutOf_8 ?_
  refine sm_cVI (As := [.int x1, .int 0]) C cfX10_of wd336 kd_79 rfl rfl rfl rfl rfl dX10_withoutOf_9 (fun r h => mX10_of  h) (fun r_2 => ?_)
  refine sm_cVIW (As := [.int r_2]) C cfX10_layPlans wd386 kd_79 rfl rfl rfl rfl rfl dX10_withoutOf_12 (fun r h => mX10_layPlans  h) (fun r_4 w_5 => ?_)
  refine sm_istore_n (lv1 := [(2, .int r_4), (0, .ref (hB G + 79)), (1, .int x1)]) C dX10_withoutOf_15 rfl rfl rfl ?_
  refine sm_aload_n C 1 rfl dX10_withoutOf_16 rfl ?_
  refine sm_iconst C ic_m1 dX10_withoutOf_17 ?_
  refine sm_putI C fo_10_32 rfl wd373 kd_79 rfl dX10_withoutOf_18 (fun w_6 => ?_)
  refine sm_iload_n C 0 rfl dX10_withoutOf_21 rfl ?_
  exact sm_iret C E rfl dX10_withoutOf_22
/-! X10_without -/
set_option maxRecDepth 100000 in
set_option maxHeartbeats 4000000 in
theorem mX10_without {b : Bx} {w : HW} {x1 : Int32} {a : Int32 × HW} (h : fX10_without w x1 = some a) : Mt b yX10_without cX10_without 2 (some .int) 7 159 [.ref (bB b + 79), .int x1] w (some (.int a.1)) a.2 := by
  refine Mt.of ρIW h (by decide) (Nat.le_of_ble_eq_true rfl) (fun G hG C E => ?_)
  subst hG
  have C : Cx G cX10_without RX10 2 7 159 := C
  change Sm G a 0 [(0, .ref (hB G + 79)), (1, .int x1)] [] w _
  unfold fX10_without
  refine sm_aload_n C 0 rfl dX10_without_0 rfl ?_
  refine sm_iload_n C 1 rfl dX10_without_1 rfl ?_
  refine sm_cVI (As := [.int x1]) C cfX10_isBill wd335 kd_79 rfl rfl rfl rfl rfl dX10_without_2 (fun r h => mX10_isBill  h) (fun r_1 => ?_)
  refine sm_if_eq C dX10_without_5 (tgt := 16) rfl (fun h_3 => ?_) (fun h_3 => ?_)
  · refine sm_aload_n C 0 rfl dX10_without_8 rfl ?_
    refine sm_iload_n C 1 rfl dX10_without_9 rfl ?_
    refine sm_cVIW (As := [.int x1]) C cfX10_withoutOf wd387 kd_79 rfl rfl rfl rfl rfl dX10_without_10 (fun r h => mX10_withoutOf  h) (fun r_4 w_5 => ?_)
    refine sm_goto C dX10_without_13 (tgt := 18) rfl ?_
    exact sm_iret C E rfl dX10_without_18
  · refine sm_bipush C bp_m2 dX10_without_16 ?_
    exact sm_iret C E rfl dX10_without_18
/-! X10_value -/
set_option maxRecDepth 100000 in
set_option maxHeartbeats 4000000 in
theorem mX10_value {b : Bx} {w : HW} {x1 : Int32} {a : Int32 × HW} (h : fX10_value w x1 = some a) : Mt b yX10_value cX10_value 2 (some .int) 7 159 [.ref (bB b + 79), .int x1] w (some (.int a.1)) a.2 := by
  refine Mt.of ρIW h (by decide) (Nat.le_of_ble_eq_true rfl) (fun G hG C E => ?_)
  subst hG
  have C : Cx G cX10_value RX10 2 7 159 := C
  change Sm G a 0 [(0, .ref (hB G + 79)), (1, .int x1)] [] w _
  unfold fX10_value
  refine sm_aload_n C 0 rfl dX10_value_0 rfl ?_
  refine sm_iload_n C 1 rfl dX10_value_1 rfl ?_
  refine sm_cVI (As := [.int x1]) C cfX10_isBill wd335 kd_79 rfl rfl rfl rfl rfl dX10_value_2 (fun r h => mX10_isBill  h) (fun r_1 => ?_)
  refine sm_if_eq C dX10_value_5 (tgt := 27) rfl (fun h_3 => ?_) (fun h_3 => ?_)
  · refine sm_aload_n C 0 rfl dX10_value_8 rfl ?_
    refine sm_aload_n C 0 rfl dX10_value_9 rfl ?_
    refine sm_iload_n C 1 rfl dX10_value_10 rfl ?_
    refine sm_iconst C ic_0 dX10_value_11 ?_
    refine sm_cVI (As := [.int x1, .int 0]) C cfX10_of wd336 kd_79 rfl rfl rfl rfl rfl dX10_value_12 (fun r h => mX10_of  h) (fun r_4 => ?_)
    refine sm_cVIW (As := [.int r_4]) C cfX10_layPlans wd386 kd_79 rfl rfl rfl rfl rfl dX10_value_15 (fun r h => mX10_layPlans  h) (fun r_6 w_7 => ?_)
    refine sm_aload_n C 0 rfl dX10_value_18 rfl ?_
    refine sm_iload_n C 1 rfl dX10_value_19 rfl ?_
    refine sm_cVIW (As := [.int x1]) C cfX10_withoutOf wd387 kd_79 rfl rfl rfl rfl rfl dX10_value_20 (fun r h => mX10_withoutOf  h) (fun r_8 w_9 => ?_)
    refine sm_isub C dX10_value_23 ?_
    refine sm_goto C dX10_value_24 (tgt := 29) rfl ?_
    exact sm_iret C E rfl dX10_value_29
  · refine sm_bipush C bp_m2 dX10_value_27 ?_
    exact sm_iret C E rfl dX10_value_29
/-! X10_needsOf -/
set_option maxRecDepth 100000 in
set_option maxHeartbeats 4000000 in
theorem sX10_needsOf_9 {G : Gx} {a : Int32} {w : HW} (C : Cx G cX10_needsOf RX10 4 1 22) (E : Rx G (ρI w) a (some .int)) : ∀ (n : Nat) (x2 : Int32) (x3 : Int32), Sm G a 9 [(0, .ref (hB G + 79)), (2, .int x2), (3, .int x3)] [] w (fX10_needsOf_9 w n x2 x3) := by
  intro n
  induction n with
  | zero => intro _ _; exact sm_none
  | succ n ih =>
    intro x2 x3
    rw [fX10_needsOf_9]
    refine sm_iload_n C 2 rfl dX10_needsOf_9 rfl ?_
    refine sm_iconst C ic_m1 dX10_needsOf_10 ?_
    refine sm_icmp_eq C dX10_needsOf_11 (tgt := 30) rfl (fun h_3 => ?_) (fun h_3 => ?_)
    · refine sm_iload_n C 1 rfl dX10_needsOf_14 rfl ?_
      refine sm_iconst C ic_1 dX10_needsOf_15 ?_
      refine sm_iload_n C 2 rfl dX10_needsOf_16 rfl ?_
      refine sm_ishl C dX10_needsOf_17 ?_
      refine sm_ior C dX10_needsOf_18 ?_
      refine sm_let (fun x2_4 => ?_)
      refine sm_istore_n (lv1 := [(2, .int x2_4), (0, .ref (hB G + 79)), (3, .int x3)]) C dX10_needsOf_19 rfl rfl rfl ?_
      refine sm_aload_n C 1 rfl dX10_needsOf_20 rfl ?_
      refine sm_iload_n C 2 rfl dX10_needsOf_21 rfl ?_
      refine sm_iconst C ic_2 dX10_needsOf_22 ?_
      refine sm_cVI (As := [.int x3, .int 2]) C cfX10_of wd336 kd_79 rfl rfl rfl rfl rfl dX10_needsOf_23 (fun r h => mX10_of  h) (fun r_5 => ?_)
      refine sm_istore_n (lv1 := [(3, .int r_5), (2, .int x2_4), (0, .ref (hB G + 79))]) C dX10_needsOf_26 rfl rfl rfl ?_
      refine sm_goto C dX10_needsOf_27 (tgt := 9) rfl ?_
      refine sm_sub [2, 1, 0] rfl ?_
      exact ih x2_4 r_5
    · refine sm_iload_n C 1 rfl dX10_needsOf_30 rfl ?_
      exact sm_iret C E rfl dX10_needsOf_31
set_option maxRecDepth 100000 in
set_option maxHeartbeats 4000000 in
theorem mX10_needsOf {b : Bx} {w : HW} {x1 : Int32} {a : Int32} (h : fX10_needsOf w x1 = some a) : Mt b yX10_needsOf cX10_needsOf 4 (some .int) 1 22 [.ref (bB b + 79), .int x1] w (some (.int a)) w := by
  refine Mt.of (ρI w) h (by decide) (Nat.le_of_ble_eq_true rfl) (fun G hG C E => ?_)
  subst hG
  have C : Cx G cX10_needsOf RX10 4 1 22 := C
  change Sm G a 0 [(0, .ref (hB G + 79)), (1, .int x1)] [] w _
  unfold fX10_needsOf
  refine sm_iconst C ic_0 dX10_needsOf_0 ?_
  refine sm_istore_n (lv1 := [(2, .int 0), (0, .ref (hB G + 79)), (1, .int x1)]) C dX10_needsOf_1 rfl rfl rfl ?_
  refine sm_aload_n C 1 rfl dX10_needsOf_2 rfl ?_
  refine sm_iload_n C 2 rfl dX10_needsOf_3 rfl ?_
  refine sm_iconst C ic_2 dX10_needsOf_4 ?_
  refine sm_cVI (As := [.int x1, .int 2]) C cfX10_of wd336 kd_79 rfl rfl rfl rfl rfl dX10_needsOf_5 (fun r h => mX10_of  h) (fun r_1 => ?_)
  refine sm_istore_n (lv1 := [(3, .int r_1), (2, .int 0), (0, .ref (hB G + 79)), (1, .int x1)]) C dX10_needsOf_8 rfl rfl rfl ?_
  refine sm_sub [2, 1, 0] rfl ?_
  exact sX10_needsOf_9 C E FU 0 r_1
/-! X10_needs_ -/
set_option maxRecDepth 100000 in
set_option maxHeartbeats 4000000 in
theorem mX10_needs_ {b : Bx} {w : HW} {x1 : Int32} {a : Int32} (h : fX10_needs_ w x1 = some a) : Mt b yX10_needs_ cX10_needs_ 2 (some .int) 2 46 [.ref (bB b + 79), .int x1] w (some (.int a)) w := by
  refine Mt.of (ρI w) h (by decide) (Nat.le_of_ble_eq_true rfl) (fun G hG C E => ?_)
  subst hG
  have C : Cx G cX10_needs_ RX10 2 2 46 := C
  change Sm G a 0 [(0, .ref (hB G + 79)), (1, .int x1)] [] w _
  unfold fX10_needs_
  refine sm_aload_n C 0 rfl dX10_needs__0 rfl ?_
  refine sm_iload_n C 1 rfl dX10_needs__1 rfl ?_
  refine sm_cVI (As := [.int x1]) C cfX10_isBill wd335 kd_79 rfl rfl rfl rfl rfl dX10_needs__2 (fun r h => mX10_isBill  h) (fun r_1 => ?_)
  refine sm_if_eq C dX10_needs__5 (tgt := 16) rfl (fun h_3 => ?_) (fun h_3 => ?_)
  · refine sm_aload_n C 0 rfl dX10_needs__8 rfl ?_
    refine sm_iload_n C 1 rfl dX10_needs__9 rfl ?_
    refine sm_cVI (As := [.int x1]) C cfX10_needsOf wd388 kd_79 rfl rfl rfl rfl rfl dX10_needs__10 (fun r h => mX10_needsOf  h) (fun r_4 => ?_)
    refine sm_goto C dX10_needs__13 (tgt := 18) rfl ?_
    exact sm_iret C E rfl dX10_needs__18
  · refine sm_bipush C bp_m2 dX10_needs__16 ?_
    exact sm_iret C E rfl dX10_needs__18
/-! X10_heirs -/
set_option maxRecDepth 100000 in
set_option maxHeartbeats 4000000 in
theorem sX10_heirs_15 {G : Gx} {a : Int32} {w : HW} (C : Cx G cX10_heirs RX10 4 2 46) (E : Rx G (ρI w) a (some .int)) {x1 : Int32} : ∀ (n : Nat) (x2 : Int32) (x3 : Int32), Sm G a 15 [(0, .ref (hB G + 79)), (1, .int x1), (2, .int x2), (3, .int x3)] [] w (fX10_heirs_15 w x1 n x2 x3) := by
  intro n
  induction n with
  | zero => intro _ _; exact sm_none
  | succ n ih =>
    intro x2 x3
    rw [fX10_heirs_15]
    refine sm_iload_n C 3 rfl dX10_heirs_15 rfl ?_
    refine sm_aload_n C 0 rfl dX10_heirs_16 rfl ?_
    refine sm_getR C fo_10_1 rfl wd297 kd_79 dX10_heirs_17 (rv_79_1 w) (by decide) ?_
    refine sm_iconst C ic_5 dX10_heirs_20 ?_
    refine sm_iald C kd_80 dX10_heirs_21 (fun h_4 => ?_)
    refine sm_icmp_ge C dX10_heirs_22 (tgt := 45) rfl (fun h_5 => ?_) (fun h_5 => ?_)
    · refine sm_iload_n C 2 rfl dX10_heirs_25 rfl ?_
      refine sm_aload_n C 0 rfl dX10_heirs_26 rfl ?_
      refine sm_iload_n C 3 rfl dX10_heirs_27 rfl ?_
      refine sm_cVI (As := [.int x3]) C cfX10_needsOf wd388 kd_79 rfl rfl rfl rfl rfl dX10_heirs_28 (fun r h => mX10_needsOf  h) (fun r_6 => ?_)
      refine sm_iload_n C 1 rfl dX10_heirs_31 rfl ?_
      refine sm_cSI (As := [.int r_6, .int x1]) C cfX10_bit wd337 rfl rfl rfl rfl dX10_heirs_32 (fun r h => mX10_bit  h) (fun r_8 => ?_)
      refine sm_iload_n C 3 rfl dX10_heirs_35 rfl ?_
      refine sm_ishl C dX10_heirs_36 ?_
      refine sm_ior C dX10_heirs_37 ?_
      refine sm_let (fun x2_10 => ?_)
      refine sm_istore_n (lv1 := [(2, .int x2_10), (0, .ref (hB G + 79)), (1, .int x1), (3, .int x3)]) C dX10_heirs_38 rfl rfl rfl ?_
      refine sm_iinc (lv1 := [(3, .int (x3 + 1)), (2, .int x2_10), (0, .ref (hB G + 79)), (1, .int x1)]) C 3 rfl (iv_1 _) dX10_heirs_39 rfl rfl ?_
      refine sm_goto C dX10_heirs_42 (tgt := 15) rfl ?_
      refine sm_sub [2, 3, 1, 0] rfl ?_
      exact ih x2_10 (x3 + 1)
    · refine sm_iload_n C 2 rfl dX10_heirs_45 rfl ?_
      exact sm_iret C E rfl dX10_heirs_46
set_option maxRecDepth 100000 in
set_option maxHeartbeats 4000000 in
theorem mX10_heirs {b : Bx} {w : HW} {x1 : Int32} {a : Int32} (h : fX10_heirs w x1 = some a) : Mt b yX10_heirs cX10_heirs 4 (some .int) 2 46 [.ref (bB b + 79), .int x1] w (some (.int a)) w := by
  refine Mt.of (ρI w) h (by decide) (Nat.le_of_ble_eq_true rfl) (fun G hG C E => ?_)
  subst hG
  have C : Cx G cX10_heirs RX10 4 2 46 := C
  change Sm G a 0 [(0, .ref (hB G + 79)), (1, .int x1)] [] w _
  unfold fX10_heirs
  refine sm_aload_n C 0 rfl dX10_heirs_0 rfl ?_
  refine sm_iload_n C 1 rfl dX10_heirs_1 rfl ?_
  refine sm_cVI (As := [.int x1]) C cfX10_isBill wd335 kd_79 rfl rfl rfl rfl rfl dX10_heirs_2 (fun r h => mX10_isBill  h) (fun r_1 => ?_)
  refine sm_if_ne C dX10_heirs_5 (tgt := 11) rfl (fun h_3 => ?_) (fun h_3 => ?_)
  · refine sm_bipush C bp_m2 dX10_heirs_8 ?_
    exact sm_iret C E rfl dX10_heirs_10
  · refine sm_iconst C ic_0 dX10_heirs_11 ?_
    refine sm_istore_n (lv1 := [(2, .int 0), (0, .ref (hB G + 79)), (1, .int x1)]) C dX10_heirs_12 rfl rfl rfl ?_
    refine sm_iconst C ic_0 dX10_heirs_13 ?_
    refine sm_istore_n (lv1 := [(3, .int 0), (2, .int 0), (0, .ref (hB G + 79)), (1, .int x1)]) C dX10_heirs_14 rfl rfl rfl ?_
    refine sm_sub [2, 3, 1, 0] rfl ?_
    exact sX10_heirs_15 C E FU 0 0
/-! X10_deepest -/
set_option maxRecDepth 100000 in
set_option maxHeartbeats 4000000 in
theorem sX10_deepest_16 {G : Gx} {a : Int32} {w : HW} (C : Cx G cX10_deepest RX10 5 2 45) (E : Rx G (ρI w) a (some .int)) : ∀ (n : Nat) (x1 : Int32) (x2 : Int32) (x3 : Int32), Sm G a 16 [(0, .ref (hB G + 79)), (1, .int x1), (2, .int x2), (3, .int x3)] [] w (fX10_deepest_16 w n x1 x2 x3) := by
  intro n
  induction n with
  | zero => intro _ _ _; exact sm_none
  | succ n ih =>
    intro x1 x2 x3
    rw [fX10_deepest_16]
    refine sm_iload_n C 3 rfl dX10_deepest_16 rfl ?_
    refine sm_aload_n C 0 rfl dX10_deepest_17 rfl ?_
    refine sm_getR C fo_10_1 rfl wd297 kd_79 dX10_deepest_18 (rv_79_1 w) (by decide) ?_
    refine sm_iconst C ic_5 dX10_deepest_21 ?_
    refine sm_iald C kd_80 dX10_deepest_22 (fun h_4 => ?_)
    refine sm_icmp_ge C dX10_deepest_23 (tgt := 56) rfl (fun h_5 => ?_) (fun h_5 => ?_)
    · refine sm_aload_n C 0 rfl dX10_deepest_26 rfl ?_
      refine sm_iload_n C 3 rfl dX10_deepest_27 rfl ?_
      refine sm_cVI (As := [.int x3]) C cfX10_needsOf wd388 kd_79 rfl rfl rfl rfl rfl dX10_deepest_28 (fun r h => mX10_needsOf  h) (fun r_6 => ?_)
      refine sm_cSI (As := [.int r_6]) C cfX10_bits wd389 rfl rfl rfl rfl dX10_deepest_31 (fun r h => mX10_bits  h) (fun r_8 => ?_)
      refine sm_istore (lv1 := [(4, .int r_8), (0, .ref (hB G + 79)), (1, .int x1), (2, .int x2), (3, .int x3)]) C dX10_deepest_34 rfl rfl ?_
      refine sm_iload C 0 rfl dX10_deepest_36 ?_
      refine sm_iload_n C 3 rfl dX10_deepest_38 rfl ?_
      refine sm_icmp_gt C dX10_deepest_39 (tgt := 45) rfl (fun h_10 => ?_) (fun h_10 => ?_)
      · refine sm_goto C dX10_deepest_42 (tgt := 50) rfl ?_
        refine sm_iinc (lv1 := [(3, .int (x3 + 1)), (4, .int r_8), (0, .ref (hB G + 79)), (1, .int x1), (2, .int x2)]) C 4 rfl (iv_1 _) dX10_deepest_50 rfl rfl ?_
        refine sm_goto C dX10_deepest_53 (tgt := 16) rfl ?_
        refine sm_sub [2, 3, 4, 0] rfl ?_
        exact ih x1 x2 (x3 + 1)
      · refine sm_iload C 0 rfl dX10_deepest_45 ?_
        refine sm_istore_n (lv1 := [(2, .int r_8), (4, .int r_8), (0, .ref (hB G + 79)), (1, .int x1), (3, .int x3)]) C dX10_deepest_47 rfl rfl rfl ?_
        refine sm_iload_n C 4 rfl dX10_deepest_48 rfl ?_
        refine sm_istore_n (lv1 := [(1, .int x3), (2, .int r_8), (4, .int r_8), (0, .ref (hB G + 79)), (3, .int x3)]) C dX10_deepest_49 rfl rfl rfl ?_
        refine sm_iinc (lv1 := [(3, .int (x3 + 1)), (1, .int x3), (2, .int r_8), (4, .int r_8), (0, .ref (hB G + 79))]) C 4 rfl (iv_1 _) dX10_deepest_50 rfl rfl ?_
        refine sm_goto C dX10_deepest_53 (tgt := 16) rfl ?_
        refine sm_sub [4, 1, 2, 0] rfl ?_
        exact ih x3 r_8 (x3 + 1)
    · refine sm_iload_n C 1 rfl dX10_deepest_56 rfl ?_
      exact sm_iret C E rfl dX10_deepest_57
set_option maxRecDepth 100000 in
set_option maxHeartbeats 4000000 in
theorem mX10_deepest {b : Bx} {w : HW} {a : Int32} (h : fX10_deepest w = some a) : Mt b yX10_deepest cX10_deepest 5 (some .int) 2 45 [.ref (bB b + 79)] w (some (.int a)) w := by
  refine Mt.of (ρI w) h (by decide) (Nat.le_of_ble_eq_true rfl) (fun G hG C E => ?_)
  subst hG
  have C : Cx G cX10_deepest RX10 5 2 45 := C
  change Sm G a 0 [(0, .ref (hB G + 79))] [] w _
  unfold fX10_deepest
  refine sm_aload_n C 0 rfl dX10_deepest_0 rfl ?_
  refine sm_cVI (As := []) C cfX10_isCamp wd299 kd_79 rfl rfl rfl rfl rfl dX10_deepest_1 (fun r h => mX10_isCamp  h) (fun r_1 => ?_)
  refine sm_if_ne C dX10_deepest_4 (tgt := 10) rfl (fun h_3 => ?_) (fun h_3 => ?_)
  · refine sm_bipush C bp_m2 dX10_deepest_7 ?_
    exact sm_iret C E rfl dX10_deepest_9
  · refine sm_iconst C ic_m1 dX10_deepest_10 ?_
    refine sm_istore_n (lv1 := [(1, .int (-1)), (0, .ref (hB G + 79))]) C dX10_deepest_11 rfl rfl rfl ?_
    refine sm_iconst C ic_0 dX10_deepest_12 ?_
    refine sm_istore_n (lv1 := [(2, .int 0), (1, .int (-1)), (0, .ref (hB G + 79))]) C dX10_deepest_13 rfl rfl rfl ?_
    refine sm_iconst C ic_0 dX10_deepest_14 ?_
    refine sm_istore_n (lv1 := [(3, .int 0), (2, .int 0), (1, .int (-1)), (0, .ref (hB G + 79))]) C dX10_deepest_15 rfl rfl rfl ?_
    refine sm_sub [3, 2, 1, 0] rfl ?_
    exact sX10_deepest_16 C E FU (-1) 0 0
/-! X10_soonestBy -/
set_option maxRecDepth 100000 in
set_option maxHeartbeats 4000000 in
theorem sX10_soonestBy_68 {G : Gx} {a : Int32} {w : HW} (C : Cx G cX10_soonestBy RX10 5 1 22) (E : Rx G (ρI w) a (some .int)) {x2 : Int32} : ∀ (n : Nat) (x3 : Int32) (x4 : Int32), Sm G a 68 [(0, .ref (hB G + 79)), (2, .int x2), (3, .int x3), (4, .int x4)] [] w (fX10_soonestBy_68 w x2 n x3 x4) := by
  intro n
  induction n with
  | zero => intro _ _; exact sm_none
  | succ n ih =>
    intro x3 x4
    rw [fX10_soonestBy_68]
    refine sm_iload C 3 rfl dX10_soonestBy_68 ?_
    refine sm_aload_n C 0 rfl dX10_soonestBy_70 rfl ?_
    refine sm_getR C fo_10_1 rfl wd297 kd_79 dX10_soonestBy_71 (rv_79_1 w) (by decide) ?_
    refine sm_iconst C ic_0 dX10_soonestBy_74 ?_
    refine sm_iald C kd_80 dX10_soonestBy_75 (fun h_14 => ?_)
    refine sm_icmp_ge C dX10_soonestBy_76 (tgt := 118) rfl (fun h_15 => ?_) (fun h_15 => ?_)
    · refine sm_iload_n C 1 rfl dX10_soonestBy_79 rfl ?_
      refine sm_iload C 3 rfl dX10_soonestBy_80 ?_
      refine sm_cSI (As := [.int x2, .int x4]) C cfX10_bit wd337 rfl rfl rfl rfl dX10_soonestBy_82 (fun r h => mX10_bit  h) (fun r_16 => ?_)
      refine sm_if_ne C dX10_soonestBy_85 (tgt := 94) rfl (fun h_18 => ?_) (fun h_18 => ?_)
      · refine sm_iinc (lv1 := [(4, .int (x4 + 1)), (0, .ref (hB G + 79)), (2, .int x2), (3, .int x3)]) C 3 rfl (iv_1 _) dX10_soonestBy_88 rfl rfl ?_
        refine sm_goto C dX10_soonestBy_91 (tgt := 68) rfl ?_
        refine sm_sub [1, 2, 3, 0] rfl ?_
        exact ih x3 (x4 + 1)
      · refine sm_iinc (lv1 := [(3, .int (x3 + (-1))), (0, .ref (hB G + 79)), (2, .int x2), (4, .int x4)]) C 2 rfl (iv_m1 _) dX10_soonestBy_94 rfl rfl ?_
        refine sm_iload_n C 0 rfl dX10_soonestBy_97 rfl ?_
        refine sm_if_ne C dX10_soonestBy_98 (tgt := 104) rfl (fun h_19 => ?_) (fun h_19 => ?_)
        · refine sm_iload C 3 rfl dX10_soonestBy_101 ?_
          exact sm_iret C E rfl dX10_soonestBy_103
        · refine sm_iload C 3 rfl dX10_soonestBy_104 ?_
          refine sm_aload_n C 1 rfl dX10_soonestBy_106 rfl ?_
          refine sm_getR C fo_10_1 rfl wd297 kd_79 dX10_soonestBy_107 (rv_79_1 w) (by decide) ?_
          refine sm_iconst C ic_2 dX10_soonestBy_110 ?_
          refine sm_iald C kd_80 dX10_soonestBy_111 (fun h_20 => ?_)
          refine sm_iadd C dX10_soonestBy_112 ?_
          refine sm_let (fun x4_21 => ?_)
          refine sm_istore (lv1 := [(4, .int x4_21), (3, .int (x3 + (-1))), (0, .ref (hB G + 79)), (2, .int x2)]) C dX10_soonestBy_113 rfl rfl ?_
          refine sm_goto C dX10_soonestBy_115 (tgt := 68) rfl ?_
          refine sm_sub [2, 3, 1, 0] rfl ?_
          exact ih (x3 + (-1)) x4_21
    · refine sm_iconst C ic_m1 dX10_soonestBy_118 ?_
      exact sm_iret C E rfl dX10_soonestBy_119
set_option maxRecDepth 100000 in
set_option maxHeartbeats 4000000 in
theorem sX10_soonestBy_49 {G : Gx} {a : Int32} {w : HW} (C : Cx G cX10_soonestBy RX10 5 1 22) (E : Rx G (ρI w) a (some .int)) (x2 : Int32) (x3 : Int32) : Sm G a 49 [(0, .ref (hB G + 79)), (2, .int x2), (3, .int x3)] [] w (fX10_soonestBy_49 w x2 x3) := by
  unfold fX10_soonestBy_49
  refine sm_iconst C ic_0 dX10_soonestBy_49 ?_
  refine sm_aload_n C 0 rfl dX10_soonestBy_50 rfl ?_
  refine sm_getR C fo_10_1 rfl wd297 kd_79 dX10_soonestBy_51 (rv_79_1 w) (by decide) ?_
  refine sm_iconst C ic_2 dX10_soonestBy_54 ?_
  refine sm_iald C kd_80 dX10_soonestBy_55 (fun h_11 => ?_)
  refine sm_aload_n C 0 rfl dX10_soonestBy_56 rfl ?_
  refine sm_getR C fo_10_1 rfl wd297 kd_79 dX10_soonestBy_57 (rv_79_1 w) (by decide) ?_
  refine sm_iconst C ic_1 dX10_soonestBy_60 ?_
  refine sm_iald C kd_80 dX10_soonestBy_61 (fun h_12 => ?_)
  refine sm_isub C dX10_soonestBy_62 ?_
  refine sm_max C wd365 max_st math_in max_co rfl dX10_soonestBy_63 ?_
  refine sm_let (fun x4_13 => ?_)
  refine sm_istore (lv1 := [(4, .int x4_13), (0, .ref (hB G + 79)), (2, .int x2), (3, .int x3)]) C dX10_soonestBy_66 rfl rfl ?_
  refine sm_sub [1, 2, 3, 0] rfl ?_
  exact sX10_soonestBy_68 C E FU x3 x4_13
set_option maxRecDepth 100000 in
set_option maxHeartbeats 4000000 in
theorem sX10_soonestBy_10 {G : Gx} {a : Int32} {w : HW} (C : Cx G cX10_soonestBy RX10 5 1 22) (E : Rx G (ρI w) a (some .int)) {x1 : Int32} {x2 : Int32} : ∀ (n : Nat) (x3 : Int32) (x4 : Int32), Sm G a 10 [(0, .ref (hB G + 79)), (1, .int x1), (2, .int x2), (3, .int x3), (4, .int x4)] [] w (fX10_soonestBy_10 w x1 x2 n x3 x4) := by
  intro n
  induction n with
  | zero => intro _ _; exact sm_none
  | succ n ih =>
    intro x3 x4
    rw [fX10_soonestBy_10]
    refine sm_iload C 4 rfl dX10_soonestBy_10 ?_
    refine sm_iconst C ic_m1 dX10_soonestBy_12 ?_
    refine sm_icmp_eq C dX10_soonestBy_13 (tgt := 49) rfl (fun h_3 => ?_) (fun h_3 => ?_)
    · refine sm_aload_n C 0 rfl dX10_soonestBy_16 rfl ?_
      refine sm_iload C 4 rfl dX10_soonestBy_17 ?_
      refine sm_iconst C ic_0 dX10_soonestBy_19 ?_
      refine sm_cVI (As := [.int x4, .int 0]) C cfX10_of wd336 kd_79 rfl rfl rfl rfl rfl dX10_soonestBy_20 (fun r h => mX10_of  h) (fun r_4 => ?_)
      refine sm_aload_n C 0 rfl dX10_soonestBy_23 rfl ?_
      refine sm_iload_n C 1 rfl dX10_soonestBy_24 rfl ?_
      refine sm_iconst C ic_0 dX10_soonestBy_25 ?_
      refine sm_cVI (As := [.int x1, .int 0]) C cfX10_of wd336 kd_79 rfl rfl rfl rfl rfl dX10_soonestBy_26 (fun r h => mX10_of  h) (fun r_6 => ?_)
      refine sm_icmp_eq C dX10_soonestBy_29 (tgt := 34) rfl (fun h_8 => ?_) (fun h_8 => ?_)
      · refine sm_iconst C ic_m1 dX10_soonestBy_32 ?_
        exact sm_iret C E rfl dX10_soonestBy_33
      · refine sm_iinc (lv1 := [(3, .int (x3 + 1)), (0, .ref (hB G + 79)), (1, .int x1), (2, .int x2), (4, .int x4)]) C 3 rfl (iv_1 _) dX10_soonestBy_34 rfl rfl ?_
        refine sm_aload_n C 1 rfl dX10_soonestBy_37 rfl ?_
        refine sm_iload C 4 rfl dX10_soonestBy_38 ?_
        refine sm_iconst C ic_2 dX10_soonestBy_40 ?_
        refine sm_cVI (As := [.int x4, .int 2]) C cfX10_of wd336 kd_79 rfl rfl rfl rfl rfl dX10_soonestBy_41 (fun r h => mX10_of  h) (fun r_9 => ?_)
        refine sm_istore (lv1 := [(4, .int r_9), (3, .int (x3 + 1)), (0, .ref (hB G + 79)), (1, .int x1), (2, .int x2)]) C dX10_soonestBy_44 rfl rfl ?_
        refine sm_goto C dX10_soonestBy_46 (tgt := 10) rfl ?_
        refine sm_sub [2, 3, 4, 1, 0] rfl ?_
        exact ih (x3 + 1) r_9
    · refine sm_sub [0, 2, 3] rfl ?_
      exact sX10_soonestBy_49 C E x2 x3
set_option maxRecDepth 100000 in
set_option maxHeartbeats 4000000 in
theorem mX10_soonestBy {b : Bx} {w : HW} {x1 : Int32} {x2 : Int32} {a : Int32} (h : fX10_soonestBy w x1 x2 = some a) : Mt b yX10_soonestBy cX10_soonestBy 5 (some .int) 1 22 [.ref (bB b + 79), .int x1, .int x2] w (some (.int a)) w := by
  refine Mt.of (ρI w) h (by decide) (Nat.le_of_ble_eq_true rfl) (fun G hG C E => ?_)
  subst hG
  have C : Cx G cX10_soonestBy RX10 5 1 22 := C
  change Sm G a 0 [(0, .ref (hB G + 79)), (1, .int x1), (2, .int x2)] [] w _
  unfold fX10_soonestBy
  refine sm_iconst C ic_1 dX10_soonestBy_0 ?_
  refine sm_istore_n (lv1 := [(3, .int 1), (0, .ref (hB G + 79)), (1, .int x1), (2, .int x2)]) C dX10_soonestBy_1 rfl rfl rfl ?_
  refine sm_aload_n C 1 rfl dX10_soonestBy_2 rfl ?_
  refine sm_iload_n C 2 rfl dX10_soonestBy_3 rfl ?_
  refine sm_iconst C ic_2 dX10_soonestBy_4 ?_
  refine sm_cVI (As := [.int x1, .int 2]) C cfX10_of wd336 kd_79 rfl rfl rfl rfl rfl dX10_soonestBy_5 (fun r h => mX10_of  h) (fun r_1 => ?_)
  refine sm_istore (lv1 := [(4, .int r_1), (3, .int 1), (0, .ref (hB G + 79)), (1, .int x1), (2, .int x2)]) C dX10_soonestBy_8 rfl rfl ?_
  refine sm_sub [2, 3, 4, 1, 0] rfl ?_
  exact sX10_soonestBy_10 C E FU 1 r_1
/-! X10_latest -/
set_option maxRecDepth 100000 in
set_option maxHeartbeats 4000000 in
theorem sX10_latest_35 {G : Gx} {a : Int32} {w : HW} (C : Cx G cX10_latest RX10 6 4 91) (E : Rx G (ρI w) a (some .int)) {x2 : Int32} {x3 : Int32} : ∀ (n : Nat) (x4 : Int32) (x5 : Int32), Sm G a 35 [(0, .ref (hB G + 79)), (2, .int x2), (3, .int x3), (4, .int x4), (5, .int x5)] [] w (fX10_latest_35 w x2 x3 n x4 x5) := by
  intro n
  induction n with
  | zero => intro _ _; exact sm_none
  | succ n ih =>
    intro x4 x5
    rw [fX10_latest_35]
    refine sm_iload C 4 rfl dX10_latest_35 ?_
    refine sm_aload_n C 0 rfl dX10_latest_37 rfl ?_
    refine sm_getR C fo_10_1 rfl wd297 kd_79 dX10_latest_38 (rv_79_1 w) (by decide) ?_
    refine sm_iconst C ic_0 dX10_latest_41 ?_
    refine sm_iald C kd_80 dX10_latest_42 (fun h_10 => ?_)
    refine sm_icmp_ge C dX10_latest_43 (tgt := 82) rfl (fun h_11 => ?_) (fun h_11 => ?_)
    · refine sm_iload_n C 2 rfl dX10_latest_46 rfl ?_
      refine sm_iconst C ic_m1 dX10_latest_47 ?_
      refine sm_icmp_eq C dX10_latest_48 (tgt := 82) rfl (fun h_12 => ?_) (fun h_12 => ?_)
      · refine sm_iload C 4 rfl dX10_latest_51 ?_
        refine sm_iload_n C 2 rfl dX10_latest_53 rfl ?_
        refine sm_icmp_lt C dX10_latest_54 (tgt := 72) rfl (fun h_13 => ?_) (fun h_13 => ?_)
        · refine sm_iload_n C 1 rfl dX10_latest_57 rfl ?_
          refine sm_iload C 4 rfl dX10_latest_58 ?_
          refine sm_cSI (As := [.int x2, .int x5]) C cfX10_bit wd337 rfl rfl rfl rfl dX10_latest_60 (fun r h => mX10_bit  h) (fun r_14 => ?_)
          refine sm_iconst C ic_1 dX10_latest_63 ?_
          refine sm_icmp_ne C dX10_latest_64 (tgt := 72) rfl (fun h_16 => ?_) (fun h_16 => ?_)
          · refine sm_iload C 4 rfl dX10_latest_67 ?_
            refine sm_goto C dX10_latest_69 (tgt := 74) rfl ?_
            refine sm_istore (lv1 := [(4, .int x5), (0, .ref (hB G + 79)), (2, .int x2), (3, .int x3), (5, .int x5)]) C dX10_latest_74 rfl rfl ?_
            refine sm_iinc (lv1 := [(5, .int (x5 + 1)), (4, .int x5), (0, .ref (hB G + 79)), (2, .int x2), (3, .int x3)]) C 4 rfl (iv_1 _) dX10_latest_76 rfl rfl ?_
            refine sm_goto C dX10_latest_79 (tgt := 35) rfl ?_
            refine sm_sub [2, 3, 4, 1, 0] rfl ?_
            exact ih x5 (x5 + 1)
          · refine sm_iload C 3 rfl dX10_latest_72 ?_
            refine sm_istore (lv1 := [(4, .int x4), (0, .ref (hB G + 79)), (2, .int x2), (3, .int x3), (5, .int x5)]) C dX10_latest_74 rfl rfl ?_
            refine sm_iinc (lv1 := [(5, .int (x5 + 1)), (4, .int x4), (0, .ref (hB G + 79)), (2, .int x2), (3, .int x3)]) C 4 rfl (iv_1 _) dX10_latest_76 rfl rfl ?_
            refine sm_goto C dX10_latest_79 (tgt := 35) rfl ?_
            refine sm_sub [2, 3, 4, 1, 0] rfl ?_
            exact ih x4 (x5 + 1)
        · refine sm_iload C 3 rfl dX10_latest_72 ?_
          refine sm_istore (lv1 := [(4, .int x4), (0, .ref (hB G + 79)), (2, .int x2), (3, .int x3), (5, .int x5)]) C dX10_latest_74 rfl rfl ?_
          refine sm_iinc (lv1 := [(5, .int (x5 + 1)), (4, .int x4), (0, .ref (hB G + 79)), (2, .int x2), (3, .int x3)]) C 4 rfl (iv_1 _) dX10_latest_76 rfl rfl ?_
          refine sm_goto C dX10_latest_79 (tgt := 35) rfl ?_
          refine sm_sub [2, 3, 4, 1, 0] rfl ?_
          exact ih x4 (x5 + 1)
      · refine sm_iload C 3 rfl dX10_latest_82 ?_
        exact sm_iret C E rfl dX10_latest_84
    · refine sm_iload C 3 rfl dX10_latest_82 ?_
      exact sm_iret C E rfl dX10_latest_84
set_option maxRecDepth 100000 in
set_option maxHeartbeats 4000000 in
theorem mX10_latest {b : Bx} {w : HW} {x1 : Int32} {a : Int32} (h : fX10_latest w x1 = some a) : Mt b yX10_latest cX10_latest 6 (some .int) 4 91 [.ref (bB b + 79), .int x1] w (some (.int a)) w := by
  refine Mt.of (ρI w) h (by decide) (Nat.le_of_ble_eq_true rfl) (fun G hG C E => ?_)
  subst hG
  have C : Cx G cX10_latest RX10 6 4 91 := C
  change Sm G a 0 [(0, .ref (hB G + 79)), (1, .int x1)] [] w _
  unfold fX10_latest
  refine sm_aload_n C 0 rfl dX10_latest_0 rfl ?_
  refine sm_iload_n C 1 rfl dX10_latest_1 rfl ?_
  refine sm_cVI (As := [.int x1]) C cfX10_isBill wd335 kd_79 rfl rfl rfl rfl rfl dX10_latest_2 (fun r h => mX10_isBill  h) (fun r_1 => ?_)
  refine sm_if_ne C dX10_latest_5 (tgt := 11) rfl (fun h_3 => ?_) (fun h_3 => ?_)
  · refine sm_bipush C bp_m2 dX10_latest_8 ?_
    exact sm_iret C E rfl dX10_latest_10
  · refine sm_aload_n C 0 rfl dX10_latest_11 rfl ?_
    refine sm_aload_n C 0 rfl dX10_latest_12 rfl ?_
    refine sm_iload_n C 1 rfl dX10_latest_13 rfl ?_
    refine sm_iconst C ic_0 dX10_latest_14 ?_
    refine sm_cVI (As := [.int x1, .int 0]) C cfX10_of wd336 kd_79 rfl rfl rfl rfl rfl dX10_latest_15 (fun r h => mX10_of  h) (fun r_4 => ?_)
    refine sm_cVI (As := [.int r_4]) C cfX10_freeDays wd375 kd_79 rfl rfl rfl rfl rfl dX10_latest_18 (fun r h => mX10_freeDays  h) (fun r_6 => ?_)
    refine sm_istore_n (lv1 := [(2, .int r_6), (0, .ref (hB G + 79)), (1, .int x1)]) C dX10_latest_21 rfl rfl rfl ?_
    refine sm_aload_n C 1 rfl dX10_latest_22 rfl ?_
    refine sm_iload_n C 2 rfl dX10_latest_23 rfl ?_
    refine sm_iload_n C 0 rfl dX10_latest_24 rfl ?_
    refine sm_cVI (As := [.int x1, .int r_6]) C cfX10_soonestBy wd390 kd_79 rfl rfl rfl rfl rfl dX10_latest_25 (fun r h => mX10_soonestBy  h) (fun r_8 => ?_)
    refine sm_istore_n (lv1 := [(3, .int r_8), (2, .int r_6), (0, .ref (hB G + 79)), (1, .int x1)]) C dX10_latest_28 rfl rfl rfl ?_
    refine sm_iconst C ic_m1 dX10_latest_29 ?_
    refine sm_istore (lv1 := [(4, .int (-1)), (3, .int r_8), (2, .int r_6), (0, .ref (hB G + 79)), (1, .int x1)]) C dX10_latest_30 rfl rfl ?_
    refine sm_iconst C ic_0 dX10_latest_32 ?_
    refine sm_istore (lv1 := [(5, .int 0), (4, .int (-1)), (3, .int r_8), (2, .int r_6), (0, .ref (hB G + 79)), (1, .int x1)]) C dX10_latest_33 rfl rfl ?_
    refine sm_sub [4, 3, 2, 1, 0] rfl ?_
    exact sX10_latest_35 C E FU (-1) 0
/-! X10_soonest -/
set_option maxRecDepth 100000 in
set_option maxHeartbeats 4000000 in
theorem mX10_soonest {b : Bx} {w : HW} {x1 : Int32} {a : Int32} (h : fX10_soonest w x1 = some a) : Mt b yX10_soonest cX10_soonest 2 (some .int) 4 91 [.ref (bB b + 79), .int x1] w (some (.int a)) w := by
  refine Mt.of (ρI w) h (by decide) (Nat.le_of_ble_eq_true rfl) (fun G hG C E => ?_)
  subst hG
  have C : Cx G cX10_soonest RX10 2 4 91 := C
  change Sm G a 0 [(0, .ref (hB G + 79)), (1, .int x1)] [] w _
  unfold fX10_soonest
  refine sm_aload_n C 0 rfl dX10_soonest_0 rfl ?_
  refine sm_iload_n C 1 rfl dX10_soonest_1 rfl ?_
  refine sm_cVI (As := [.int x1]) C cfX10_isBill wd335 kd_79 rfl rfl rfl rfl rfl dX10_soonest_2 (fun r h => mX10_isBill  h) (fun r_1 => ?_)
  refine sm_if_eq C dX10_soonest_5 (tgt := 26) rfl (fun h_3 => ?_) (fun h_3 => ?_)
  · refine sm_aload_n C 0 rfl dX10_soonest_8 rfl ?_
    refine sm_iload_n C 1 rfl dX10_soonest_9 rfl ?_
    refine sm_aload_n C 0 rfl dX10_soonest_10 rfl ?_
    refine sm_aload_n C 0 rfl dX10_soonest_11 rfl ?_
    refine sm_iload_n C 1 rfl dX10_soonest_12 rfl ?_
    refine sm_iconst C ic_0 dX10_soonest_13 ?_
    refine sm_cVI (As := [.int x1, .int 0]) C cfX10_of wd336 kd_79 rfl rfl rfl rfl rfl dX10_soonest_14 (fun r h => mX10_of  h) (fun r_4 => ?_)
    refine sm_cVI (As := [.int r_4]) C cfX10_freeDays wd375 kd_79 rfl rfl rfl rfl rfl dX10_soonest_17 (fun r h => mX10_freeDays  h) (fun r_6 => ?_)
    refine sm_cVI (As := [.int x1, .int r_6]) C cfX10_soonestBy wd390 kd_79 rfl rfl rfl rfl rfl dX10_soonest_20 (fun r h => mX10_soonestBy  h) (fun r_8 => ?_)
    refine sm_goto C dX10_soonest_23 (tgt := 28) rfl ?_
    exact sm_iret C E rfl dX10_soonest_28
  · refine sm_bipush C bp_m2 dX10_soonest_26 ?_
    exact sm_iret C E rfl dX10_soonest_28
/-! X10_stopOf -/
set_option maxRecDepth 100000 in
set_option maxHeartbeats 4000000 in
theorem sX10_stopOf_49 {G : Gx} {a : Int32} {w : HW} (C : Cx G cX10_stopOf RX10 5 4 91) (E : Rx G (ρI w) a (some .int)) {K11 : Int32 → Int32 → Option Int32} (x1 : Int32) (x2 : Int32) (x3 : Int32) (x4 : Int32) (hK11 : ∀ (x3' : Int32) (x4' : Int32), Sm G a 16 [(0, .ref (hB G + 79)), (1, .int x1), (2, .int x2), (3, .int (x3')), (4, .int (x4'))] [] w (K11 x3' x4')) : Sm G a 49 [(0, .ref (hB G + 79)), (1, .int x1), (2, .int x2), (3, .int x3), (4, .int x4)] [] w (fX10_stopOf_49 w K11 x1 x2 x3 x4) := by
  unfold fX10_stopOf_49
  refine sm_aload_n C 0 rfl dX10_stopOf_49 rfl ?_
  refine sm_iload_n C 1 rfl dX10_stopOf_50 rfl ?_
  refine sm_iload_n C 2 rfl dX10_stopOf_51 rfl ?_
  refine sm_iload C 4 rfl dX10_stopOf_52 ?_
  refine sm_iconst C ic_m1 dX10_stopOf_54 ?_
  refine sm_ixor C dX10_stopOf_55 ?_
  refine sm_iand C dX10_stopOf_56 ?_
  refine sm_cVI (As := [.int x1, .int (x2 &&& (x4 ^^^ (-1)))]) C cfX10_soonestBy wd390 kd_79 rfl rfl rfl rfl rfl dX10_stopOf_57 (fun r h => mX10_soonestBy  h) (fun r_13 => ?_)
  refine sm_iconst C ic_m1 dX10_stopOf_60 ?_
  refine sm_icmp_ne C dX10_stopOf_61 (tgt := 67) rfl (fun h_15 => ?_) (fun h_15 => ?_)
  · refine sm_iload C 4 rfl dX10_stopOf_64 ?_
    refine sm_istore_n (lv1 := [(3, .int x4), (0, .ref (hB G + 79)), (1, .int x1), (2, .int x2), (4, .int x4)]) C dX10_stopOf_66 rfl rfl rfl ?_
    refine sm_iinc (lv1 := [(4, .int (x4 + 1)), (3, .int x4), (0, .ref (hB G + 79)), (1, .int x1), (2, .int x2)]) C 4 rfl (iv_1 _) dX10_stopOf_67 rfl rfl ?_
    refine sm_goto C dX10_stopOf_70 (tgt := 16) rfl ?_
    refine sm_sub [2, 3, 4, 1, 0] rfl ?_
    exact hK11 x4 (x4 + 1)
  · refine sm_iinc (lv1 := [(4, .int (x4 + 1)), (0, .ref (hB G + 79)), (1, .int x1), (2, .int x2), (3, .int x3)]) C 4 rfl (iv_1 _) dX10_stopOf_67 rfl rfl ?_
    refine sm_goto C dX10_stopOf_70 (tgt := 16) rfl ?_
    refine sm_sub [1, 2, 3, 4, 0] rfl ?_
    exact hK11 x3 (x4 + 1)
set_option maxRecDepth 100000 in
set_option maxHeartbeats 4000000 in
theorem sX10_stopOf_16 {G : Gx} {a : Int32} {w : HW} (C : Cx G cX10_stopOf RX10 5 4 91) (E : Rx G (ρI w) a (some .int)) {x1 : Int32} {x2 : Int32} : ∀ (n : Nat) (x3 : Int32) (x4 : Int32), Sm G a 16 [(0, .ref (hB G + 79)), (1, .int x1), (2, .int x2), (3, .int x3), (4, .int x4)] [] w (fX10_stopOf_16 w x1 x2 n x3 x4) := by
  intro n
  induction n with
  | zero => intro _ _; exact sm_none
  | succ n ih =>
    intro x3 x4
    rw [fX10_stopOf_16]
    refine sm_iload C 4 rfl dX10_stopOf_16 ?_
    refine sm_iconst C ic_1 dX10_stopOf_18 ?_
    refine sm_aload_n C 0 rfl dX10_stopOf_19 rfl ?_
    refine sm_getR C fo_10_1 rfl wd297 kd_79 dX10_stopOf_20 (rv_79_1 w) (by decide) ?_
    refine sm_iconst C ic_0 dX10_stopOf_23 ?_
    refine sm_iald C kd_80 dX10_stopOf_24 (fun h_5 => ?_)
    refine sm_ishl C dX10_stopOf_25 ?_
    refine sm_icmp_ge C dX10_stopOf_26 (tgt := 73) rfl (fun h_6 => ?_) (fun h_6 => ?_)
    · refine sm_iload_n C 3 rfl dX10_stopOf_29 rfl ?_
      refine sm_iconst C ic_m1 dX10_stopOf_30 ?_
      refine sm_icmp_eq C dX10_stopOf_31 (tgt := 49) rfl (fun h_7 => ?_) (fun h_7 => ?_)
      · refine sm_iload C 4 rfl dX10_stopOf_34 ?_
        refine sm_cSI (As := [.int x4]) C cfX10_bits wd389 rfl rfl rfl rfl dX10_stopOf_36 (fun r h => mX10_bits  h) (fun r_8 => ?_)
        refine sm_iload_n C 3 rfl dX10_stopOf_39 rfl ?_
        refine sm_cSI (As := [.int x3]) C cfX10_bits wd389 rfl rfl rfl rfl dX10_stopOf_40 (fun r h => mX10_bits  h) (fun r_10 => ?_)
        refine sm_icmp_lt C dX10_stopOf_43 (tgt := 49) rfl (fun h_12 => ?_) (fun h_12 => ?_)
        · refine sm_goto C dX10_stopOf_46 (tgt := 67) rfl ?_
          refine sm_iinc (lv1 := [(4, .int (x4 + 1)), (0, .ref (hB G + 79)), (1, .int x1), (2, .int x2), (3, .int x3)]) C 4 rfl (iv_1 _) dX10_stopOf_67 rfl rfl ?_
          refine sm_goto C dX10_stopOf_70 (tgt := 16) rfl ?_
          refine sm_sub [1, 2, 3, 4, 0] rfl ?_
          exact ih x3 (x4 + 1)
        · exact sX10_stopOf_49 C E x1 x2 x3 x4 (fun x3 x4 => ih x3 x4)
      · exact sX10_stopOf_49 C E x1 x2 x3 x4 (fun x3 x4 => ih x3 x4)
    · refine sm_iload_n C 3 rfl dX10_stopOf_73 rfl ?_
      exact sm_iret C E rfl dX10_stopOf_74
set_option maxRecDepth 100000 in
set_option maxHeartbeats 4000000 in
theorem mX10_stopOf {b : Bx} {w : HW} {x1 : Int32} {a : Int32} (h : fX10_stopOf w x1 = some a) : Mt b yX10_stopOf cX10_stopOf 5 (some .int) 4 91 [.ref (bB b + 79), .int x1] w (some (.int a)) w := by
  refine Mt.of (ρI w) h (by decide) (Nat.le_of_ble_eq_true rfl) (fun G hG C E => ?_)
  subst hG
  have C : Cx G cX10_stopOf RX10 5 4 91 := C
  change Sm G a 0 [(0, .ref (hB G + 79)), (1, .int x1)] [] w _
  unfold fX10_stopOf
  refine sm_aload_n C 0 rfl dX10_stopOf_0 rfl ?_
  refine sm_aload_n C 0 rfl dX10_stopOf_1 rfl ?_
  refine sm_iload_n C 1 rfl dX10_stopOf_2 rfl ?_
  refine sm_iconst C ic_0 dX10_stopOf_3 ?_
  refine sm_cVI (As := [.int x1, .int 0]) C cfX10_of wd336 kd_79 rfl rfl rfl rfl rfl dX10_stopOf_4 (fun r h => mX10_of  h) (fun r_1 => ?_)
  refine sm_cVI (As := [.int r_1]) C cfX10_freeDays wd375 kd_79 rfl rfl rfl rfl rfl dX10_stopOf_7 (fun r h => mX10_freeDays  h) (fun r_3 => ?_)
  refine sm_istore_n (lv1 := [(2, .int r_3), (0, .ref (hB G + 79)), (1, .int x1)]) C dX10_stopOf_10 rfl rfl rfl ?_
  refine sm_iconst C ic_m1 dX10_stopOf_11 ?_
  refine sm_istore_n (lv1 := [(3, .int (-1)), (2, .int r_3), (0, .ref (hB G + 79)), (1, .int x1)]) C dX10_stopOf_12 rfl rfl rfl ?_
  refine sm_iconst C ic_0 dX10_stopOf_13 ?_
  refine sm_istore (lv1 := [(4, .int 0), (3, .int (-1)), (2, .int r_3), (0, .ref (hB G + 79)), (1, .int x1)]) C dX10_stopOf_14 rfl rfl ?_
  refine sm_sub [3, 4, 2, 1, 0] rfl ?_
  exact sX10_stopOf_16 C E FU (-1) 0
/-! X10_stop -/
set_option maxRecDepth 100000 in
set_option maxHeartbeats 4000000 in
theorem mX10_stop {b : Bx} {w : HW} {x1 : Int32} {a : Int32} (h : fX10_stop w x1 = some a) : Mt b yX10_stop cX10_stop 2 (some .int) 5 115 [.ref (bB b + 79), .int x1] w (some (.int a)) w := by
  refine Mt.of (ρI w) h (by decide) (Nat.le_of_ble_eq_true rfl) (fun G hG C E => ?_)
  subst hG
  have C : Cx G cX10_stop RX10 2 5 115 := C
  change Sm G a 0 [(0, .ref (hB G + 79)), (1, .int x1)] [] w _
  unfold fX10_stop
  refine sm_aload_n C 0 rfl dX10_stop_0 rfl ?_
  refine sm_iload_n C 1 rfl dX10_stop_1 rfl ?_
  refine sm_cVI (As := [.int x1]) C cfX10_isBill wd335 kd_79 rfl rfl rfl rfl rfl dX10_stop_2 (fun r h => mX10_isBill  h) (fun r_1 => ?_)
  refine sm_if_eq C dX10_stop_5 (tgt := 19) rfl (fun h_3 => ?_) (fun h_3 => ?_)
  · refine sm_aload_n C 0 rfl dX10_stop_8 rfl ?_
    refine sm_iload_n C 1 rfl dX10_stop_9 rfl ?_
    refine sm_cVI (As := [.int x1]) C cfX10_stopOf wd391 kd_79 rfl rfl rfl rfl rfl dX10_stop_10 (fun r h => mX10_stopOf  h) (fun r_4 => ?_)
    refine sm_cSI (As := [.int r_4]) C cfX10_bits wd389 rfl rfl rfl rfl dX10_stop_13 (fun r h => mX10_bits  h) (fun r_6 => ?_)
    refine sm_goto C dX10_stop_16 (tgt := 21) rfl ?_
    exact sm_iret C E rfl dX10_stop_21
  · refine sm_bipush C bp_m2 dX10_stop_19 ?_
    exact sm_iret C E rfl dX10_stop_21
/-! X10_stops -/
set_option maxRecDepth 100000 in
set_option maxHeartbeats 4000000 in
theorem mX10_stops {b : Bx} {w : HW} {x1 : Int32} {a : Int32} (h : fX10_stops w x1 = some a) : Mt b yX10_stops cX10_stops 2 (some .int) 5 115 [.ref (bB b + 79), .int x1] w (some (.int a)) w := by
  refine Mt.of (ρI w) h (by decide) (Nat.le_of_ble_eq_true rfl) (fun G hG C E => ?_)
  subst hG
  have C : Cx G cX10_stops RX10 2 5 115 := C
  change Sm G a 0 [(0, .ref (hB G + 79)), (1, .int x1)] [] w _
  unfold fX10_stops
  refine sm_aload_n C 0 rfl dX10_stops_0 rfl ?_
  refine sm_iload_n C 1 rfl dX10_stops_1 rfl ?_
  refine sm_cVI (As := [.int x1]) C cfX10_isBill wd335 kd_79 rfl rfl rfl rfl rfl dX10_stops_2 (fun r h => mX10_isBill  h) (fun r_1 => ?_)
  refine sm_if_eq C dX10_stops_5 (tgt := 16) rfl (fun h_3 => ?_) (fun h_3 => ?_)
  · refine sm_aload_n C 0 rfl dX10_stops_8 rfl ?_
    refine sm_iload_n C 1 rfl dX10_stops_9 rfl ?_
    refine sm_cVI (As := [.int x1]) C cfX10_stopOf wd391 kd_79 rfl rfl rfl rfl rfl dX10_stops_10 (fun r h => mX10_stopOf  h) (fun r_4 => ?_)
    refine sm_goto C dX10_stops_13 (tgt := 18) rfl ?_
    exact sm_iret C E rfl dX10_stops_18
  · refine sm_bipush C bp_m2 dX10_stops_16 ?_
    exact sm_iret C E rfl dX10_stops_18
/-! X10_spoilOf -/
set_option maxRecDepth 100000 in
set_option maxHeartbeats 4000000 in
theorem sX10_spoilOf_13 {G : Gx} {a : Int32 × HW} (C : Cx G cX10_spoilOf RX10 5 6 137) (E : Rx G ρIW a (some .int)) {x1 : Int32} : ∀ (n : Nat) (w : HW) (x2 : Int32) (x3 : Int32), Sm G a 13 [(0, .ref (hB G + 79)), (1, .int x1), (2, .int x2), (3, .int x3)] [] w (fX10_spoilOf_13 x1 n w x2 x3) := by
  intro n
  induction n with
  | zero => intro _ _ _; exact sm_none
  | succ n ih =>
    intro w x2 x3
    rw [fX10_spoilOf_13]
    refine sm_iload_n C 3 rfl dX10_spoilOf_13 rfl ?_
    refine sm_aload_n C 0 rfl dX10_spoilOf_14 rfl ?_
    refine sm_getR C fo_10_1 rfl wd297 kd_79 dX10_spoilOf_15 (rv_79_1 w) (by decide) ?_
    refine sm_iconst C ic_0 dX10_spoilOf_18 ?_
    refine sm_iald C kd_80 dX10_spoilOf_19 (fun h_4 => ?_)
    refine sm_icmp_ge C dX10_spoilOf_20 (tgt := 63) rfl (fun h_5 => ?_) (fun h_5 => ?_)
    · refine sm_aload_n C 0 rfl dX10_spoilOf_23 rfl ?_
      refine sm_iconst C ic_1 dX10_spoilOf_24 ?_
      refine sm_iload_n C 3 rfl dX10_spoilOf_25 rfl ?_
      refine sm_ishl C dX10_spoilOf_26 ?_
      refine sm_putI C fo_10_28 rfl wd370 kd_79 rfl dX10_spoilOf_27 (fun w_6 => ?_)
      refine sm_aload_n C 0 rfl dX10_spoilOf_30 rfl ?_
      refine sm_iload_n C 1 rfl dX10_spoilOf_31 rfl ?_
      refine sm_cVIW (As := [.int x1]) C cfX10_layPlans wd386 kd_79 rfl rfl rfl rfl rfl dX10_spoilOf_32 (fun r h => mX10_layPlans  h) (fun r_7 w_8 => ?_)
      refine sm_istore (lv1 := [(4, .int r_7), (0, .ref (hB G + 79)), (1, .int x1), (2, .int x2), (3, .int x3)]) C dX10_spoilOf_35 rfl rfl ?_
      refine sm_iload C 0 rfl dX10_spoilOf_37 ?_
      refine sm_aload_n C 1 rfl dX10_spoilOf_39 rfl ?_
      refine sm_getI C fo_10_33 rfl wd392 kd_79 dX10_spoilOf_40 ?_
      refine sm_icmp_lt C dX10_spoilOf_43 (tgt := 49) rfl (fun h_9 => ?_) (fun h_9 => ?_)
      · refine sm_goto C dX10_spoilOf_46 (tgt := 57) rfl ?_
        refine sm_iinc (lv1 := [(3, .int (x3 + 1)), (4, .int r_7), (0, .ref (hB G + 79)), (1, .int x1), (2, .int x2)]) C 4 rfl (iv_1 _) dX10_spoilOf_57 rfl rfl ?_
        refine sm_goto C dX10_spoilOf_60 (tgt := 13) rfl ?_
        refine sm_sub [2, 3, 4, 0] rfl ?_
        exact ih w_8 x2 (x3 + 1)
      · refine sm_aload_n C 1 rfl dX10_spoilOf_49 rfl ?_
        refine sm_iload C 0 rfl dX10_spoilOf_50 ?_
        refine sm_putI C fo_10_33 rfl wd392 kd_79 rfl dX10_spoilOf_52 (fun w_10 => ?_)
        refine sm_iload_n C 4 rfl dX10_spoilOf_55 rfl ?_
        refine sm_istore_n (lv1 := [(2, .int x3), (4, .int r_7), (0, .ref (hB G + 79)), (1, .int x1), (3, .int x3)]) C dX10_spoilOf_56 rfl rfl rfl ?_
        refine sm_iinc (lv1 := [(3, .int (x3 + 1)), (2, .int x3), (4, .int r_7), (0, .ref (hB G + 79)), (1, .int x1)]) C 4 rfl (iv_1 _) dX10_spoilOf_57 rfl rfl ?_
        refine sm_goto C dX10_spoilOf_60 (tgt := 13) rfl ?_
        refine sm_sub [3, 4, 1, 0] rfl ?_
        exact ih w_10 x3 (x3 + 1)
    · refine sm_aload_n C 0 rfl dX10_spoilOf_63 rfl ?_
      refine sm_iconst C ic_0 dX10_spoilOf_64 ?_
      refine sm_putI C fo_10_28 rfl wd370 kd_79 rfl dX10_spoilOf_65 (fun w_11 => ?_)
      refine sm_iload_n C 2 rfl dX10_spoilOf_68 rfl ?_
      exact sm_iret C E rfl dX10_spoilOf_69
set_option maxRecDepth 100000 in
set_option maxHeartbeats 4000000 in
theorem mX10_spoilOf {b : Bx} {w : HW} {x1 : Int32} {a : Int32 × HW} (h : fX10_spoilOf w x1 = some a) : Mt b yX10_spoilOf cX10_spoilOf 5 (some .int) 6 137 [.ref (bB b + 79), .int x1] w (some (.int a.1)) a.2 := by
  refine Mt.of ρIW h (by decide) (Nat.le_of_ble_eq_true rfl) (fun G hG C E => ?_)
  subst hG
  have C : Cx G cX10_spoilOf RX10 5 6 137 := C
  change Sm G a 0 [(0, .ref (hB G + 79)), (1, .int x1)] [] w _
  unfold fX10_spoilOf
  refine sm_aload_n C 0 rfl dX10_spoilOf_0 rfl ?_
  refine sm_aload_n C 0 rfl dX10_spoilOf_1 rfl ?_
  refine sm_iload_n C 1 rfl dX10_spoilOf_2 rfl ?_
  refine sm_cVIW (As := [.int x1]) C cfX10_layPlans wd386 kd_79 rfl rfl rfl rfl rfl dX10_spoilOf_3 (fun r h => mX10_layPlans  h) (fun r_1 w_2 => ?_)
  refine sm_putI C fo_10_33 rfl wd392 kd_79 rfl dX10_spoilOf_6 (fun w_3 => ?_)
  refine sm_iconst C ic_m1 dX10_spoilOf_9 ?_
  refine sm_istore_n (lv1 := [(2, .int (-1)), (0, .ref (hB G + 79)), (1, .int x1)]) C dX10_spoilOf_10 rfl rfl rfl ?_
  refine sm_iconst C ic_0 dX10_spoilOf_11 ?_
  refine sm_istore_n (lv1 := [(3, .int 0), (2, .int (-1)), (0, .ref (hB G + 79)), (1, .int x1)]) C dX10_spoilOf_12 rfl rfl rfl ?_
  refine sm_sub [2, 3, 1, 0] rfl ?_
  exact sX10_spoilOf_13 C E FU w_3 (-1) 0
/-! X10_spoil -/
set_option maxRecDepth 100000 in
set_option maxHeartbeats 4000000 in
theorem mX10_spoil {b : Bx} {w : HW} {x1 : Int32} {a : Int32 × HW} (h : fX10_spoil w x1 = some a) : Mt b yX10_spoil cX10_spoil 2 (some .int) 7 161 [.ref (bB b + 79), .int x1] w (some (.int a.1)) a.2 := by
  refine Mt.of ρIW h (by decide) (Nat.le_of_ble_eq_true rfl) (fun G hG C E => ?_)
  subst hG
  have C : Cx G cX10_spoil RX10 2 7 161 := C
  change Sm G a 0 [(0, .ref (hB G + 79)), (1, .int x1)] [] w _
  unfold fX10_spoil
  refine sm_aload_n C 0 rfl dX10_spoil_0 rfl ?_
  refine sm_iload_n C 1 rfl dX10_spoil_1 rfl ?_
  refine sm_cVI (As := [.int x1]) C cfX10_isSide wd341 kd_79 rfl rfl rfl rfl rfl dX10_spoil_2 (fun r h => mX10_isSide  h) (fun r_1 => ?_)
  refine sm_if_eq C dX10_spoil_5 (tgt := 16) rfl (fun h_3 => ?_) (fun h_3 => ?_)
  · refine sm_aload_n C 0 rfl dX10_spoil_8 rfl ?_
    refine sm_iload_n C 1 rfl dX10_spoil_9 rfl ?_
    refine sm_cVIW (As := [.int x1]) C cfX10_spoilOf wd393 kd_79 rfl rfl rfl rfl rfl dX10_spoil_10 (fun r h => mX10_spoilOf  h) (fun r_4 w_5 => ?_)
    refine sm_goto C dX10_spoil_13 (tgt := 18) rfl ?_
    exact sm_iret C E rfl dX10_spoil_18
  · refine sm_bipush C bp_m2 dX10_spoil_16 ?_
    exact sm_iret C E rfl dX10_spoil_18
/-! X10_spoilt -/
set_option maxRecDepth 100000 in
set_option maxHeartbeats 4000000 in
theorem mX10_spoilt {b : Bx} {w : HW} {x1 : Int32} {a : Int32 × HW} (h : fX10_spoilt w x1 = some a) : Mt b yX10_spoilt cX10_spoilt 2 (some .int) 7 161 [.ref (bB b + 79), .int x1] w (some (.int a.1)) a.2 := by
  refine Mt.of ρIW h (by decide) (Nat.le_of_ble_eq_true rfl) (fun G hG C E => ?_)
  subst hG
  have C : Cx G cX10_spoilt RX10 2 7 161 := C
  change Sm G a 0 [(0, .ref (hB G + 79)), (1, .int x1)] [] w _
  unfold fX10_spoilt
  refine sm_aload_n C 0 rfl dX10_spoilt_0 rfl ?_
  refine sm_iload_n C 1 rfl dX10_spoilt_1 rfl ?_
  refine sm_cVI (As := [.int x1]) C cfX10_isSide wd341 kd_79 rfl rfl rfl rfl rfl dX10_spoilt_2 (fun r h => mX10_isSide  h) (fun r_1 => ?_)
  refine sm_if_ne C dX10_spoilt_5 (tgt := 11) rfl (fun h_3 => ?_) (fun h_3 => ?_)
  · refine sm_bipush C bp_m2 dX10_spoilt_8 ?_
    exact sm_iret C E rfl dX10_spoilt_10
  · refine sm_aload_n C 0 rfl dX10_spoilt_11 rfl ?_
    refine sm_iload_n C 1 rfl dX10_spoilt_12 rfl ?_
    refine sm_cVIW (As := [.int x1]) C cfX10_spoilOf wd393 kd_79 rfl rfl rfl rfl rfl dX10_spoilt_13 (fun r h => mX10_spoilOf  h) (fun r_4 w_5 => ?_)
    refine sm_pop C rfl dX10_spoilt_16 ?_
    refine sm_aload_n C 0 rfl dX10_spoilt_17 rfl ?_
    refine sm_getI C fo_10_33 rfl wd392 kd_79 dX10_spoilt_18 ?_
    exact sm_iret C E rfl dX10_spoilt_21
/-! X10_bribe -/
set_option maxRecDepth 100000 in
set_option maxHeartbeats 4000000 in
theorem sX10_bribe_22 {G : Gx} {a : Int32 × HW} (C : Cx G cX10_bribe RX10 6 6 137) (E : Rx G ρIW a (some .int)) {x1 : Int32} : ∀ (n : Nat) (w : HW) (x2 : Int32) (x3 : Int32) (x4 : Int32), Sm G a 22 [(0, .ref (hB G + 79)), (1, .int x1), (2, .int x2), (3, .int x3), (4, .int x4)] [] w (fX10_bribe_22 x1 n w x2 x3 x4) := by
  intro n
  induction n with
  | zero => intro _ _ _ _; exact sm_none
  | succ n ih =>
    intro w x2 x3 x4
    rw [fX10_bribe_22]
    refine sm_iload C 4 rfl dX10_bribe_22 ?_
    refine sm_aload_n C 0 rfl dX10_bribe_24 rfl ?_
    refine sm_getR C fo_10_1 rfl wd297 kd_79 dX10_bribe_25 (rv_79_1 w) (by decide) ?_
    refine sm_iconst C ic_4 dX10_bribe_28 ?_
    refine sm_iald C kd_80 dX10_bribe_29 (fun h_6 => ?_)
    refine sm_icmp_ge C dX10_bribe_30 (tgt := 83) rfl (fun h_7 => ?_) (fun h_7 => ?_)
    · refine sm_aload_n C 0 rfl dX10_bribe_33 rfl ?_
      refine sm_iload C 4 rfl dX10_bribe_34 ?_
      refine sm_iconst C ic_0 dX10_bribe_36 ?_
      refine sm_cVI (As := [.int x4, .int 0]) C cfX10_ofAugur wd334 kd_79 rfl rfl rfl rfl rfl dX10_bribe_37 (fun r h => mX10_ofAugur  h) (fun r_8 => ?_)
      refine sm_iload_n C 1 rfl dX10_bribe_40 rfl ?_
      refine sm_icmp_ne C dX10_bribe_41 (tgt := 47) rfl (fun h_10 => ?_) (fun h_10 => ?_)
      · refine sm_goto C dX10_bribe_44 (tgt := 77) rfl ?_
        refine sm_iinc (lv1 := [(4, .int (x4 + 1)), (0, .ref (hB G + 79)), (1, .int x1), (2, .int x2), (3, .int x3)]) C 4 rfl (iv_1 _) dX10_bribe_77 rfl rfl ?_
        refine sm_goto C dX10_bribe_80 (tgt := 22) rfl ?_
        refine sm_sub [1, 2, 3, 4, 0] rfl ?_
        exact ih w x2 x3 (x4 + 1)
      · refine sm_aload_n C 0 rfl dX10_bribe_47 rfl ?_
        refine sm_iconst C ic_1 dX10_bribe_48 ?_
        refine sm_iload C 4 rfl dX10_bribe_49 ?_
        refine sm_ishl C dX10_bribe_51 ?_
        refine sm_putI C fo_10_29 rfl wd369 kd_79 rfl dX10_bribe_52 (fun w_11 => ?_)
        refine sm_aload_n C 0 rfl dX10_bribe_55 rfl ?_
        refine sm_iload_n C 1 rfl dX10_bribe_56 rfl ?_
        refine sm_cVIW (As := [.int x1]) C cfX10_layPlans wd386 kd_79 rfl rfl rfl rfl rfl dX10_bribe_57 (fun r h => mX10_layPlans  h) (fun r_12 w_13 => ?_)
        refine sm_istore (lv1 := [(5, .int r_12), (0, .ref (hB G + 79)), (1, .int x1), (2, .int x2), (3, .int x3), (4, .int x4)]) C dX10_bribe_60 rfl rfl ?_
        refine sm_iload C 0 rfl dX10_bribe_62 ?_
        refine sm_iload_n C 3 rfl dX10_bribe_64 rfl ?_
        refine sm_icmp_gt C dX10_bribe_65 (tgt := 71) rfl (fun h_14 => ?_) (fun h_14 => ?_)
        · refine sm_goto C dX10_bribe_68 (tgt := 77) rfl ?_
          refine sm_iinc (lv1 := [(4, .int (x4 + 1)), (5, .int r_12), (0, .ref (hB G + 79)), (1, .int x1), (2, .int x2), (3, .int x3)]) C 5 rfl (iv_1 _) dX10_bribe_77 rfl rfl ?_
          refine sm_goto C dX10_bribe_80 (tgt := 22) rfl ?_
          refine sm_sub [2, 3, 4, 5, 0] rfl ?_
          exact ih w_13 x2 x3 (x4 + 1)
        · refine sm_iload C 0 rfl dX10_bribe_71 ?_
          refine sm_istore_n (lv1 := [(2, .int r_12), (5, .int r_12), (0, .ref (hB G + 79)), (1, .int x1), (3, .int x3), (4, .int x4)]) C dX10_bribe_73 rfl rfl rfl ?_
          refine sm_iload C 5 rfl dX10_bribe_74 ?_
          refine sm_istore_n (lv1 := [(3, .int x4), (2, .int r_12), (5, .int r_12), (0, .ref (hB G + 79)), (1, .int x1), (4, .int x4)]) C dX10_bribe_76 rfl rfl rfl ?_
          refine sm_iinc (lv1 := [(4, .int (x4 + 1)), (3, .int x4), (2, .int r_12), (5, .int r_12), (0, .ref (hB G + 79)), (1, .int x1)]) C 5 rfl (iv_1 _) dX10_bribe_77 rfl rfl ?_
          refine sm_goto C dX10_bribe_80 (tgt := 22) rfl ?_
          refine sm_sub [4, 5, 2, 1, 0] rfl ?_
          exact ih w_13 r_12 x4 (x4 + 1)
    · refine sm_aload_n C 0 rfl dX10_bribe_83 rfl ?_
      refine sm_iconst C ic_0 dX10_bribe_84 ?_
      refine sm_putI C fo_10_29 rfl wd369 kd_79 rfl dX10_bribe_85 (fun w_15 => ?_)
      refine sm_iload_n C 3 rfl dX10_bribe_88 rfl ?_
      exact sm_iret C E rfl dX10_bribe_89
set_option maxRecDepth 100000 in
set_option maxHeartbeats 4000000 in
theorem mX10_bribe {b : Bx} {w : HW} {x1 : Int32} {a : Int32 × HW} (h : fX10_bribe w x1 = some a) : Mt b yX10_bribe cX10_bribe 6 (some .int) 6 137 [.ref (bB b + 79), .int x1] w (some (.int a.1)) a.2 := by
  refine Mt.of ρIW h (by decide) (Nat.le_of_ble_eq_true rfl) (fun G hG C E => ?_)
  subst hG
  have C : Cx G cX10_bribe RX10 6 6 137 := C
  change Sm G a 0 [(0, .ref (hB G + 79)), (1, .int x1)] [] w _
  unfold fX10_bribe
  refine sm_aload_n C 0 rfl dX10_bribe_0 rfl ?_
  refine sm_iload_n C 1 rfl dX10_bribe_1 rfl ?_
  refine sm_cVI (As := [.int x1]) C cfX10_isSide wd341 kd_79 rfl rfl rfl rfl rfl dX10_bribe_2 (fun r h => mX10_isSide  h) (fun r_1 => ?_)
  refine sm_if_ne C dX10_bribe_5 (tgt := 11) rfl (fun h_3 => ?_) (fun h_3 => ?_)
  · refine sm_bipush C bp_m2 dX10_bribe_8 ?_
    exact sm_iret C E rfl dX10_bribe_10
  · refine sm_aload_n C 0 rfl dX10_bribe_11 rfl ?_
    refine sm_iload_n C 1 rfl dX10_bribe_12 rfl ?_
    refine sm_cVIW (As := [.int x1]) C cfX10_layPlans wd386 kd_79 rfl rfl rfl rfl rfl dX10_bribe_13 (fun r h => mX10_layPlans  h) (fun r_4 w_5 => ?_)
    refine sm_istore_n (lv1 := [(2, .int r_4), (0, .ref (hB G + 79)), (1, .int x1)]) C dX10_bribe_16 rfl rfl rfl ?_
    refine sm_iconst C ic_m1 dX10_bribe_17 ?_
    refine sm_istore_n (lv1 := [(3, .int (-1)), (2, .int r_4), (0, .ref (hB G + 79)), (1, .int x1)]) C dX10_bribe_18 rfl rfl rfl ?_
    refine sm_iconst C ic_0 dX10_bribe_19 ?_
    refine sm_istore (lv1 := [(4, .int 0), (3, .int (-1)), (2, .int r_4), (0, .ref (hB G + 79)), (1, .int x1)]) C dX10_bribe_20 rfl rfl ?_
    refine sm_sub [3, 4, 2, 1, 0] rfl ?_
    exact sX10_bribe_22 C E FU w_5 r_4 (-1) 0
/-! X10_unmark -/
set_option maxRecDepth 100000 in
set_option maxHeartbeats 4000000 in
theorem sX10_unmark_22 {G : Gx} {a : Int32 × HW} (C : Cx G cX10_unmark RX10 6 6 137) (E : Rx G ρIW a (some .int)) {x1 : Int32} : ∀ (n : Nat) (w : HW) (x2 : Int32) (x3 : Int32) (x4 : Int32), Sm G a 22 [(0, .ref (hB G + 79)), (1, .int x1), (2, .int x2), (3, .int x3), (4, .int x4)] [] w (fX10_unmark_22 x1 n w x2 x3 x4) := by
  intro n
  induction n with
  | zero => intro _ _ _ _; exact sm_none
  | succ n ih =>
    intro w x2 x3 x4
    rw [fX10_unmark_22]
    refine sm_iload C 4 rfl dX10_unmark_22 ?_
    refine sm_aload_n C 0 rfl dX10_unmark_24 rfl ?_
    refine sm_getR C fo_10_1 rfl wd297 kd_79 dX10_unmark_25 (rv_79_1 w) (by decide) ?_
    refine sm_iconst C ic_0 dX10_unmark_28 ?_
    refine sm_iald C kd_80 dX10_unmark_29 (fun h_6 => ?_)
    refine sm_icmp_ge C dX10_unmark_30 (tgt := 87) rfl (fun h_7 => ?_) (fun h_7 => ?_)
    · refine sm_aload_n C 0 rfl dX10_unmark_33 rfl ?_
      refine sm_getR C fo_10_1 rfl wd297 kd_79 dX10_unmark_34 (rv_79_1 w) (by decide) ?_
      refine sm_bipush C bp_8 dX10_unmark_37 ?_
      refine sm_iald C kd_80 dX10_unmark_39 (fun h_8 => ?_)
      refine sm_iload C 4 rfl dX10_unmark_40 ?_
      refine sm_cSI (As := [.int (gI w 80 (ix 8)), .int x4]) C cfX10_bit wd337 rfl rfl rfl rfl dX10_unmark_42 (fun r h => mX10_bit  h) (fun r_9 => ?_)
      refine sm_if_ne C dX10_unmark_45 (tgt := 51) rfl (fun h_11 => ?_) (fun h_11 => ?_)
      · refine sm_goto C dX10_unmark_48 (tgt := 81) rfl ?_
        refine sm_iinc (lv1 := [(4, .int (x4 + 1)), (0, .ref (hB G + 79)), (1, .int x1), (2, .int x2), (3, .int x3)]) C 4 rfl (iv_1 _) dX10_unmark_81 rfl rfl ?_
        refine sm_goto C dX10_unmark_84 (tgt := 22) rfl ?_
        refine sm_sub [1, 2, 3, 4, 0] rfl ?_
        exact ih w x2 x3 (x4 + 1)
      · refine sm_aload_n C 0 rfl dX10_unmark_51 rfl ?_
        refine sm_iconst C ic_1 dX10_unmark_52 ?_
        refine sm_iload C 4 rfl dX10_unmark_53 ?_
        refine sm_ishl C dX10_unmark_55 ?_
        refine sm_putI C fo_10_30 rfl wd371 kd_79 rfl dX10_unmark_56 (fun w_12 => ?_)
        refine sm_aload_n C 0 rfl dX10_unmark_59 rfl ?_
        refine sm_iload_n C 1 rfl dX10_unmark_60 rfl ?_
        refine sm_cVIW (As := [.int x1]) C cfX10_layPlans wd386 kd_79 rfl rfl rfl rfl rfl dX10_unmark_61 (fun r h => mX10_layPlans  h) (fun r_13 w_14 => ?_)
        refine sm_istore (lv1 := [(5, .int r_13), (0, .ref (hB G + 79)), (1, .int x1), (2, .int x2), (3, .int x3), (4, .int x4)]) C dX10_unmark_64 rfl rfl ?_
        refine sm_iload C 0 rfl dX10_unmark_66 ?_
        refine sm_iload_n C 3 rfl dX10_unmark_68 rfl ?_
        refine sm_icmp_gt C dX10_unmark_69 (tgt := 75) rfl (fun h_15 => ?_) (fun h_15 => ?_)
        · refine sm_goto C dX10_unmark_72 (tgt := 81) rfl ?_
          refine sm_iinc (lv1 := [(4, .int (x4 + 1)), (5, .int r_13), (0, .ref (hB G + 79)), (1, .int x1), (2, .int x2), (3, .int x3)]) C 5 rfl (iv_1 _) dX10_unmark_81 rfl rfl ?_
          refine sm_goto C dX10_unmark_84 (tgt := 22) rfl ?_
          refine sm_sub [2, 3, 4, 5, 0] rfl ?_
          exact ih w_14 x2 x3 (x4 + 1)
        · refine sm_iload C 0 rfl dX10_unmark_75 ?_
          refine sm_istore_n (lv1 := [(2, .int r_13), (5, .int r_13), (0, .ref (hB G + 79)), (1, .int x1), (3, .int x3), (4, .int x4)]) C dX10_unmark_77 rfl rfl rfl ?_
          refine sm_iload C 5 rfl dX10_unmark_78 ?_
          refine sm_istore_n (lv1 := [(3, .int x4), (2, .int r_13), (5, .int r_13), (0, .ref (hB G + 79)), (1, .int x1), (4, .int x4)]) C dX10_unmark_80 rfl rfl rfl ?_
          refine sm_iinc (lv1 := [(4, .int (x4 + 1)), (3, .int x4), (2, .int r_13), (5, .int r_13), (0, .ref (hB G + 79)), (1, .int x1)]) C 5 rfl (iv_1 _) dX10_unmark_81 rfl rfl ?_
          refine sm_goto C dX10_unmark_84 (tgt := 22) rfl ?_
          refine sm_sub [4, 5, 2, 1, 0] rfl ?_
          exact ih w_14 r_13 x4 (x4 + 1)
    · refine sm_aload_n C 0 rfl dX10_unmark_87 rfl ?_
      refine sm_iconst C ic_0 dX10_unmark_88 ?_
      refine sm_putI C fo_10_30 rfl wd371 kd_79 rfl dX10_unmark_89 (fun w_16 => ?_)
      refine sm_iload_n C 3 rfl dX10_unmark_92 rfl ?_
      exact sm_iret C E rfl dX10_unmark_93
set_option maxRecDepth 100000 in
set_option maxHeartbeats 4000000 in
theorem mX10_unmark {b : Bx} {w : HW} {x1 : Int32} {a : Int32 × HW} (h : fX10_unmark w x1 = some a) : Mt b yX10_unmark cX10_unmark 6 (some .int) 6 137 [.ref (bB b + 79), .int x1] w (some (.int a.1)) a.2 := by
  refine Mt.of ρIW h (by decide) (Nat.le_of_ble_eq_true rfl) (fun G hG C E => ?_)
  subst hG
  have C : Cx G cX10_unmark RX10 6 6 137 := C
  change Sm G a 0 [(0, .ref (hB G + 79)), (1, .int x1)] [] w _
  unfold fX10_unmark
  refine sm_aload_n C 0 rfl dX10_unmark_0 rfl ?_
  refine sm_iload_n C 1 rfl dX10_unmark_1 rfl ?_
  refine sm_cVI (As := [.int x1]) C cfX10_isSide wd341 kd_79 rfl rfl rfl rfl rfl dX10_unmark_2 (fun r h => mX10_isSide  h) (fun r_1 => ?_)
  refine sm_if_ne C dX10_unmark_5 (tgt := 11) rfl (fun h_3 => ?_) (fun h_3 => ?_)
  · refine sm_bipush C bp_m2 dX10_unmark_8 ?_
    exact sm_iret C E rfl dX10_unmark_10
  · refine sm_aload_n C 0 rfl dX10_unmark_11 rfl ?_
    refine sm_iload_n C 1 rfl dX10_unmark_12 rfl ?_
    refine sm_cVIW (As := [.int x1]) C cfX10_layPlans wd386 kd_79 rfl rfl rfl rfl rfl dX10_unmark_13 (fun r h => mX10_layPlans  h) (fun r_4 w_5 => ?_)
    refine sm_istore_n (lv1 := [(2, .int r_4), (0, .ref (hB G + 79)), (1, .int x1)]) C dX10_unmark_16 rfl rfl rfl ?_
    refine sm_iconst C ic_m1 dX10_unmark_17 ?_
    refine sm_istore_n (lv1 := [(3, .int (-1)), (2, .int r_4), (0, .ref (hB G + 79)), (1, .int x1)]) C dX10_unmark_18 rfl rfl rfl ?_
    refine sm_iconst C ic_0 dX10_unmark_19 ?_
    refine sm_istore (lv1 := [(4, .int 0), (3, .int (-1)), (2, .int r_4), (0, .ref (hB G + 79)), (1, .int x1)]) C dX10_unmark_20 rfl rfl ?_
    refine sm_sub [3, 4, 2, 1, 0] rfl ?_
    exact sX10_unmark_22 C E FU w_5 r_4 (-1) 0
/-! X10_sideAugurs -/
set_option maxRecDepth 100000 in
set_option maxHeartbeats 4000000 in
theorem sX10_sideAugurs_4 {G : Gx} {a : Int32} {w : HW} (C : Cx G cX10_sideAugurs RX10 4 1 22) (E : Rx G (ρI w) a (some .int)) {x1 : Int32} : ∀ (n : Nat) (x2 : Int32) (x3 : Int32), Sm G a 4 [(0, .ref (hB G + 79)), (1, .int x1), (2, .int x2), (3, .int x3)] [] w (fX10_sideAugurs_4 w x1 n x2 x3) := by
  intro n
  induction n with
  | zero => intro _ _; exact sm_none
  | succ n ih =>
    intro x2 x3
    rw [fX10_sideAugurs_4]
    refine sm_iload_n C 3 rfl dX10_sideAugurs_4 rfl ?_
    refine sm_aload_n C 0 rfl dX10_sideAugurs_5 rfl ?_
    refine sm_getR C fo_10_1 rfl wd297 kd_79 dX10_sideAugurs_6 (rv_79_1 w) (by decide) ?_
    refine sm_iconst C ic_4 dX10_sideAugurs_9 ?_
    refine sm_iald C kd_80 dX10_sideAugurs_10 (fun h_1 => ?_)
    refine sm_icmp_ge C dX10_sideAugurs_11 (tgt := 40) rfl (fun h_2 => ?_) (fun h_2 => ?_)
    · refine sm_iload_n C 2 rfl dX10_sideAugurs_14 rfl ?_
      refine sm_aload_n C 0 rfl dX10_sideAugurs_15 rfl ?_
      refine sm_iload_n C 3 rfl dX10_sideAugurs_16 rfl ?_
      refine sm_iconst C ic_0 dX10_sideAugurs_17 ?_
      refine sm_cVI (As := [.int x3, .int 0]) C cfX10_ofAugur wd334 kd_79 rfl rfl rfl rfl rfl dX10_sideAugurs_18 (fun r h => mX10_ofAugur  h) (fun r_3 => ?_)
      refine sm_iload_n C 1 rfl dX10_sideAugurs_21 rfl ?_
      refine sm_icmp_ne C dX10_sideAugurs_22 (tgt := 31) rfl (fun h_5 => ?_) (fun h_5 => ?_)
      · refine sm_iconst C ic_1 dX10_sideAugurs_25 ?_
        refine sm_iload_n C 3 rfl dX10_sideAugurs_26 rfl ?_
        refine sm_ishl C dX10_sideAugurs_27 ?_
        refine sm_goto C dX10_sideAugurs_28 (tgt := 32) rfl ?_
        refine sm_ior C dX10_sideAugurs_32 ?_
        refine sm_let (fun x2_6 => ?_)
        refine sm_istore_n (lv1 := [(2, .int x2_6), (0, .ref (hB G + 79)), (1, .int x1), (3, .int x3)]) C dX10_sideAugurs_33 rfl rfl rfl ?_
        refine sm_iinc (lv1 := [(3, .int (x3 + 1)), (2, .int x2_6), (0, .ref (hB G + 79)), (1, .int x1)]) C 3 rfl (iv_1 _) dX10_sideAugurs_34 rfl rfl ?_
        refine sm_goto C dX10_sideAugurs_37 (tgt := 4) rfl ?_
        refine sm_sub [2, 3, 1, 0] rfl ?_
        exact ih x2_6 (x3 + 1)
      · refine sm_iconst C ic_0 dX10_sideAugurs_31 ?_
        refine sm_ior C dX10_sideAugurs_32 ?_
        refine sm_let (fun x2_7 => ?_)
        refine sm_istore_n (lv1 := [(2, .int x2_7), (0, .ref (hB G + 79)), (1, .int x1), (3, .int x3)]) C dX10_sideAugurs_33 rfl rfl rfl ?_
        refine sm_iinc (lv1 := [(3, .int (x3 + 1)), (2, .int x2_7), (0, .ref (hB G + 79)), (1, .int x1)]) C 3 rfl (iv_1 _) dX10_sideAugurs_34 rfl rfl ?_
        refine sm_goto C dX10_sideAugurs_37 (tgt := 4) rfl ?_
        refine sm_sub [2, 3, 1, 0] rfl ?_
        exact ih x2_7 (x3 + 1)
    · refine sm_iload_n C 2 rfl dX10_sideAugurs_40 rfl ?_
      exact sm_iret C E rfl dX10_sideAugurs_41
set_option maxRecDepth 100000 in
set_option maxHeartbeats 4000000 in
theorem mX10_sideAugurs {b : Bx} {w : HW} {x1 : Int32} {a : Int32} (h : fX10_sideAugurs w x1 = some a) : Mt b yX10_sideAugurs cX10_sideAugurs 4 (some .int) 1 22 [.ref (bB b + 79), .int x1] w (some (.int a)) w := by
  refine Mt.of (ρI w) h (by decide) (Nat.le_of_ble_eq_true rfl) (fun G hG C E => ?_)
  subst hG
  have C : Cx G cX10_sideAugurs RX10 4 1 22 := C
  change Sm G a 0 [(0, .ref (hB G + 79)), (1, .int x1)] [] w _
  unfold fX10_sideAugurs
  refine sm_iconst C ic_0 dX10_sideAugurs_0 ?_
  refine sm_istore_n (lv1 := [(2, .int 0), (0, .ref (hB G + 79)), (1, .int x1)]) C dX10_sideAugurs_1 rfl rfl rfl ?_
  refine sm_iconst C ic_0 dX10_sideAugurs_2 ?_
  refine sm_istore_n (lv1 := [(3, .int 0), (2, .int 0), (0, .ref (hB G + 79)), (1, .int x1)]) C dX10_sideAugurs_3 rfl rfl rfl ?_
  refine sm_sub [2, 3, 1, 0] rfl ?_
  exact sX10_sideAugurs_4 C E FU 0 0
/-! X10_chosenOf -/
set_option maxRecDepth 100000 in
set_option maxHeartbeats 4000000 in
theorem sX10_chosenOf_11 {G : Gx} {a : Int32} {w : HW} (C : Cx G cX10_chosenOf RX10 5 4 90) (E : Rx G (ρI w) a (some .int)) {x1 : Int32} {x2 : Int32} : ∀ (n : Nat) (x3 : Int32) (x4 : Int32), Sm G a 11 [(0, .ref (hB G + 79)), (1, .int x1), (2, .int x2), (3, .int x3), (4, .int x4)] [] w (fX10_chosenOf_11 w x1 x2 n x3 x4) := by
  intro n
  induction n with
  | zero => intro _ _; exact sm_none
  | succ n ih =>
    intro x3 x4
    rw [fX10_chosenOf_11]
    refine sm_iload C 4 rfl dX10_chosenOf_11 ?_
    refine sm_if_lt C dX10_chosenOf_13 (tgt := 61) rfl (fun h_3 => ?_) (fun h_3 => ?_)
    · refine sm_iload C 4 rfl dX10_chosenOf_16 ?_
      refine sm_iload_n C 2 rfl dX10_chosenOf_18 rfl ?_
      refine sm_iconst C ic_m1 dX10_chosenOf_19 ?_
      refine sm_ixor C dX10_chosenOf_20 ?_
      refine sm_iand C dX10_chosenOf_21 ?_
      refine sm_if_ne C dX10_chosenOf_22 (tgt := 55) rfl (fun h_4 => ?_) (fun h_4 => ?_)
      · refine sm_iload C 4 rfl dX10_chosenOf_25 ?_
        refine sm_cSI (As := [.int x4]) C cfX10_bits wd389 rfl rfl rfl rfl dX10_chosenOf_27 (fun r h => mX10_bits  h) (fun r_5 => ?_)
        refine sm_iload_n C 3 rfl dX10_chosenOf_30 rfl ?_
        refine sm_cSI (As := [.int x3]) C cfX10_bits wd389 rfl rfl rfl rfl dX10_chosenOf_31 (fun r h => mX10_bits  h) (fun r_7 => ?_)
        refine sm_icmp_gt C dX10_chosenOf_34 (tgt := 55) rfl (fun h_9 => ?_) (fun h_9 => ?_)
        · refine sm_aload_n C 0 rfl dX10_chosenOf_37 rfl ?_
          refine sm_iload_n C 1 rfl dX10_chosenOf_38 rfl ?_
          refine sm_iload C 4 rfl dX10_chosenOf_39 ?_
          refine sm_cVI (As := [.int x1, .int x4]) C cfX10_skyBy wd340 kd_79 rfl rfl rfl rfl rfl dX10_chosenOf_41 (fun r h => mX10_skyBy  h) (fun r_10 => ?_)
          refine sm_aload_n C 0 rfl dX10_chosenOf_44 rfl ?_
          refine sm_iload_n C 1 rfl dX10_chosenOf_45 rfl ?_
          refine sm_cVI (As := [.int x1]) C cfX10_skyOf wd342 kd_79 rfl rfl rfl rfl rfl dX10_chosenOf_46 (fun r h => mX10_skyOf  h) (fun r_12 => ?_)
          refine sm_icmp_ne C dX10_chosenOf_49 (tgt := 55) rfl (fun h_14 => ?_) (fun h_14 => ?_)
          · refine sm_iload C 4 rfl dX10_chosenOf_52 ?_
            refine sm_istore_n (lv1 := [(3, .int x4), (0, .ref (hB G + 79)), (1, .int x1), (2, .int x2), (4, .int x4)]) C dX10_chosenOf_54 rfl rfl rfl ?_
            refine sm_iinc (lv1 := [(4, .int (x4 + (-1))), (3, .int x4), (0, .ref (hB G + 79)), (1, .int x1), (2, .int x2)]) C 4 rfl (iv_m1 _) dX10_chosenOf_55 rfl rfl ?_
            refine sm_goto C dX10_chosenOf_58 (tgt := 11) rfl ?_
            refine sm_sub [2, 3, 4, 1, 0] rfl ?_
            exact ih x4 (x4 + (-1))
          · refine sm_iinc (lv1 := [(4, .int (x4 + (-1))), (0, .ref (hB G + 79)), (1, .int x1), (2, .int x2), (3, .int x3)]) C 4 rfl (iv_m1 _) dX10_chosenOf_55 rfl rfl ?_
            refine sm_goto C dX10_chosenOf_58 (tgt := 11) rfl ?_
            refine sm_sub [1, 2, 3, 4, 0] rfl ?_
            exact ih x3 (x4 + (-1))
        · refine sm_iinc (lv1 := [(4, .int (x4 + (-1))), (0, .ref (hB G + 79)), (1, .int x1), (2, .int x2), (3, .int x3)]) C 4 rfl (iv_m1 _) dX10_chosenOf_55 rfl rfl ?_
          refine sm_goto C dX10_chosenOf_58 (tgt := 11) rfl ?_
          refine sm_sub [1, 2, 3, 4, 0] rfl ?_
          exact ih x3 (x4 + (-1))
      · refine sm_iinc (lv1 := [(4, .int (x4 + (-1))), (0, .ref (hB G + 79)), (1, .int x1), (2, .int x2), (3, .int x3)]) C 4 rfl (iv_m1 _) dX10_chosenOf_55 rfl rfl ?_
        refine sm_goto C dX10_chosenOf_58 (tgt := 11) rfl ?_
        refine sm_sub [1, 2, 3, 4, 0] rfl ?_
        exact ih x3 (x4 + (-1))
    · refine sm_iload_n C 3 rfl dX10_chosenOf_61 rfl ?_
      exact sm_iret C E rfl dX10_chosenOf_62
set_option maxRecDepth 100000 in
set_option maxHeartbeats 4000000 in
theorem mX10_chosenOf {b : Bx} {w : HW} {x1 : Int32} {a : Int32} (h : fX10_chosenOf w x1 = some a) : Mt b yX10_chosenOf cX10_chosenOf 5 (some .int) 4 90 [.ref (bB b + 79), .int x1] w (some (.int a)) w := by
  refine Mt.of (ρI w) h (by decide) (Nat.le_of_ble_eq_true rfl) (fun G hG C E => ?_)
  subst hG
  have C : Cx G cX10_chosenOf RX10 5 4 90 := C
  change Sm G a 0 [(0, .ref (hB G + 79)), (1, .int x1)] [] w _
  unfold fX10_chosenOf
  refine sm_aload_n C 0 rfl dX10_chosenOf_0 rfl ?_
  refine sm_iload_n C 1 rfl dX10_chosenOf_1 rfl ?_
  refine sm_cVI (As := [.int x1]) C cfX10_sideAugurs wd394 kd_79 rfl rfl rfl rfl rfl dX10_chosenOf_2 (fun r h => mX10_sideAugurs  h) (fun r_1 => ?_)
  refine sm_istore_n (lv1 := [(2, .int r_1), (0, .ref (hB G + 79)), (1, .int x1)]) C dX10_chosenOf_5 rfl rfl rfl ?_
  refine sm_iload_n C 0 rfl dX10_chosenOf_6 rfl ?_
  refine sm_istore_n (lv1 := [(3, .int r_1), (2, .int r_1), (0, .ref (hB G + 79)), (1, .int x1)]) C dX10_chosenOf_7 rfl rfl rfl ?_
  refine sm_iload_n C 1 rfl dX10_chosenOf_8 rfl ?_
  refine sm_istore (lv1 := [(4, .int r_1), (3, .int r_1), (2, .int r_1), (0, .ref (hB G + 79)), (1, .int x1)]) C dX10_chosenOf_9 rfl rfl ?_
  refine sm_sub [3, 4, 2, 1, 0] rfl ?_
  exact sX10_chosenOf_11 C E FU r_1 r_1
/-! X10_college -/
set_option maxRecDepth 100000 in
set_option maxHeartbeats 4000000 in
theorem mX10_college {b : Bx} {w : HW} {x1 : Int32} {a : Int32} (h : fX10_college w x1 = some a) : Mt b yX10_college cX10_college 2 (some .int) 5 114 [.ref (bB b + 79), .int x1] w (some (.int a)) w := by
  refine Mt.of (ρI w) h (by decide) (Nat.le_of_ble_eq_true rfl) (fun G hG C E => ?_)
  subst hG
  have C : Cx G cX10_college RX10 2 5 114 := C
  change Sm G a 0 [(0, .ref (hB G + 79)), (1, .int x1)] [] w _
  unfold fX10_college
  refine sm_aload_n C 0 rfl dX10_college_0 rfl ?_
  refine sm_iload_n C 1 rfl dX10_college_1 rfl ?_
  refine sm_cVI (As := [.int x1]) C cfX10_isSide wd341 kd_79 rfl rfl rfl rfl rfl dX10_college_2 (fun r h => mX10_isSide  h) (fun r_1 => ?_)
  refine sm_if_eq C dX10_college_5 (tgt := 19) rfl (fun h_3 => ?_) (fun h_3 => ?_)
  · refine sm_aload_n C 0 rfl dX10_college_8 rfl ?_
    refine sm_iload_n C 1 rfl dX10_college_9 rfl ?_
    refine sm_cVI (As := [.int x1]) C cfX10_chosenOf wd395 kd_79 rfl rfl rfl rfl rfl dX10_college_10 (fun r h => mX10_chosenOf  h) (fun r_4 => ?_)
    refine sm_cSI (As := [.int r_4]) C cfX10_bits wd389 rfl rfl rfl rfl dX10_college_13 (fun r h => mX10_bits  h) (fun r_6 => ?_)
    refine sm_goto C dX10_college_16 (tgt := 21) rfl ?_
    exact sm_iret C E rfl dX10_college_21
  · refine sm_bipush C bp_m2 dX10_college_19 ?_
    exact sm_iret C E rfl dX10_college_21
/-! X10_chosen -/
set_option maxRecDepth 100000 in
set_option maxHeartbeats 4000000 in
theorem mX10_chosen {b : Bx} {w : HW} {x1 : Int32} {a : Int32} (h : fX10_chosen w x1 = some a) : Mt b yX10_chosen cX10_chosen 2 (some .int) 5 114 [.ref (bB b + 79), .int x1] w (some (.int a)) w := by
  refine Mt.of (ρI w) h (by decide) (Nat.le_of_ble_eq_true rfl) (fun G hG C E => ?_)
  subst hG
  have C : Cx G cX10_chosen RX10 2 5 114 := C
  change Sm G a 0 [(0, .ref (hB G + 79)), (1, .int x1)] [] w _
  unfold fX10_chosen
  refine sm_aload_n C 0 rfl dX10_chosen_0 rfl ?_
  refine sm_iload_n C 1 rfl dX10_chosen_1 rfl ?_
  refine sm_cVI (As := [.int x1]) C cfX10_isSide wd341 kd_79 rfl rfl rfl rfl rfl dX10_chosen_2 (fun r h => mX10_isSide  h) (fun r_1 => ?_)
  refine sm_if_eq C dX10_chosen_5 (tgt := 16) rfl (fun h_3 => ?_) (fun h_3 => ?_)
  · refine sm_aload_n C 0 rfl dX10_chosen_8 rfl ?_
    refine sm_iload_n C 1 rfl dX10_chosen_9 rfl ?_
    refine sm_cVI (As := [.int x1]) C cfX10_chosenOf wd395 kd_79 rfl rfl rfl rfl rfl dX10_chosen_10 (fun r h => mX10_chosenOf  h) (fun r_4 => ?_)
    refine sm_goto C dX10_chosen_13 (tgt := 18) rfl ?_
    exact sm_iret C E rfl dX10_chosen_18
  · refine sm_bipush C bp_m2 dX10_chosen_16 ?_
    exact sm_iret C E rfl dX10_chosen_18
/-! X10_hold -/
set_option maxRecDepth 100000 in
set_option maxHeartbeats 4000000 in
theorem sX10_hold_35 {G : Gx} {a : Int32} {w : HW} (C : Cx G cX10_hold RX10 6 3 69) (E : Rx G (ρI w) a (some .int)) {x1 : Int32} {x2 : Int32} {x3 : Int32} : ∀ (n : Nat) (x4 : Int32) (x5 : Int32), Sm G a 35 [(0, .ref (hB G + 79)), (1, .int x1), (2, .int x2), (3, .int x3), (4, .int x4), (5, .int x5)] [] w (fX10_hold_35 w x1 x2 x3 n x4 x5) := by
  intro n
  induction n with
  | zero => intro _ _; exact sm_none
  | succ n ih =>
    intro x4 x5
    rw [fX10_hold_35]
    refine sm_iload C 5 rfl dX10_hold_35 ?_
    refine sm_iload_n C 3 rfl dX10_hold_37 rfl ?_
    refine sm_icmp_gt C dX10_hold_38 (tgt := 82) rfl (fun h_9 => ?_) (fun h_9 => ?_)
    · refine sm_iload C 5 rfl dX10_hold_41 ?_
      refine sm_iload_n C 3 rfl dX10_hold_43 rfl ?_
      refine sm_iconst C ic_m1 dX10_hold_44 ?_
      refine sm_ixor C dX10_hold_45 ?_
      refine sm_iand C dX10_hold_46 ?_
      refine sm_if_ne C dX10_hold_47 (tgt := 76) rfl (fun h_10 => ?_) (fun h_10 => ?_)
      · refine sm_iload C 5 rfl dX10_hold_50 ?_
        refine sm_cSI (As := [.int x5]) C cfX10_bits wd389 rfl rfl rfl rfl dX10_hold_52 (fun r h => mX10_bits  h) (fun r_11 => ?_)
        refine sm_iload_n C 2 rfl dX10_hold_55 rfl ?_
        refine sm_icmp_gt C dX10_hold_56 (tgt := 76) rfl (fun h_13 => ?_) (fun h_13 => ?_)
        · refine sm_iload C 4 rfl dX10_hold_59 ?_
          refine sm_aload_n C 0 rfl dX10_hold_61 rfl ?_
          refine sm_iload_n C 1 rfl dX10_hold_62 rfl ?_
          refine sm_iload C 5 rfl dX10_hold_63 ?_
          refine sm_cVI (As := [.int x1, .int x5]) C cfX10_skyBy wd340 kd_79 rfl rfl rfl rfl rfl dX10_hold_65 (fun r h => mX10_skyBy  h) (fun r_14 => ?_)
          refine sm_cSI (As := [.int r_14]) C cfX10_bits wd389 rfl rfl rfl rfl dX10_hold_68 (fun r h => mX10_bits  h) (fun r_16 => ?_)
          refine sm_max C wd365 max_st math_in max_co rfl dX10_hold_71 ?_
          refine sm_let (fun x4_18 => ?_)
          refine sm_istore (lv1 := [(4, .int x4_18), (0, .ref (hB G + 79)), (1, .int x1), (2, .int x2), (3, .int x3), (5, .int x5)]) C dX10_hold_74 rfl rfl ?_
          refine sm_iinc (lv1 := [(5, .int (x5 + 1)), (4, .int x4_18), (0, .ref (hB G + 79)), (1, .int x1), (2, .int x2), (3, .int x3)]) C 5 rfl (iv_1 _) dX10_hold_76 rfl rfl ?_
          refine sm_goto C dX10_hold_79 (tgt := 35) rfl ?_
          refine sm_sub [2, 3, 4, 5, 1, 0] rfl ?_
          exact ih x4_18 (x5 + 1)
        · refine sm_iinc (lv1 := [(5, .int (x5 + 1)), (0, .ref (hB G + 79)), (1, .int x1), (2, .int x2), (3, .int x3), (4, .int x4)]) C 5 rfl (iv_1 _) dX10_hold_76 rfl rfl ?_
          refine sm_goto C dX10_hold_79 (tgt := 35) rfl ?_
          refine sm_sub [1, 2, 3, 4, 5, 0] rfl ?_
          exact ih x4 (x5 + 1)
      · refine sm_iinc (lv1 := [(5, .int (x5 + 1)), (0, .ref (hB G + 79)), (1, .int x1), (2, .int x2), (3, .int x3), (4, .int x4)]) C 5 rfl (iv_1 _) dX10_hold_76 rfl rfl ?_
        refine sm_goto C dX10_hold_79 (tgt := 35) rfl ?_
        refine sm_sub [1, 2, 3, 4, 5, 0] rfl ?_
        exact ih x4 (x5 + 1)
    · refine sm_iload C 4 rfl dX10_hold_82 ?_
      exact sm_iret C E rfl dX10_hold_84
set_option maxRecDepth 100000 in
set_option maxHeartbeats 4000000 in
theorem mX10_hold {b : Bx} {w : HW} {x1 : Int32} {x2 : Int32} {a : Int32} (h : fX10_hold w x1 x2 = some a) : Mt b yX10_hold cX10_hold 6 (some .int) 3 69 [.ref (bB b + 79), .int x1, .int x2] w (some (.int a)) w := by
  refine Mt.of (ρI w) h (by decide) (Nat.le_of_ble_eq_true rfl) (fun G hG C E => ?_)
  subst hG
  have C : Cx G cX10_hold RX10 6 3 69 := C
  change Sm G a 0 [(0, .ref (hB G + 79)), (1, .int x1), (2, .int x2)] [] w _
  unfold fX10_hold
  refine sm_aload_n C 0 rfl dX10_hold_0 rfl ?_
  refine sm_iload_n C 1 rfl dX10_hold_1 rfl ?_
  refine sm_cVI (As := [.int x1]) C cfX10_isSide wd341 kd_79 rfl rfl rfl rfl rfl dX10_hold_2 (fun r h => mX10_isSide  h) (fun r_1 => ?_)
  refine sm_if_eq C dX10_hold_5 (tgt := 20) rfl (fun h_3 => ?_) (fun h_3 => ?_)
  · refine sm_iload_n C 2 rfl dX10_hold_8 rfl ?_
    refine sm_i2l C dX10_hold_9 ?_
    refine sm_lconst C lc_0 dX10_hold_10 ?_
    refine sm_ldc2 C wd396 dX10_hold_11 ?_
    refine sm_cSI (As := [.long (x2.toInt64), .long 0, .long 8]) C cfX10_in wd295 rfl rfl rfl rfl dX10_hold_14 (fun r h => mX10_in  h) (fun r_4 => ?_)
    refine sm_if_ne C dX10_hold_17 (tgt := 23) rfl (fun h_6 => ?_) (fun h_6 => ?_)
    · refine sm_bipush C bp_m2 dX10_hold_20 ?_
      exact sm_iret C E rfl dX10_hold_22
    · refine sm_aload_n C 0 rfl dX10_hold_23 rfl ?_
      refine sm_iload_n C 1 rfl dX10_hold_24 rfl ?_
      refine sm_cVI (As := [.int x1]) C cfX10_sideAugurs wd394 kd_79 rfl rfl rfl rfl rfl dX10_hold_25 (fun r h => mX10_sideAugurs  h) (fun r_7 => ?_)
      refine sm_istore_n (lv1 := [(3, .int r_7), (0, .ref (hB G + 79)), (1, .int x1), (2, .int x2)]) C dX10_hold_28 rfl rfl rfl ?_
      refine sm_iconst C ic_0 dX10_hold_29 ?_
      refine sm_istore (lv1 := [(4, .int 0), (3, .int r_7), (0, .ref (hB G + 79)), (1, .int x1), (2, .int x2)]) C dX10_hold_30 rfl rfl ?_
      refine sm_iconst C ic_0 dX10_hold_32 ?_
      refine sm_istore (lv1 := [(5, .int 0), (4, .int 0), (3, .int r_7), (0, .ref (hB G + 79)), (1, .int x1), (2, .int x2)]) C dX10_hold_33 rfl rfl ?_
      refine sm_sub [3, 4, 5, 2, 1, 0] rfl ?_
      exact sX10_hold_35 C E FU 0 0
  · refine sm_bipush C bp_m2 dX10_hold_20 ?_
    exact sm_iret C E rfl dX10_hold_22
/-! X10_idle -/
set_option maxRecDepth 100000 in
set_option maxHeartbeats 4000000 in
theorem sX10_idle_15 {G : Gx} {a : Int32} {w : HW} (C : Cx G cX10_idle RX10 4 4 90) (E : Rx G (ρI w) a (some .int)) {x1 : Int32} : ∀ (n : Nat) (x2 : Int32) (x3 : Int32), Sm G a 15 [(0, .ref (hB G + 79)), (1, .int x1), (2, .int x2), (3, .int x3)] [] w (fX10_idle_15 w x1 n x2 x3) := by
  intro n
  induction n with
  | zero => intro _ _; exact sm_none
  | succ n ih =>
    intro x2 x3
    rw [fX10_idle_15]
    refine sm_iload_n C 3 rfl dX10_idle_15 rfl ?_
    refine sm_aload_n C 0 rfl dX10_idle_16 rfl ?_
    refine sm_getR C fo_10_1 rfl wd297 kd_79 dX10_idle_17 (rv_79_1 w) (by decide) ?_
    refine sm_iconst C ic_4 dX10_idle_20 ?_
    refine sm_iald C kd_80 dX10_idle_21 (fun h_4 => ?_)
    refine sm_icmp_ge C dX10_idle_22 (tgt := 74) rfl (fun h_5 => ?_) (fun h_5 => ?_)
    · refine sm_iload_n C 2 rfl dX10_idle_25 rfl ?_
      refine sm_aload_n C 0 rfl dX10_idle_26 rfl ?_
      refine sm_iload_n C 3 rfl dX10_idle_27 rfl ?_
      refine sm_iconst C ic_0 dX10_idle_28 ?_
      refine sm_cVI (As := [.int x3, .int 0]) C cfX10_ofAugur wd334 kd_79 rfl rfl rfl rfl rfl dX10_idle_29 (fun r h => mX10_ofAugur  h) (fun r_6 => ?_)
      refine sm_iload_n C 1 rfl dX10_idle_32 rfl ?_
      refine sm_icmp_ne C dX10_idle_33 (tgt := 65) rfl (fun h_8 => ?_) (fun h_8 => ?_)
      · refine sm_aload_n C 0 rfl dX10_idle_36 rfl ?_
        refine sm_iload_n C 1 rfl dX10_idle_37 rfl ?_
        refine sm_aload_n C 0 rfl dX10_idle_38 rfl ?_
        refine sm_cVI (As := []) C cfX10_allAugurs wd339 kd_79 rfl rfl rfl rfl rfl dX10_idle_39 (fun r h => mX10_allAugurs  h) (fun r_9 => ?_)
        refine sm_iconst C ic_1 dX10_idle_42 ?_
        refine sm_iload_n C 3 rfl dX10_idle_43 rfl ?_
        refine sm_ishl C dX10_idle_44 ?_
        refine sm_iconst C ic_m1 dX10_idle_45 ?_
        refine sm_ixor C dX10_idle_46 ?_
        refine sm_iand C dX10_idle_47 ?_
        refine sm_cVI (As := [.int x1, .int (r_9 &&& ((iSl 1 x3) ^^^ (-1)))]) C cfX10_skyBy wd340 kd_79 rfl rfl rfl rfl rfl dX10_idle_48 (fun r h => mX10_skyBy  h) (fun r_11 => ?_)
        refine sm_aload_n C 0 rfl dX10_idle_51 rfl ?_
        refine sm_iload_n C 1 rfl dX10_idle_52 rfl ?_
        refine sm_cVI (As := [.int x1]) C cfX10_skyOf wd342 kd_79 rfl rfl rfl rfl rfl dX10_idle_53 (fun r h => mX10_skyOf  h) (fun r_13 => ?_)
        refine sm_icmp_ne C dX10_idle_56 (tgt := 65) rfl (fun h_15 => ?_) (fun h_15 => ?_)
        · refine sm_iconst C ic_1 dX10_idle_59 ?_
          refine sm_iload_n C 3 rfl dX10_idle_60 rfl ?_
          refine sm_ishl C dX10_idle_61 ?_
          refine sm_goto C dX10_idle_62 (tgt := 66) rfl ?_
          refine sm_ior C dX10_idle_66 ?_
          refine sm_let (fun x2_16 => ?_)
          refine sm_istore_n (lv1 := [(2, .int x2_16), (0, .ref (hB G + 79)), (1, .int x1), (3, .int x3)]) C dX10_idle_67 rfl rfl rfl ?_
          refine sm_iinc (lv1 := [(3, .int (x3 + 1)), (2, .int x2_16), (0, .ref (hB G + 79)), (1, .int x1)]) C 3 rfl (iv_1 _) dX10_idle_68 rfl rfl ?_
          refine sm_goto C dX10_idle_71 (tgt := 15) rfl ?_
          refine sm_sub [2, 3, 1, 0] rfl ?_
          exact ih x2_16 (x3 + 1)
        · refine sm_iconst C ic_0 dX10_idle_65 ?_
          refine sm_ior C dX10_idle_66 ?_
          refine sm_let (fun x2_17 => ?_)
          refine sm_istore_n (lv1 := [(2, .int x2_17), (0, .ref (hB G + 79)), (1, .int x1), (3, .int x3)]) C dX10_idle_67 rfl rfl rfl ?_
          refine sm_iinc (lv1 := [(3, .int (x3 + 1)), (2, .int x2_17), (0, .ref (hB G + 79)), (1, .int x1)]) C 3 rfl (iv_1 _) dX10_idle_68 rfl rfl ?_
          refine sm_goto C dX10_idle_71 (tgt := 15) rfl ?_
          refine sm_sub [2, 3, 1, 0] rfl ?_
          exact ih x2_17 (x3 + 1)
      · refine sm_iconst C ic_0 dX10_idle_65 ?_
        refine sm_ior C dX10_idle_66 ?_
        refine sm_let (fun x2_18 => ?_)
        refine sm_istore_n (lv1 := [(2, .int x2_18), (0, .ref (hB G + 79)), (1, .int x1), (3, .int x3)]) C dX10_idle_67 rfl rfl rfl ?_
        refine sm_iinc (lv1 := [(3, .int (x3 + 1)), (2, .int x2_18), (0, .ref (hB G + 79)), (1, .int x1)]) C 3 rfl (iv_1 _) dX10_idle_68 rfl rfl ?_
        refine sm_goto C dX10_idle_71 (tgt := 15) rfl ?_
        refine sm_sub [2, 3, 1, 0] rfl ?_
        exact ih x2_18 (x3 + 1)
    · refine sm_iload_n C 2 rfl dX10_idle_74 rfl ?_
      exact sm_iret C E rfl dX10_idle_75
set_option maxRecDepth 100000 in
set_option maxHeartbeats 4000000 in
theorem mX10_idle {b : Bx} {w : HW} {x1 : Int32} {a : Int32} (h : fX10_idle w x1 = some a) : Mt b yX10_idle cX10_idle 4 (some .int) 4 90 [.ref (bB b + 79), .int x1] w (some (.int a)) w := by
  refine Mt.of (ρI w) h (by decide) (Nat.le_of_ble_eq_true rfl) (fun G hG C E => ?_)
  subst hG
  have C : Cx G cX10_idle RX10 4 4 90 := C
  change Sm G a 0 [(0, .ref (hB G + 79)), (1, .int x1)] [] w _
  unfold fX10_idle
  refine sm_aload_n C 0 rfl dX10_idle_0 rfl ?_
  refine sm_iload_n C 1 rfl dX10_idle_1 rfl ?_
  refine sm_cVI (As := [.int x1]) C cfX10_isSide wd341 kd_79 rfl rfl rfl rfl rfl dX10_idle_2 (fun r h => mX10_isSide  h) (fun r_1 => ?_)
  refine sm_if_ne C dX10_idle_5 (tgt := 11) rfl (fun h_3 => ?_) (fun h_3 => ?_)
  · refine sm_bipush C bp_m2 dX10_idle_8 ?_
    exact sm_iret C E rfl dX10_idle_10
  · refine sm_iconst C ic_0 dX10_idle_11 ?_
    refine sm_istore_n (lv1 := [(2, .int 0), (0, .ref (hB G + 79)), (1, .int x1)]) C dX10_idle_12 rfl rfl rfl ?_
    refine sm_iconst C ic_0 dX10_idle_13 ?_
    refine sm_istore_n (lv1 := [(3, .int 0), (2, .int 0), (0, .ref (hB G + 79)), (1, .int x1)]) C dX10_idle_14 rfl rfl rfl ?_
    refine sm_sub [2, 3, 1, 0] rfl ?_
    exact sX10_idle_15 C E FU 0 0
/-! X10_lone -/
set_option maxRecDepth 100000 in
set_option maxHeartbeats 4000000 in
theorem sX10_lone_15 {G : Gx} {a : Int32} {w : HW} (C : Cx G cX10_lone RX10 4 4 90) (E : Rx G (ρI w) a (some .int)) {x1 : Int32} : ∀ (n : Nat) (x2 : Int32) (x3 : Int32), Sm G a 15 [(0, .ref (hB G + 79)), (1, .int x1), (2, .int x2), (3, .int x3)] [] w (fX10_lone_15 w x1 n x2 x3) := by
  intro n
  induction n with
  | zero => intro _ _; exact sm_none
  | succ n ih =>
    intro x2 x3
    rw [fX10_lone_15]
    refine sm_iload_n C 3 rfl dX10_lone_15 rfl ?_
    refine sm_aload_n C 0 rfl dX10_lone_16 rfl ?_
    refine sm_getR C fo_10_1 rfl wd297 kd_79 dX10_lone_17 (rv_79_1 w) (by decide) ?_
    refine sm_iconst C ic_4 dX10_lone_20 ?_
    refine sm_iald C kd_80 dX10_lone_21 (fun h_4 => ?_)
    refine sm_icmp_ge C dX10_lone_22 (tgt := 74) rfl (fun h_5 => ?_) (fun h_5 => ?_)
    · refine sm_iload_n C 2 rfl dX10_lone_25 rfl ?_
      refine sm_aload_n C 0 rfl dX10_lone_26 rfl ?_
      refine sm_iload_n C 3 rfl dX10_lone_27 rfl ?_
      refine sm_iconst C ic_0 dX10_lone_28 ?_
      refine sm_cVI (As := [.int x3, .int 0]) C cfX10_ofAugur wd334 kd_79 rfl rfl rfl rfl rfl dX10_lone_29 (fun r h => mX10_ofAugur  h) (fun r_6 => ?_)
      refine sm_iload_n C 1 rfl dX10_lone_32 rfl ?_
      refine sm_icmp_ne C dX10_lone_33 (tgt := 65) rfl (fun h_8 => ?_) (fun h_8 => ?_)
      · refine sm_aload_n C 0 rfl dX10_lone_36 rfl ?_
        refine sm_iload_n C 1 rfl dX10_lone_37 rfl ?_
        refine sm_aload_n C 0 rfl dX10_lone_38 rfl ?_
        refine sm_cVI (As := []) C cfX10_allAugurs wd339 kd_79 rfl rfl rfl rfl rfl dX10_lone_39 (fun r h => mX10_allAugurs  h) (fun r_9 => ?_)
        refine sm_iconst C ic_1 dX10_lone_42 ?_
        refine sm_iload_n C 3 rfl dX10_lone_43 rfl ?_
        refine sm_ishl C dX10_lone_44 ?_
        refine sm_iconst C ic_m1 dX10_lone_45 ?_
        refine sm_ixor C dX10_lone_46 ?_
        refine sm_iand C dX10_lone_47 ?_
        refine sm_cVI (As := [.int x1, .int (r_9 &&& ((iSl 1 x3) ^^^ (-1)))]) C cfX10_skyBy wd340 kd_79 rfl rfl rfl rfl rfl dX10_lone_48 (fun r h => mX10_skyBy  h) (fun r_11 => ?_)
        refine sm_aload_n C 0 rfl dX10_lone_51 rfl ?_
        refine sm_iload_n C 1 rfl dX10_lone_52 rfl ?_
        refine sm_cVI (As := [.int x1]) C cfX10_skyOf wd342 kd_79 rfl rfl rfl rfl rfl dX10_lone_53 (fun r h => mX10_skyOf  h) (fun r_13 => ?_)
        refine sm_icmp_eq C dX10_lone_56 (tgt := 65) rfl (fun h_15 => ?_) (fun h_15 => ?_)
        · refine sm_iconst C ic_1 dX10_lone_59 ?_
          refine sm_iload_n C 3 rfl dX10_lone_60 rfl ?_
          refine sm_ishl C dX10_lone_61 ?_
          refine sm_goto C dX10_lone_62 (tgt := 66) rfl ?_
          refine sm_ior C dX10_lone_66 ?_
          refine sm_let (fun x2_16 => ?_)
          refine sm_istore_n (lv1 := [(2, .int x2_16), (0, .ref (hB G + 79)), (1, .int x1), (3, .int x3)]) C dX10_lone_67 rfl rfl rfl ?_
          refine sm_iinc (lv1 := [(3, .int (x3 + 1)), (2, .int x2_16), (0, .ref (hB G + 79)), (1, .int x1)]) C 3 rfl (iv_1 _) dX10_lone_68 rfl rfl ?_
          refine sm_goto C dX10_lone_71 (tgt := 15) rfl ?_
          refine sm_sub [2, 3, 1, 0] rfl ?_
          exact ih x2_16 (x3 + 1)
        · refine sm_iconst C ic_0 dX10_lone_65 ?_
          refine sm_ior C dX10_lone_66 ?_
          refine sm_let (fun x2_17 => ?_)
          refine sm_istore_n (lv1 := [(2, .int x2_17), (0, .ref (hB G + 79)), (1, .int x1), (3, .int x3)]) C dX10_lone_67 rfl rfl rfl ?_
          refine sm_iinc (lv1 := [(3, .int (x3 + 1)), (2, .int x2_17), (0, .ref (hB G + 79)), (1, .int x1)]) C 3 rfl (iv_1 _) dX10_lone_68 rfl rfl ?_
          refine sm_goto C dX10_lone_71 (tgt := 15) rfl ?_
          refine sm_sub [2, 3, 1, 0] rfl ?_
          exact ih x2_17 (x3 + 1)
      · refine sm_iconst C ic_0 dX10_lone_65 ?_
        refine sm_ior C dX10_lone_66 ?_
        refine sm_let (fun x2_18 => ?_)
        refine sm_istore_n (lv1 := [(2, .int x2_18), (0, .ref (hB G + 79)), (1, .int x1), (3, .int x3)]) C dX10_lone_67 rfl rfl rfl ?_
        refine sm_iinc (lv1 := [(3, .int (x3 + 1)), (2, .int x2_18), (0, .ref (hB G + 79)), (1, .int x1)]) C 3 rfl (iv_1 _) dX10_lone_68 rfl rfl ?_
        refine sm_goto C dX10_lone_71 (tgt := 15) rfl ?_
        refine sm_sub [2, 3, 1, 0] rfl ?_
        exact ih x2_18 (x3 + 1)
    · refine sm_iload_n C 2 rfl dX10_lone_74 rfl ?_
      exact sm_iret C E rfl dX10_lone_75
set_option maxRecDepth 100000 in
set_option maxHeartbeats 4000000 in
theorem mX10_lone {b : Bx} {w : HW} {x1 : Int32} {a : Int32} (h : fX10_lone w x1 = some a) : Mt b yX10_lone cX10_lone 4 (some .int) 4 90 [.ref (bB b + 79), .int x1] w (some (.int a)) w := by
  refine Mt.of (ρI w) h (by decide) (Nat.le_of_ble_eq_true rfl) (fun G hG C E => ?_)
  subst hG
  have C : Cx G cX10_lone RX10 4 4 90 := C
  change Sm G a 0 [(0, .ref (hB G + 79)), (1, .int x1)] [] w _
  unfold fX10_lone
  refine sm_aload_n C 0 rfl dX10_lone_0 rfl ?_
  refine sm_iload_n C 1 rfl dX10_lone_1 rfl ?_
  refine sm_cVI (As := [.int x1]) C cfX10_isSide wd341 kd_79 rfl rfl rfl rfl rfl dX10_lone_2 (fun r h => mX10_isSide  h) (fun r_1 => ?_)
  refine sm_if_ne C dX10_lone_5 (tgt := 11) rfl (fun h_3 => ?_) (fun h_3 => ?_)
  · refine sm_bipush C bp_m2 dX10_lone_8 ?_
    exact sm_iret C E rfl dX10_lone_10
  · refine sm_iconst C ic_0 dX10_lone_11 ?_
    refine sm_istore_n (lv1 := [(2, .int 0), (0, .ref (hB G + 79)), (1, .int x1)]) C dX10_lone_12 rfl rfl rfl ?_
    refine sm_iconst C ic_0 dX10_lone_13 ?_
    refine sm_istore_n (lv1 := [(3, .int 0), (2, .int 0), (0, .ref (hB G + 79)), (1, .int x1)]) C dX10_lone_14 rfl rfl rfl ?_
    refine sm_sub [2, 3, 1, 0] rfl ?_
    exact sX10_lone_15 C E FU 0 0
/-! X10_tenure -/
set_option maxRecDepth 100000 in
set_option maxHeartbeats 4000000 in
theorem sX10_tenure_15 {G : Gx} {a : Int32} {w : HW} (C : Cx G cX10_tenure RX10 4 2 46) (E : Rx G (ρI w) a (some .int)) {x1 : Int32} : ∀ (n : Nat) (x2 : Int32) (x3 : Int32), Sm G a 15 [(0, .ref (hB G + 79)), (1, .int x1), (2, .int x2), (3, .int x3)] [] w (fX10_tenure_15 w x1 n x2 x3) := by
  intro n
  induction n with
  | zero => intro _ _; exact sm_none
  | succ n ih =>
    intro x2 x3
    rw [fX10_tenure_15]
    refine sm_iload_n C 3 rfl dX10_tenure_15 rfl ?_
    refine sm_aload_n C 0 rfl dX10_tenure_16 rfl ?_
    refine sm_getR C fo_10_1 rfl wd297 kd_79 dX10_tenure_17 (rv_79_1 w) (by decide) ?_
    refine sm_iconst C ic_4 dX10_tenure_20 ?_
    refine sm_iald C kd_80 dX10_tenure_21 (fun h_4 => ?_)
    refine sm_icmp_ge C dX10_tenure_22 (tgt := 67) rfl (fun h_5 => ?_) (fun h_5 => ?_)
    · refine sm_aload_n C 0 rfl dX10_tenure_25 rfl ?_
      refine sm_iload_n C 3 rfl dX10_tenure_26 rfl ?_
      refine sm_iconst C ic_0 dX10_tenure_27 ?_
      refine sm_cVI (As := [.int x3, .int 0]) C cfX10_ofAugur wd334 kd_79 rfl rfl rfl rfl rfl dX10_tenure_28 (fun r h => mX10_ofAugur  h) (fun r_6 => ?_)
      refine sm_iload_n C 1 rfl dX10_tenure_31 rfl ?_
      refine sm_icmp_ne C dX10_tenure_32 (tgt := 61) rfl (fun h_8 => ?_) (fun h_8 => ?_)
      · refine sm_iload_n C 2 rfl dX10_tenure_35 rfl ?_
        refine sm_iconst C ic_m1 dX10_tenure_36 ?_
        refine sm_icmp_eq C dX10_tenure_37 (tgt := 59) rfl (fun h_9 => ?_) (fun h_9 => ?_)
        · refine sm_aload_n C 0 rfl dX10_tenure_40 rfl ?_
          refine sm_iload_n C 3 rfl dX10_tenure_41 rfl ?_
          refine sm_cVI (As := [.int x3]) C cfX10_daysOf wd338 kd_79 rfl rfl rfl rfl rfl dX10_tenure_42 (fun r h => mX10_daysOf  h) (fun r_10 => ?_)
          refine sm_cSI (As := [.int r_10]) C cfX10_bits wd389 rfl rfl rfl rfl dX10_tenure_45 (fun r h => mX10_bits  h) (fun r_12 => ?_)
          refine sm_aload_n C 0 rfl dX10_tenure_48 rfl ?_
          refine sm_iload_n C 2 rfl dX10_tenure_49 rfl ?_
          refine sm_cVI (As := [.int x2]) C cfX10_daysOf wd338 kd_79 rfl rfl rfl rfl rfl dX10_tenure_50 (fun r h => mX10_daysOf  h) (fun r_14 => ?_)
          refine sm_cSI (As := [.int r_14]) C cfX10_bits wd389 rfl rfl rfl rfl dX10_tenure_53 (fun r h => mX10_bits  h) (fun r_16 => ?_)
          refine sm_icmp_le C dX10_tenure_56 (tgt := 61) rfl (fun h_18 => ?_) (fun h_18 => ?_)
          · refine sm_iload_n C 3 rfl dX10_tenure_59 rfl ?_
            refine sm_istore_n (lv1 := [(2, .int x3), (0, .ref (hB G + 79)), (1, .int x1), (3, .int x3)]) C dX10_tenure_60 rfl rfl rfl ?_
            refine sm_iinc (lv1 := [(3, .int (x3 + 1)), (2, .int x3), (0, .ref (hB G + 79)), (1, .int x1)]) C 3 rfl (iv_1 _) dX10_tenure_61 rfl rfl ?_
            refine sm_goto C dX10_tenure_64 (tgt := 15) rfl ?_
            refine sm_sub [2, 3, 1, 0] rfl ?_
            exact ih x3 (x3 + 1)
          · refine sm_iinc (lv1 := [(3, .int (x3 + 1)), (0, .ref (hB G + 79)), (1, .int x1), (2, .int x2)]) C 3 rfl (iv_1 _) dX10_tenure_61 rfl rfl ?_
            refine sm_goto C dX10_tenure_64 (tgt := 15) rfl ?_
            refine sm_sub [1, 2, 3, 0] rfl ?_
            exact ih x2 (x3 + 1)
        · refine sm_iload_n C 3 rfl dX10_tenure_59 rfl ?_
          refine sm_istore_n (lv1 := [(2, .int x3), (0, .ref (hB G + 79)), (1, .int x1), (3, .int x3)]) C dX10_tenure_60 rfl rfl rfl ?_
          refine sm_iinc (lv1 := [(3, .int (x3 + 1)), (2, .int x3), (0, .ref (hB G + 79)), (1, .int x1)]) C 3 rfl (iv_1 _) dX10_tenure_61 rfl rfl ?_
          refine sm_goto C dX10_tenure_64 (tgt := 15) rfl ?_
          refine sm_sub [2, 3, 1, 0] rfl ?_
          exact ih x3 (x3 + 1)
      · refine sm_iinc (lv1 := [(3, .int (x3 + 1)), (0, .ref (hB G + 79)), (1, .int x1), (2, .int x2)]) C 3 rfl (iv_1 _) dX10_tenure_61 rfl rfl ?_
        refine sm_goto C dX10_tenure_64 (tgt := 15) rfl ?_
        refine sm_sub [1, 2, 3, 0] rfl ?_
        exact ih x2 (x3 + 1)
    · refine sm_iload_n C 2 rfl dX10_tenure_67 rfl ?_
      exact sm_iret C E rfl dX10_tenure_68
set_option maxRecDepth 100000 in
set_option maxHeartbeats 4000000 in
theorem mX10_tenure {b : Bx} {w : HW} {x1 : Int32} {a : Int32} (h : fX10_tenure w x1 = some a) : Mt b yX10_tenure cX10_tenure 4 (some .int) 2 46 [.ref (bB b + 79), .int x1] w (some (.int a)) w := by
  refine Mt.of (ρI w) h (by decide) (Nat.le_of_ble_eq_true rfl) (fun G hG C E => ?_)
  subst hG
  have C : Cx G cX10_tenure RX10 4 2 46 := C
  change Sm G a 0 [(0, .ref (hB G + 79)), (1, .int x1)] [] w _
  unfold fX10_tenure
  refine sm_aload_n C 0 rfl dX10_tenure_0 rfl ?_
  refine sm_iload_n C 1 rfl dX10_tenure_1 rfl ?_
  refine sm_cVI (As := [.int x1]) C cfX10_isSide wd341 kd_79 rfl rfl rfl rfl rfl dX10_tenure_2 (fun r h => mX10_isSide  h) (fun r_1 => ?_)
  refine sm_if_ne C dX10_tenure_5 (tgt := 11) rfl (fun h_3 => ?_) (fun h_3 => ?_)
  · refine sm_bipush C bp_m2 dX10_tenure_8 ?_
    exact sm_iret C E rfl dX10_tenure_10
  · refine sm_iconst C ic_m1 dX10_tenure_11 ?_
    refine sm_istore_n (lv1 := [(2, .int (-1)), (0, .ref (hB G + 79)), (1, .int x1)]) C dX10_tenure_12 rfl rfl rfl ?_
    refine sm_iconst C ic_0 dX10_tenure_13 ?_
    refine sm_istore_n (lv1 := [(3, .int 0), (2, .int (-1)), (0, .ref (hB G + 79)), (1, .int x1)]) C dX10_tenure_14 rfl rfl rfl ?_
    refine sm_sub [2, 3, 1, 0] rfl ?_
    exact sX10_tenure_15 C E FU (-1) 0
/-! X10_clear -/
set_option maxRecDepth 100000 in
set_option maxHeartbeats 4000000 in
theorem mX10_clear {b : Bx} {w : HW} {x1 : Int32} {a : Int32} (h : fX10_clear w x1 = some a) : Mt b yX10_clear cX10_clear 2 (some .int) 4 91 [.ref (bB b + 79), .int x1] w (some (.int a)) w := by
  refine Mt.of (ρI w) h (by decide) (Nat.le_of_ble_eq_true rfl) (fun G hG C E => ?_)
  subst hG
  have C : Cx G cX10_clear RX10 2 4 91 := C
  change Sm G a 0 [(0, .ref (hB G + 79)), (1, .int x1)] [] w _
  unfold fX10_clear
  refine sm_aload_n C 0 rfl dX10_clear_0 rfl ?_
  refine sm_iload_n C 1 rfl dX10_clear_1 rfl ?_
  refine sm_cVI (As := [.int x1]) C cfX10_isSide wd341 kd_79 rfl rfl rfl rfl rfl dX10_clear_2 (fun r h => mX10_isSide  h) (fun r_1 => ?_)
  refine sm_if_eq C dX10_clear_5 (tgt := 16) rfl (fun h_3 => ?_) (fun h_3 => ?_)
  · refine sm_aload_n C 0 rfl dX10_clear_8 rfl ?_
    refine sm_iload_n C 1 rfl dX10_clear_9 rfl ?_
    refine sm_cVI (As := [.int x1]) C cfX10_freeDays wd375 kd_79 rfl rfl rfl rfl rfl dX10_clear_10 (fun r h => mX10_freeDays  h) (fun r_4 => ?_)
    refine sm_goto C dX10_clear_13 (tgt := 18) rfl ?_
    exact sm_iret C E rfl dX10_clear_18
  · refine sm_bipush C bp_m2 dX10_clear_16 ?_
    exact sm_iret C E rfl dX10_clear_18
/-! X10_run -/
set_option maxRecDepth 100000 in
set_option maxHeartbeats 4000000 in
theorem mX10_run {b : Bx} {w : HW} {x1 : Int32} {a : Int32} (h : fX10_run w x1 = some a) : Mt b yX10_run cX10_run 2 (some .int) 4 91 [.ref (bB b + 79), .int x1] w (some (.int a)) w := by
  refine Mt.of (ρI w) h (by decide) (Nat.le_of_ble_eq_true rfl) (fun G hG C E => ?_)
  subst hG
  have C : Cx G cX10_run RX10 2 4 91 := C
  change Sm G a 0 [(0, .ref (hB G + 79)), (1, .int x1)] [] w _
  unfold fX10_run
  refine sm_aload_n C 0 rfl dX10_run_0 rfl ?_
  refine sm_iload_n C 1 rfl dX10_run_1 rfl ?_
  refine sm_cVI (As := [.int x1]) C cfX10_isSide wd341 kd_79 rfl rfl rfl rfl rfl dX10_run_2 (fun r h => mX10_isSide  h) (fun r_1 => ?_)
  refine sm_if_eq C dX10_run_5 (tgt := 20) rfl (fun h_3 => ?_) (fun h_3 => ?_)
  · refine sm_aload_n C 0 rfl dX10_run_8 rfl ?_
    refine sm_aload_n C 0 rfl dX10_run_9 rfl ?_
    refine sm_iload_n C 1 rfl dX10_run_10 rfl ?_
    refine sm_cVI (As := [.int x1]) C cfX10_freeDays wd375 kd_79 rfl rfl rfl rfl rfl dX10_run_11 (fun r h => mX10_freeDays  h) (fun r_4 => ?_)
    refine sm_cVI (As := [.int r_4]) C cfX10_runOf wd367 kd_79 rfl rfl rfl rfl rfl dX10_run_14 (fun r h => mX10_runOf  h) (fun r_6 => ?_)
    refine sm_goto C dX10_run_17 (tgt := 22) rfl ?_
    exact sm_iret C E rfl dX10_run_22
  · refine sm_bipush C bp_m2 dX10_run_20 ?_
    exact sm_iret C E rfl dX10_run_22
/-! X10_both -/
set_option maxRecDepth 100000 in
set_option maxHeartbeats 4000000 in
theorem mX10_both {b : Bx} {w : HW} {a : Int32} (h : fX10_both w = some a) : Mt b yX10_both cX10_both 1 (some .int) 4 90 [.ref (bB b + 79)] w (some (.int a)) w := by
  refine Mt.of (ρI w) h (by decide) (Nat.le_of_ble_eq_true rfl) (fun G hG C E => ?_)
  subst hG
  have C : Cx G cX10_both RX10 1 4 90 := C
  change Sm G a 0 [(0, .ref (hB G + 79))] [] w _
  unfold fX10_both
  refine sm_aload_n C 0 rfl dX10_both_0 rfl ?_
  refine sm_cVI (As := []) C cfX10_isCamp wd299 kd_79 rfl rfl rfl rfl rfl dX10_both_1 (fun r h => mX10_isCamp  h) (fun r_1 => ?_)
  refine sm_if_eq C dX10_both_4 (tgt := 21) rfl (fun h_3 => ?_) (fun h_3 => ?_)
  · refine sm_aload_n C 0 rfl dX10_both_7 rfl ?_
    refine sm_iconst C ic_0 dX10_both_8 ?_
    refine sm_cVI (As := [.int 0]) C cfX10_skyOf wd342 kd_79 rfl rfl rfl rfl rfl dX10_both_9 (fun r h => mX10_skyOf  h) (fun r_4 => ?_)
    refine sm_aload_n C 0 rfl dX10_both_12 rfl ?_
    refine sm_iconst C ic_1 dX10_both_13 ?_
    refine sm_cVI (As := [.int 1]) C cfX10_skyOf wd342 kd_79 rfl rfl rfl rfl rfl dX10_both_14 (fun r h => mX10_skyOf  h) (fun r_6 => ?_)
    refine sm_iand C dX10_both_17 ?_
    refine sm_goto C dX10_both_18 (tgt := 23) rfl ?_
    exact sm_iret C E rfl dX10_both_23
  · refine sm_bipush C bp_m2 dX10_both_21 ?_
    exact sm_iret C E rfl dX10_both_23
/-! X10_fallsBy -/
set_option maxRecDepth 100000 in
set_option maxHeartbeats 4000000 in
theorem sX10_fallsBy_25 {G : Gx} {a : Int32} {w : HW} (C : Cx G cX10_fallsBy RX10 4 2 45) (E : Rx G (ρI w) a (some .int)) : ∀ (n : Nat) (x2 : Int32) (x3 : Int32), Sm G a 25 [(0, .ref (hB G + 79)), (2, .int x2), (3, .int x3)] [] w (fX10_fallsBy_25 w n x2 x3) := by
  intro n
  induction n with
  | zero => intro _ _; exact sm_none
  | succ n ih =>
    intro x2 x3
    rw [fX10_fallsBy_25]
    refine sm_iload_n C 2 rfl dX10_fallsBy_25 rfl ?_
    refine sm_aload_n C 0 rfl dX10_fallsBy_26 rfl ?_
    refine sm_getR C fo_10_1 rfl wd297 kd_79 dX10_fallsBy_27 (rv_79_1 w) (by decide) ?_
    refine sm_iconst C ic_5 dX10_fallsBy_30 ?_
    refine sm_iald C kd_80 dX10_fallsBy_31 (fun h_5 => ?_)
    refine sm_icmp_ge C dX10_fallsBy_32 (tgt := 67) rfl (fun h_6 => ?_) (fun h_6 => ?_)
    · refine sm_aload_n C 0 rfl dX10_fallsBy_35 rfl ?_
      refine sm_getR C fo_10_18 rfl wd347 kd_79 dX10_fallsBy_36 (rv_79_18 w) (by decide) ?_
      refine sm_iload_n C 2 rfl dX10_fallsBy_39 rfl ?_
      refine sm_iald C kd_89 dX10_fallsBy_40 (fun h_7 => ?_)
      refine sm_iconst C ic_m1 dX10_fallsBy_41 ?_
      refine sm_icmp_eq C dX10_fallsBy_42 (tgt := 61) rfl (fun h_8 => ?_) (fun h_8 => ?_)
      · refine sm_aload_n C 0 rfl dX10_fallsBy_45 rfl ?_
        refine sm_iload_n C 2 rfl dX10_fallsBy_46 rfl ?_
        refine sm_cVI (As := [.int x3]) C cfX10_needsOf wd388 kd_79 rfl rfl rfl rfl rfl dX10_fallsBy_47 (fun r h => mX10_needsOf  h) (fun r_9 => ?_)
        refine sm_iload_n C 1 rfl dX10_fallsBy_50 rfl ?_
        refine sm_iand C dX10_fallsBy_51 ?_
        refine sm_if_eq C dX10_fallsBy_52 (tgt := 61) rfl (fun h_11 => ?_) (fun h_11 => ?_)
        · refine sm_iload_n C 1 rfl dX10_fallsBy_55 rfl ?_
          refine sm_iconst C ic_1 dX10_fallsBy_56 ?_
          refine sm_iload_n C 2 rfl dX10_fallsBy_57 rfl ?_
          refine sm_ishl C dX10_fallsBy_58 ?_
          refine sm_ior C dX10_fallsBy_59 ?_
          refine sm_let (fun x2_12 => ?_)
          refine sm_istore_n (lv1 := [(2, .int x2_12), (0, .ref (hB G + 79)), (3, .int x3)]) C dX10_fallsBy_60 rfl rfl rfl ?_
          refine sm_iinc (lv1 := [(3, .int (x3 + 1)), (2, .int x2_12), (0, .ref (hB G + 79))]) C 2 rfl (iv_1 _) dX10_fallsBy_61 rfl rfl ?_
          refine sm_goto C dX10_fallsBy_64 (tgt := 25) rfl ?_
          refine sm_sub [2, 1, 0] rfl ?_
          exact ih x2_12 (x3 + 1)
        · refine sm_iinc (lv1 := [(3, .int (x3 + 1)), (0, .ref (hB G + 79)), (2, .int x2)]) C 2 rfl (iv_1 _) dX10_fallsBy_61 rfl rfl ?_
          refine sm_goto C dX10_fallsBy_64 (tgt := 25) rfl ?_
          refine sm_sub [1, 2, 0] rfl ?_
          exact ih x2 (x3 + 1)
      · refine sm_iinc (lv1 := [(3, .int (x3 + 1)), (0, .ref (hB G + 79)), (2, .int x2)]) C 2 rfl (iv_1 _) dX10_fallsBy_61 rfl rfl ?_
        refine sm_goto C dX10_fallsBy_64 (tgt := 25) rfl ?_
        refine sm_sub [1, 2, 0] rfl ?_
        exact ih x2 (x3 + 1)
    · refine sm_iload_n C 1 rfl dX10_fallsBy_67 rfl ?_
      exact sm_iret C E rfl dX10_fallsBy_68
set_option maxRecDepth 100000 in
set_option maxHeartbeats 4000000 in
theorem mX10_fallsBy {b : Bx} {w : HW} {x1 : Int32} {a : Int32} (h : fX10_fallsBy w x1 = some a) : Mt b yX10_fallsBy cX10_fallsBy 4 (some .int) 2 45 [.ref (bB b + 79), .int x1] w (some (.int a)) w := by
  refine Mt.of (ρI w) h (by decide) (Nat.le_of_ble_eq_true rfl) (fun G hG C E => ?_)
  subst hG
  have C : Cx G cX10_fallsBy RX10 4 2 45 := C
  change Sm G a 0 [(0, .ref (hB G + 79)), (1, .int x1)] [] w _
  unfold fX10_fallsBy
  refine sm_aload_n C 0 rfl dX10_fallsBy_0 rfl ?_
  refine sm_getR C fo_10_17 rfl wd356 kd_79 dX10_fallsBy_1 (rv_79_17 w) (by decide) ?_
  refine sm_iload_n C 1 rfl dX10_fallsBy_4 rfl ?_
  refine sm_iald C kd_88 dX10_fallsBy_5 (fun h_1 => ?_)
  refine sm_iconst C ic_m1 dX10_fallsBy_6 ?_
  refine sm_icmp_ne C dX10_fallsBy_7 (tgt := 14) rfl (fun h_2 => ?_) (fun h_2 => ?_)
  · refine sm_iconst C ic_0 dX10_fallsBy_10 ?_
    refine sm_goto C dX10_fallsBy_11 (tgt := 22) rfl ?_
    refine sm_istore_n (lv1 := [(2, .int 0), (0, .ref (hB G + 79)), (1, .int x1)]) C dX10_fallsBy_22 rfl rfl rfl ?_
    refine sm_iconst C ic_0 dX10_fallsBy_23 ?_
    refine sm_istore_n (lv1 := [(3, .int 0), (2, .int 0), (0, .ref (hB G + 79)), (1, .int x1)]) C dX10_fallsBy_24 rfl rfl rfl ?_
    refine sm_sub [2, 1, 0] rfl ?_
    exact sX10_fallsBy_25 C E FU 0 0
  · refine sm_iconst C ic_1 dX10_fallsBy_14 ?_
    refine sm_aload_n C 0 rfl dX10_fallsBy_15 rfl ?_
    refine sm_getR C fo_10_17 rfl wd356 kd_79 dX10_fallsBy_16 (rv_79_17 w) (by decide) ?_
    refine sm_iload_n C 1 rfl dX10_fallsBy_19 rfl ?_
    refine sm_iald C kd_88 dX10_fallsBy_20 (fun h_3 => ?_)
    refine sm_ishl C dX10_fallsBy_21 ?_
    refine sm_let (fun x2_4 => ?_)
    refine sm_istore_n (lv1 := [(2, .int x2_4), (0, .ref (hB G + 79)), (1, .int x1)]) C dX10_fallsBy_22 rfl rfl rfl ?_
    refine sm_iconst C ic_0 dX10_fallsBy_23 ?_
    refine sm_istore_n (lv1 := [(3, .int 0), (2, .int x2_4), (0, .ref (hB G + 79)), (1, .int x1)]) C dX10_fallsBy_24 rfl rfl rfl ?_
    refine sm_sub [2, 1, 0] rfl ?_
    exact sX10_fallsBy_25 C E FU x2_4 0
/-! X10_falls -/
set_option maxRecDepth 100000 in
set_option maxHeartbeats 4000000 in
theorem mX10_falls {b : Bx} {w : HW} {x1 : Int32} {a : Int32 × HW} (h : fX10_falls w x1 = some a) : Mt b yX10_falls cX10_falls 2 (some .int) 8 178 [.ref (bB b + 79), .int x1] w (some (.int a.1)) a.2 := by
  refine Mt.of ρIW h (by decide) (Nat.le_of_ble_eq_true rfl) (fun G hG C E => ?_)
  subst hG
  have C : Cx G cX10_falls RX10 2 8 178 := C
  change Sm G a 0 [(0, .ref (hB G + 79)), (1, .int x1)] [] w _
  unfold fX10_falls
  refine sm_aload_n C 0 rfl dX10_falls_0 rfl ?_
  refine sm_iload_n C 1 rfl dX10_falls_1 rfl ?_
  refine sm_cVIW (As := [.int x1]) C cfX10_asksDay wd363 kd_79 rfl rfl rfl rfl rfl dX10_falls_2 (fun r h => mX10_asksDay  h) (fun r_1 w_2 => ?_)
  refine sm_if_eq C dX10_falls_5 (tgt := 16) rfl (fun h_3 => ?_) (fun h_3 => ?_)
  · refine sm_aload_n C 0 rfl dX10_falls_8 rfl ?_
    refine sm_iload_n C 1 rfl dX10_falls_9 rfl ?_
    refine sm_cVI (As := [.int x1]) C cfX10_fallsBy wd397 kd_79 rfl rfl rfl rfl rfl dX10_falls_10 (fun r h => mX10_fallsBy  h) (fun r_4 => ?_)
    refine sm_goto C dX10_falls_13 (tgt := 18) rfl ?_
    exact sm_iret C E rfl dX10_falls_18
  · refine sm_bipush C bp_m2 dX10_falls_16 ?_
    exact sm_iret C E rfl dX10_falls_18
/-! X10_worthBy -/
set_option maxRecDepth 100000 in
set_option maxHeartbeats 4000000 in
theorem sX10_worthBy_4 {G : Gx} {a : Int32} {w : HW} (C : Cx G cX10_worthBy RX10 4 1 22) (E : Rx G (ρI w) a (some .int)) {x1 : Int32} : ∀ (n : Nat) (x2 : Int32) (x3 : Int32), Sm G a 4 [(0, .ref (hB G + 79)), (1, .int x1), (2, .int x2), (3, .int x3)] [] w (fX10_worthBy_4 w x1 n x2 x3) := by
  intro n
  induction n with
  | zero => intro _ _; exact sm_none
  | succ n ih =>
    intro x2 x3
    rw [fX10_worthBy_4]
    refine sm_iload_n C 3 rfl dX10_worthBy_4 rfl ?_
    refine sm_aload_n C 0 rfl dX10_worthBy_5 rfl ?_
    refine sm_getR C fo_10_1 rfl wd297 kd_79 dX10_worthBy_6 (rv_79_1 w) (by decide) ?_
    refine sm_iconst C ic_5 dX10_worthBy_9 ?_
    refine sm_iald C kd_80 dX10_worthBy_10 (fun h_1 => ?_)
    refine sm_icmp_ge C dX10_worthBy_11 (tgt := 35) rfl (fun h_2 => ?_) (fun h_2 => ?_)
    · refine sm_iload_n C 2 rfl dX10_worthBy_14 rfl ?_
      refine sm_iload_n C 1 rfl dX10_worthBy_15 rfl ?_
      refine sm_iload_n C 3 rfl dX10_worthBy_16 rfl ?_
      refine sm_cSI (As := [.int x1, .int x3]) C cfX10_bit wd337 rfl rfl rfl rfl dX10_worthBy_17 (fun r h => mX10_bit  h) (fun r_3 => ?_)
      refine sm_aload_n C 0 rfl dX10_worthBy_20 rfl ?_
      refine sm_iload_n C 3 rfl dX10_worthBy_21 rfl ?_
      refine sm_iconst C ic_1 dX10_worthBy_22 ?_
      refine sm_cVI (As := [.int x3, .int 1]) C cfX10_of wd336 kd_79 rfl rfl rfl rfl rfl dX10_worthBy_23 (fun r h => mX10_of  h) (fun r_5 => ?_)
      refine sm_imul C dX10_worthBy_26 ?_
      refine sm_iadd C dX10_worthBy_27 ?_
      refine sm_let (fun x2_7 => ?_)
      refine sm_istore_n (lv1 := [(2, .int x2_7), (0, .ref (hB G + 79)), (1, .int x1), (3, .int x3)]) C dX10_worthBy_28 rfl rfl rfl ?_
      refine sm_iinc (lv1 := [(3, .int (x3 + 1)), (2, .int x2_7), (0, .ref (hB G + 79)), (1, .int x1)]) C 3 rfl (iv_1 _) dX10_worthBy_29 rfl rfl ?_
      refine sm_goto C dX10_worthBy_32 (tgt := 4) rfl ?_
      refine sm_sub [2, 3, 1, 0] rfl ?_
      exact ih x2_7 (x3 + 1)
    · refine sm_iload_n C 2 rfl dX10_worthBy_35 rfl ?_
      exact sm_iret C E rfl dX10_worthBy_36
set_option maxRecDepth 100000 in
set_option maxHeartbeats 4000000 in
theorem mX10_worthBy {b : Bx} {w : HW} {x1 : Int32} {a : Int32} (h : fX10_worthBy w x1 = some a) : Mt b yX10_worthBy cX10_worthBy 4 (some .int) 1 22 [.ref (bB b + 79), .int x1] w (some (.int a)) w := by
  refine Mt.of (ρI w) h (by decide) (Nat.le_of_ble_eq_true rfl) (fun G hG C E => ?_)
  subst hG
  have C : Cx G cX10_worthBy RX10 4 1 22 := C
  change Sm G a 0 [(0, .ref (hB G + 79)), (1, .int x1)] [] w _
  unfold fX10_worthBy
  refine sm_iconst C ic_0 dX10_worthBy_0 ?_
  refine sm_istore_n (lv1 := [(2, .int 0), (0, .ref (hB G + 79)), (1, .int x1)]) C dX10_worthBy_1 rfl rfl rfl ?_
  refine sm_iconst C ic_0 dX10_worthBy_2 ?_
  refine sm_istore_n (lv1 := [(3, .int 0), (2, .int 0), (0, .ref (hB G + 79)), (1, .int x1)]) C dX10_worthBy_3 rfl rfl rfl ?_
  refine sm_sub [2, 3, 1, 0] rfl ?_
  exact sX10_worthBy_4 C E FU 0 0
/-! X10_worst -/
set_option maxRecDepth 100000 in
set_option maxHeartbeats 4000000 in
theorem sX10_worst_16 {G : Gx} {a : Int32 × HW} (C : Cx G cX10_worst RX10 5 7 157) (E : Rx G ρIW a (some .int)) : ∀ (n : Nat) (w : HW) (x1 : Int32) (x2 : Int32) (x3 : Int32), Sm G a 16 [(0, .ref (hB G + 79)), (1, .int x1), (2, .int x2), (3, .int x3)] [] w (fX10_worst_16 n w x1 x2 x3) := by
  intro n
  induction n with
  | zero => intro _ _ _ _; exact sm_none
  | succ n ih =>
    intro w x1 x2 x3
    rw [fX10_worst_16]
    refine sm_iload_n C 3 rfl dX10_worst_16 rfl ?_
    refine sm_aload_n C 0 rfl dX10_worst_17 rfl ?_
    refine sm_getR C fo_10_1 rfl wd297 kd_79 dX10_worst_18 (rv_79_1 w) (by decide) ?_
    refine sm_iconst C ic_0 dX10_worst_21 ?_
    refine sm_iald C kd_80 dX10_worst_22 (fun h_4 => ?_)
    refine sm_icmp_ge C dX10_worst_23 (tgt := 57) rfl (fun h_5 => ?_) (fun h_5 => ?_)
    · refine sm_aload_n C 0 rfl dX10_worst_26 rfl ?_
      refine sm_aload_n C 0 rfl dX10_worst_27 rfl ?_
      refine sm_iload_n C 3 rfl dX10_worst_28 rfl ?_
      refine sm_cVI (As := [.int x3]) C cfX10_fallsBy wd397 kd_79 rfl rfl rfl rfl rfl dX10_worst_29 (fun r h => mX10_fallsBy  h) (fun r_6 => ?_)
      refine sm_cVI (As := [.int r_6]) C cfX10_worthBy wd398 kd_79 rfl rfl rfl rfl rfl dX10_worst_32 (fun r h => mX10_worthBy  h) (fun r_8 => ?_)
      refine sm_istore (lv1 := [(4, .int r_8), (0, .ref (hB G + 79)), (1, .int x1), (2, .int x2), (3, .int x3)]) C dX10_worst_35 rfl rfl ?_
      refine sm_iload C 0 rfl dX10_worst_37 ?_
      refine sm_iload_n C 3 rfl dX10_worst_39 rfl ?_
      refine sm_icmp_gt C dX10_worst_40 (tgt := 46) rfl (fun h_10 => ?_) (fun h_10 => ?_)
      · refine sm_goto C dX10_worst_43 (tgt := 51) rfl ?_
        refine sm_iinc (lv1 := [(3, .int (x3 + 1)), (4, .int r_8), (0, .ref (hB G + 79)), (1, .int x1), (2, .int x2)]) C 4 rfl (iv_1 _) dX10_worst_51 rfl rfl ?_
        refine sm_goto C dX10_worst_54 (tgt := 16) rfl ?_
        refine sm_sub [2, 3, 4, 0] rfl ?_
        exact ih w x1 x2 (x3 + 1)
      · refine sm_iload C 0 rfl dX10_worst_46 ?_
        refine sm_istore_n (lv1 := [(2, .int r_8), (4, .int r_8), (0, .ref (hB G + 79)), (1, .int x1), (3, .int x3)]) C dX10_worst_48 rfl rfl rfl ?_
        refine sm_iload_n C 4 rfl dX10_worst_49 rfl ?_
        refine sm_istore_n (lv1 := [(1, .int x3), (2, .int r_8), (4, .int r_8), (0, .ref (hB G + 79)), (3, .int x3)]) C dX10_worst_50 rfl rfl rfl ?_
        refine sm_iinc (lv1 := [(3, .int (x3 + 1)), (1, .int x3), (2, .int r_8), (4, .int r_8), (0, .ref (hB G + 79))]) C 4 rfl (iv_1 _) dX10_worst_51 rfl rfl ?_
        refine sm_goto C dX10_worst_54 (tgt := 16) rfl ?_
        refine sm_sub [4, 1, 2, 0] rfl ?_
        exact ih w x3 r_8 (x3 + 1)
    · refine sm_iload_n C 1 rfl dX10_worst_57 rfl ?_
      exact sm_iret C E rfl dX10_worst_58
set_option maxRecDepth 100000 in
set_option maxHeartbeats 4000000 in
theorem mX10_worst {b : Bx} {w : HW} {a : Int32 × HW} (h : fX10_worst w = some a) : Mt b yX10_worst cX10_worst 5 (some .int) 7 157 [.ref (bB b + 79)] w (some (.int a.1)) a.2 := by
  refine Mt.of ρIW h (by decide) (Nat.le_of_ble_eq_true rfl) (fun G hG C E => ?_)
  subst hG
  have C : Cx G cX10_worst RX10 5 7 157 := C
  change Sm G a 0 [(0, .ref (hB G + 79))] [] w _
  unfold fX10_worst
  refine sm_aload_n C 0 rfl dX10_worst_0 rfl ?_
  refine sm_cVIW (As := []) C cfX10_asksCamp wd362 kd_79 rfl rfl rfl rfl rfl dX10_worst_1 (fun r h => mX10_asksCamp  h) (fun r_1 w_2 => ?_)
  refine sm_if_ne C dX10_worst_4 (tgt := 10) rfl (fun h_3 => ?_) (fun h_3 => ?_)
  · refine sm_bipush C bp_m2 dX10_worst_7 ?_
    exact sm_iret C E rfl dX10_worst_9
  · refine sm_iconst C ic_m1 dX10_worst_10 ?_
    refine sm_istore_n (lv1 := [(1, .int (-1)), (0, .ref (hB G + 79))]) C dX10_worst_11 rfl rfl rfl ?_
    refine sm_iconst C ic_0 dX10_worst_12 ?_
    refine sm_istore_n (lv1 := [(2, .int 0), (1, .int (-1)), (0, .ref (hB G + 79))]) C dX10_worst_13 rfl rfl rfl ?_
    refine sm_iconst C ic_0 dX10_worst_14 ?_
    refine sm_istore_n (lv1 := [(3, .int 0), (2, .int 0), (1, .int (-1)), (0, .ref (hB G + 79))]) C dX10_worst_15 rfl rfl rfl ?_
    refine sm_sub [3, 2, 1, 0] rfl ?_
    exact sX10_worst_16 C E FU w_2 (-1) 0 0
/-! X10_numberAt -/
set_option maxRecDepth 100000 in
set_option maxHeartbeats 4000000 in
theorem mX10_numberAt {b : Bx} {w : HW} {x1 : Int32} {x2 : Int32} {a : Int64} (h : fX10_numberAt w x1 x2 = some a) : Mt b yX10_numberAt cX10_numberAt 3 (some .long) 0 0 [.ref (bB b + 79), .int x1, .int x2] w (some (.long a)) w := by
  refine Mt.of (ρL w) h (by decide) (Nat.le_of_ble_eq_true rfl) (fun G hG C E => ?_)
  subst hG
  have C : Cx G cX10_numberAt RX10 3 0 0 := C
  change Sm G a 0 [(0, .ref (hB G + 79)), (1, .int x1), (2, .int x2)] [] w _
  unfold fX10_numberAt
  refine sm_aload_n C 0 rfl dX10_numberAt_0 rfl ?_
  refine sm_getR C fo_10_40 rfl wd399 kd_79 dX10_numberAt_1 (rv_79_40 w) (by decide) ?_
  refine sm_bipush C bp_60 dX10_numberAt_4 ?_
  refine sm_iload_n C 1 rfl dX10_numberAt_6 rfl ?_
  refine sm_imul C dX10_numberAt_7 ?_
  refine sm_iload_n C 2 rfl dX10_numberAt_8 rfl ?_
  refine sm_iadd C dX10_numberAt_9 ?_
  refine sm_lald C kd_100 dX10_numberAt_10 (fun h_1 => ?_)
  exact sm_lret C E rfl dX10_numberAt_11
/-! X10_eatsBy -/
set_option maxRecDepth 100000 in
set_option maxHeartbeats 4000000 in
theorem sX10_eatsBy_22 {G : Gx} {a : Int32} {w : HW} (C : Cx G cX10_eatsBy RX10 4 0 0) (E : Rx G (ρI w) a (some .boolean)) (s0 : Int32) : Sm G a 22 [(0, .ref (hB G + 79))] [.int s0] w (fX10_eatsBy_22 w s0) := by
  unfold fX10_eatsBy_22
  refine sm_aload_n C 0 rfl dX10_eatsBy_22 rfl ?_
  refine sm_getR C fo_10_1 rfl wd297 kd_79 dX10_eatsBy_23 (rv_79_1 w) (by decide) ?_
  refine sm_iconst C ic_2 dX10_eatsBy_26 ?_
  refine sm_iald C kd_80 dX10_eatsBy_27 (fun h_3 => ?_)
  refine sm_icmp_lt C dX10_eatsBy_28 (tgt := 35) rfl (fun h_4 => ?_) (fun h_4 => ?_)
  · refine sm_iconst C ic_1 dX10_eatsBy_31 ?_
    refine sm_goto C dX10_eatsBy_32 (tgt := 36) rfl ?_
    exact sm_zret C E rfl rfl dX10_eatsBy_36
  · refine sm_iconst C ic_0 dX10_eatsBy_35 ?_
    exact sm_zret C E rfl rfl dX10_eatsBy_36
set_option maxRecDepth 100000 in
set_option maxHeartbeats 4000000 in
theorem mX10_eatsBy {b : Bx} {w : HW} {x1 : Int32} {x2 : Int32} {a : Int32} (h : fX10_eatsBy w x1 x2 = some a) : Mt b yX10_eatsBy cX10_eatsBy 4 (some .boolean) 0 0 [.ref (bB b + 79), .int x1, .int x2] w (some (.int a)) w := by
  refine Mt.of (ρI w) h (by decide) (Nat.le_of_ble_eq_true rfl) (fun G hG C E => ?_)
  subst hG
  have C : Cx G cX10_eatsBy RX10 4 0 0 := C
  change Sm G a 0 [(0, .ref (hB G + 79)), (1, .int x1), (2, .int x2)] [] w _
  unfold fX10_eatsBy
  refine sm_iload_n C 1 rfl dX10_eatsBy_0 rfl ?_
  refine sm_bipush C bp_100 dX10_eatsBy_1 ?_
  refine sm_irem C (by decide) dX10_eatsBy_3 ?_
  refine sm_let (fun x3_1 => ?_)
  refine sm_istore_n (lv1 := [(3, .int x3_1), (0, .ref (hB G + 79)), (1, .int x1), (2, .int x2)]) C dX10_eatsBy_4 rfl rfl rfl ?_
  refine sm_iload_n C 3 rfl dX10_eatsBy_5 rfl ?_
  refine sm_iload_n C 0 rfl dX10_eatsBy_6 rfl ?_
  refine sm_icmp_gt C dX10_eatsBy_7 (tgt := 19) rfl (fun h_2 => ?_) (fun h_2 => ?_)
  · refine sm_iload_n C 2 rfl dX10_eatsBy_10 rfl ?_
    refine sm_bipush C bp_100 dX10_eatsBy_11 ?_
    refine sm_idiv C (by decide) dX10_eatsBy_13 ?_
    refine sm_iload_n C 3 rfl dX10_eatsBy_14 rfl ?_
    refine sm_iadd C dX10_eatsBy_15 ?_
    refine sm_goto C dX10_eatsBy_16 (tgt := 22) rfl ?_
    refine sm_sub [1] rfl ?_
    exact sX10_eatsBy_22 C E ((x1 / 100) + x2)
  · refine sm_iload_n C 3 rfl dX10_eatsBy_19 rfl ?_
    refine sm_iload_n C 0 rfl dX10_eatsBy_20 rfl ?_
    refine sm_isub C dX10_eatsBy_21 ?_
    refine sm_sub [1] rfl ?_
    exact sX10_eatsBy_22 C E (x2 - x3_1)
/-! X10_isSlot -/
set_option maxRecDepth 100000 in
set_option maxHeartbeats 4000000 in
theorem mX10_isSlot {b : Bx} {w : HW} {x0 : Int32} {a : Int32} (h : fX10_isSlot w x0 = some a) : Mt b yX10_isSlot cX10_isSlot 1 (some .boolean) 1 25 [.int x0] w (some (.int a)) w := by
  refine Mt.of (ρI w) h (by decide) (Nat.le_of_ble_eq_true rfl) (fun G hG C E => ?_)
  subst hG
  have C : Cx G cX10_isSlot RX10 1 1 25 := C
  change Sm G a 0 [(0, .int x0)] [] w _
  unfold fX10_isSlot
  refine sm_iload_n C 0 rfl dX10_isSlot_0 rfl ?_
  refine sm_i2l C dX10_isSlot_1 ?_
  refine sm_lconst C lc_0 dX10_isSlot_2 ?_
  refine sm_ldc2 C wd400 dX10_isSlot_3 ?_
  refine sm_cSI (As := [.long (x0.toInt64), .long 0, .long 3]) C cfX10_in wd295 rfl rfl rfl rfl dX10_isSlot_6 (fun r h => mX10_in  h) (fun r_1 => ?_)
  refine sm_chk (fun h_3 => ?_)
  exact sm_zret C E rfl (zB_nar h_3) dX10_isSlot_9
/-! X10_layPairs -/
set_option maxRecDepth 100000 in
set_option maxHeartbeats 4000000 in
theorem sX10_layPairs_198 {G : Gx} {a : Int32 × HW} (C : Cx G cX10_layPairs RX10 7 2 47) (E : Rx G ρIW a (some .int)) {K59 : HW → Int32 → Option (Int32 × HW)} {K64 : HW → Int32 → Option (Int32 × HW)} (w : HW) (x1 : Int32) (x2 : Int32) (x3 : Int32) (x4 : Int32) (x5 : Int32) (hK59 : ∀ (w' : HW) (x2' : Int32), Sm G a 101 [(0, .ref (hB G + 79)), (1, .int x1), (2, .int (x2'))] [] w' (K59 w' x2')) (hK64 : ∀ (w' : HW) (x3' : Int32), Sm G a 109 [(0, .ref (hB G + 79)), (1, .int x1), (2, .int x2), (3, .int (x3'))] [] w' (K64 w' x3')) : Sm G a 198 [(0, .ref (hB G + 79)), (1, .int x1), (2, .int x2), (3, .int x3), (4, .int x4), (5, .int x5)] [] w (fX10_layPairs_198 w K59 K64 x1 x2 x3 x4 x5) := by
  unfold fX10_layPairs_198
  refine sm_iload C 5 rfl dX10_layPairs_198 ?_
  refine sm_if_ne C dX10_layPairs_200 (tgt := 206) rfl (fun h_39 => ?_) (fun h_39 => ?_)
  · refine sm_goto C dX10_layPairs_203 (tgt := 227) rfl ?_
    refine sm_iinc (lv1 := [(3, .int (x3 + 1)), (0, .ref (hB G + 79)), (1, .int x1), (2, .int x2), (4, .int x4), (5, .int x5)]) C 3 rfl (iv_1 _) dX10_layPairs_227 rfl rfl ?_
    refine sm_goto C dX10_layPairs_230 (tgt := 109) rfl ?_
    refine sm_sub [1, 2, 3, 0] rfl ?_
    exact hK64 w (x3 + 1)
  · refine sm_aload_n C 0 rfl dX10_layPairs_206 rfl ?_
    refine sm_getR C fo_10_34 rfl wd406 kd_79 dX10_layPairs_207 (rv_79_34 w) (by decide) ?_
    refine sm_aload_n C 0 rfl dX10_layPairs_210 rfl ?_
    refine sm_getI C fo_10_35 rfl wd404 kd_79 dX10_layPairs_211 ?_
    refine sm_iload C 4 rfl dX10_layPairs_214 ?_
    refine sm_iast C kd_96 dX10_layPairs_216 (fun h_40 w_41 => ?_)
    refine sm_aload_n C 0 rfl dX10_layPairs_217 rfl ?_
    refine sm_dup C rfl dX10_layPairs_218 ?_
    refine sm_getI C fo_10_35 rfl wd404 kd_79 dX10_layPairs_219 ?_
    refine sm_iconst C ic_1 dX10_layPairs_222 ?_
    refine sm_iadd C dX10_layPairs_223 ?_
    refine sm_putI C fo_10_35 rfl wd404 kd_79 rfl dX10_layPairs_224 (fun w_42 => ?_)
    refine sm_iinc (lv1 := [(3, .int (x3 + 1)), (0, .ref (hB G + 79)), (1, .int x1), (2, .int x2), (4, .int x4), (5, .int x5)]) C 3 rfl (iv_1 _) dX10_layPairs_227 rfl rfl ?_
    refine sm_goto C dX10_layPairs_230 (tgt := 109) rfl ?_
    refine sm_sub [1, 2, 3, 0] rfl ?_
    exact hK64 w_42 (x3 + 1)
set_option maxRecDepth 100000 in
set_option maxHeartbeats 4000000 in
theorem sX10_layPairs_182 {G : Gx} {a : Int32 × HW} (C : Cx G cX10_layPairs RX10 7 2 47) (E : Rx G ρIW a (some .int)) {K59 : HW → Int32 → Option (Int32 × HW)} {K64 : HW → Int32 → Option (Int32 × HW)} {K80 : HW → Int32 → Int32 → Option (Int32 × HW)} (w : HW) (x1 : Int32) (x2 : Int32) (x3 : Int32) (x4 : Int32) (x6 : Int32) (s0 : Int32) (s1 : Int32) (hK59 : ∀ (w' : HW) (x2' : Int32), Sm G a 101 [(0, .ref (hB G + 79)), (1, .int x1), (2, .int (x2'))] [] w' (K59 w' x2')) (hK64 : ∀ (w' : HW) (x3' : Int32), Sm G a 109 [(0, .ref (hB G + 79)), (1, .int x1), (2, .int x2), (3, .int (x3'))] [] w' (K64 w' x3')) (hK80 : ∀ (w' : HW) (x5' : Int32) (x6' : Int32), Sm G a 133 [(0, .ref (hB G + 79)), (1, .int x1), (2, .int x2), (3, .int x3), (4, .int x4), (5, .int (x5')), (6, .int (x6'))] [] w' (K80 w' x5' x6')) : Sm G a 182 [(0, .ref (hB G + 79)), (1, .int x1), (2, .int x2), (3, .int x3), (4, .int x4), (6, .int x6)] [.int s0, .int s1] w (fX10_layPairs_182 w K59 K64 K80 x1 x2 x3 x4 x6 s0 s1) := by
  unfold fX10_layPairs_182
  refine sm_icmp_ne C dX10_layPairs_182 (tgt := 189) rfl (fun h_38 => ?_) (fun h_38 => ?_)
  · refine sm_iconst C ic_1 dX10_layPairs_185 ?_
    refine sm_goto C dX10_layPairs_186 (tgt := 190) rfl ?_
    refine sm_istore (lv1 := [(5, .int 1), (0, .ref (hB G + 79)), (1, .int x1), (2, .int x2), (3, .int x3), (4, .int x4), (6, .int x6)]) C dX10_layPairs_190 rfl rfl ?_
    refine sm_iinc (lv1 := [(6, .int (x6 + 2)), (5, .int 1), (0, .ref (hB G + 79)), (1, .int x1), (2, .int x2), (3, .int x3), (4, .int x4)]) C 6 rfl (iv_2 _) dX10_layPairs_192 rfl rfl ?_
    refine sm_goto C dX10_layPairs_195 (tgt := 133) rfl ?_
    refine sm_sub [2, 3, 4, 5, 6, 1, 0] rfl ?_
    exact hK80 w 1 (x6 + 2)
  · refine sm_iconst C ic_0 dX10_layPairs_189 ?_
    refine sm_istore (lv1 := [(5, .int 0), (0, .ref (hB G + 79)), (1, .int x1), (2, .int x2), (3, .int x3), (4, .int x4), (6, .int x6)]) C dX10_layPairs_190 rfl rfl ?_
    refine sm_iinc (lv1 := [(6, .int (x6 + 2)), (5, .int 0), (0, .ref (hB G + 79)), (1, .int x1), (2, .int x2), (3, .int x3), (4, .int x4)]) C 6 rfl (iv_2 _) dX10_layPairs_192 rfl rfl ?_
    refine sm_goto C dX10_layPairs_195 (tgt := 133) rfl ?_
    refine sm_sub [2, 3, 4, 5, 6, 1, 0] rfl ?_
    exact hK80 w 0 (x6 + 2)
set_option maxRecDepth 100000 in
set_option maxHeartbeats 4000000 in
theorem sX10_layPairs_133 {G : Gx} {a : Int32 × HW} (C : Cx G cX10_layPairs RX10 7 2 47) (E : Rx G ρIW a (some .int)) {K59 : HW → Int32 → Option (Int32 × HW)} {K64 : HW → Int32 → Option (Int32 × HW)} {x1 : Int32} {x2 : Int32} {x3 : Int32} {x4 : Int32} (hK59 : ∀ (w' : HW) (x2' : Int32), Sm G a 101 [(0, .ref (hB G + 79)), (1, .int x1), (2, .int (x2'))] [] w' (K59 w' x2')) (hK64 : ∀ (w' : HW) (x3' : Int32), Sm G a 109 [(0, .ref (hB G + 79)), (1, .int x1), (2, .int x2), (3, .int (x3'))] [] w' (K64 w' x3')) : ∀ (n : Nat) (w : HW) (x5 : Int32) (x6 : Int32), Sm G a 133 [(0, .ref (hB G + 79)), (1, .int x1), (2, .int x2), (3, .int x3), (4, .int x4), (5, .int x5), (6, .int x6)] [] w (fX10_layPairs_133 K59 K64 x1 x2 x3 x4 n w x5 x6) := by
  intro n
  induction n with
  | zero => intro _ _ _; exact sm_none
  | succ n ih =>
    intro w x5 x6
    rw [fX10_layPairs_133]
    refine sm_iload C 6 rfl dX10_layPairs_133 ?_
    refine sm_aload_n C 0 rfl dX10_layPairs_135 rfl ?_
    refine sm_getR C fo_10_38 rfl wd402 kd_79 dX10_layPairs_136 (rv_79_38 w) (by decide) ?_
    refine sm_iload_n C 1 rfl dX10_layPairs_139 rfl ?_
    refine sm_iald C kd_98 dX10_layPairs_140 (fun h_28 => ?_)
    refine sm_icmp_ge C dX10_layPairs_141 (tgt := 198) rfl (fun h_29 => ?_) (fun h_29 => ?_)
    · refine sm_iload C 5 rfl dX10_layPairs_144 ?_
      refine sm_if_eq C dX10_layPairs_146 (tgt := 189) rfl (fun h_30 => ?_) (fun h_30 => ?_)
      · refine sm_aload_n C 0 rfl dX10_layPairs_149 rfl ?_
        refine sm_iload C 4 rfl dX10_layPairs_150 ?_
        refine sm_aload_n C 0 rfl dX10_layPairs_152 rfl ?_
        refine sm_iload_n C 1 rfl dX10_layPairs_153 rfl ?_
        refine sm_iload C 6 rfl dX10_layPairs_154 ?_
        refine sm_cVL (As := [.int x1, .int x6]) C cfX10_numberAt wd403 kd_79 rfl rfl rfl rfl rfl dX10_layPairs_156 (fun r h => mX10_numberAt  h) (fun r_31 => ?_)
        refine sm_l2i C dX10_layPairs_159 ?_
        refine sm_cVI (As := [.int x4, .int (r_31.toInt32)]) C cfX10_eatsBy wd405 kd_79 rfl rfl rfl rfl rfl dX10_layPairs_160 (fun r h => mX10_eatsBy  h) (fun r_33 => ?_)
        refine sm_aload_n C 0 rfl dX10_layPairs_163 rfl ?_
        refine sm_iload_n C 1 rfl dX10_layPairs_164 rfl ?_
        refine sm_iload C 6 rfl dX10_layPairs_165 ?_
        refine sm_iconst C ic_1 dX10_layPairs_167 ?_
        refine sm_iadd C dX10_layPairs_168 ?_
        refine sm_cVL (As := [.int x1, .int (x6 + 1)]) C cfX10_numberAt wd403 kd_79 rfl rfl rfl rfl rfl dX10_layPairs_169 (fun r h => mX10_numberAt  h) (fun r_35 => ?_)
        refine sm_lconst C lc_1 dX10_layPairs_172 ?_
        refine sm_lcmp C dX10_layPairs_173 ?_
        refine sm_if_ne C dX10_layPairs_174 (tgt := 181) rfl (fun h_37 => ?_) (fun h_37 => ?_)
        · refine sm_iconst C ic_1 dX10_layPairs_177 ?_
          refine sm_goto C dX10_layPairs_178 (tgt := 182) rfl ?_
          refine sm_sub [0, 1, 2, 3, 4, 6] rfl ?_
          exact sX10_layPairs_182 C E w x1 x2 x3 x4 x6 1 r_33 hK59 hK64 (fun w x5 x6 => ih w x5 x6)
        · refine sm_iconst C ic_0 dX10_layPairs_181 ?_
          refine sm_sub [0, 1, 2, 3, 4, 6] rfl ?_
          exact sX10_layPairs_182 C E w x1 x2 x3 x4 x6 0 r_33 hK59 hK64 (fun w x5 x6 => ih w x5 x6)
      · refine sm_iconst C ic_0 dX10_layPairs_189 ?_
        refine sm_istore (lv1 := [(5, .int 0), (0, .ref (hB G + 79)), (1, .int x1), (2, .int x2), (3, .int x3), (4, .int x4), (6, .int x6)]) C dX10_layPairs_190 rfl rfl ?_
        refine sm_iinc (lv1 := [(6, .int (x6 + 2)), (5, .int 0), (0, .ref (hB G + 79)), (1, .int x1), (2, .int x2), (3, .int x3), (4, .int x4)]) C 6 rfl (iv_2 _) dX10_layPairs_192 rfl rfl ?_
        refine sm_goto C dX10_layPairs_195 (tgt := 133) rfl ?_
        refine sm_sub [2, 3, 4, 5, 6, 1, 0] rfl ?_
        exact ih w 0 (x6 + 2)
    · refine sm_sub [0, 1, 2, 3, 4, 5] rfl ?_
      exact sX10_layPairs_198 C E w x1 x2 x3 x4 x5 hK59 hK64
set_option maxRecDepth 100000 in
set_option maxHeartbeats 4000000 in
theorem sX10_layPairs_109 {G : Gx} {a : Int32 × HW} (C : Cx G cX10_layPairs RX10 7 2 47) (E : Rx G ρIW a (some .int)) {K59 : HW → Int32 → Option (Int32 × HW)} {x1 : Int32} {x2 : Int32} (hK59 : ∀ (w' : HW) (x2' : Int32), Sm G a 101 [(0, .ref (hB G + 79)), (1, .int x1), (2, .int (x2'))] [] w' (K59 w' x2')) : ∀ (n : Nat) (w : HW) (x3 : Int32), Sm G a 109 [(0, .ref (hB G + 79)), (1, .int x1), (2, .int x2), (3, .int x3)] [] w (fX10_layPairs_109 K59 x1 x2 n w x3) := by
  intro n
  induction n with
  | zero => intro _ _; exact sm_none
  | succ n ih =>
    intro w x3
    rw [fX10_layPairs_109]
    refine sm_iload_n C 3 rfl dX10_layPairs_109 rfl ?_
    refine sm_aload_n C 0 rfl dX10_layPairs_110 rfl ?_
    refine sm_getR C fo_10_1 rfl wd297 kd_79 dX10_layPairs_111 (rv_79_1 w) (by decide) ?_
    refine sm_iconst C ic_0 dX10_layPairs_114 ?_
    refine sm_iald C kd_80 dX10_layPairs_115 (fun h_25 => ?_)
    refine sm_icmp_gt C dX10_layPairs_116 (tgt := 233) rfl (fun h_26 => ?_) (fun h_26 => ?_)
    · refine sm_bipush C bp_100 dX10_layPairs_119 ?_
      refine sm_iload_n C 2 rfl dX10_layPairs_121 rfl ?_
      refine sm_imul C dX10_layPairs_122 ?_
      refine sm_iload_n C 3 rfl dX10_layPairs_123 rfl ?_
      refine sm_iadd C dX10_layPairs_124 ?_
      refine sm_let (fun x4_27 => ?_)
      refine sm_istore (lv1 := [(4, .int x4_27), (0, .ref (hB G + 79)), (1, .int x1), (2, .int x2), (3, .int x3)]) C dX10_layPairs_125 rfl rfl ?_
      refine sm_iconst C ic_1 dX10_layPairs_127 ?_
      refine sm_istore (lv1 := [(5, .int 1), (4, .int x4_27), (0, .ref (hB G + 79)), (1, .int x1), (2, .int x2), (3, .int x3)]) C dX10_layPairs_128 rfl rfl ?_
      refine sm_iconst C ic_0 dX10_layPairs_130 ?_
      refine sm_istore (lv1 := [(6, .int 0), (5, .int 1), (4, .int x4_27), (0, .ref (hB G + 79)), (1, .int x1), (2, .int x2), (3, .int x3)]) C dX10_layPairs_131 rfl rfl ?_
      refine sm_sub [3, 4, 5, 6, 2, 1, 0] rfl ?_
      exact sX10_layPairs_133 C E hK59 (fun w x3 => ih w x3) FU w 1 0
    · refine sm_iinc (lv1 := [(2, .int (x2 + 1)), (0, .ref (hB G + 79)), (1, .int x1), (3, .int x3)]) C 2 rfl (iv_1 _) dX10_layPairs_233 rfl rfl ?_
      refine sm_goto C dX10_layPairs_236 (tgt := 101) rfl ?_
      refine sm_sub [1, 2, 0] rfl ?_
      exact hK59 w (x2 + 1)
set_option maxRecDepth 100000 in
set_option maxHeartbeats 4000000 in
theorem sX10_layPairs_101 {G : Gx} {a : Int32 × HW} (C : Cx G cX10_layPairs RX10 7 2 47) (E : Rx G ρIW a (some .int)) {x1 : Int32} : ∀ (n : Nat) (w : HW) (x2 : Int32), Sm G a 101 [(0, .ref (hB G + 79)), (1, .int x1), (2, .int x2)] [] w (fX10_layPairs_101 x1 n w x2) := by
  intro n
  induction n with
  | zero => intro _ _; exact sm_none
  | succ n ih =>
    intro w x2
    rw [fX10_layPairs_101]
    refine sm_iload_n C 2 rfl dX10_layPairs_101 rfl ?_
    refine sm_bipush C bp_10 dX10_layPairs_102 ?_
    refine sm_icmp_ge C dX10_layPairs_104 (tgt := 239) rfl (fun h_24 => ?_) (fun h_24 => ?_)
    · refine sm_iconst C ic_0 dX10_layPairs_107 ?_
      refine sm_istore_n (lv1 := [(3, .int 0), (0, .ref (hB G + 79)), (1, .int x1), (2, .int x2)]) C dX10_layPairs_108 rfl rfl rfl ?_
      refine sm_sub [1, 2, 3, 0] rfl ?_
      exact sX10_layPairs_109 C E (fun w x2 => ih w x2) FU w 0
    · refine sm_iconst C ic_0 dX10_layPairs_239 ?_
      exact sm_iret C E rfl dX10_layPairs_240
set_option maxRecDepth 100000 in
set_option maxHeartbeats 4000000 in
theorem sX10_layPairs_46 {G : Gx} {a : Int32 × HW} (C : Cx G cX10_layPairs RX10 7 2 47) (E : Rx G ρIW a (some .int)) {x1 : Int32} : ∀ (n : Nat) (w : HW) (x2 : Int32), Sm G a 46 [(0, .ref (hB G + 79)), (1, .int x1), (2, .int x2)] [] w (fX10_layPairs_46 x1 n w x2) := by
  intro n
  induction n with
  | zero => intro _ _; exact sm_none
  | succ n ih =>
    intro w x2
    rw [fX10_layPairs_46]
    refine sm_iload_n C 2 rfl dX10_layPairs_46 rfl ?_
    refine sm_aload_n C 0 rfl dX10_layPairs_47 rfl ?_
    refine sm_getR C fo_10_38 rfl wd402 kd_79 dX10_layPairs_48 (rv_79_38 w) (by decide) ?_
    refine sm_iload_n C 1 rfl dX10_layPairs_51 rfl ?_
    refine sm_iald C kd_98 dX10_layPairs_52 (fun h_11 => ?_)
    refine sm_icmp_ge C dX10_layPairs_53 (tgt := 94) rfl (fun h_12 => ?_) (fun h_12 => ?_)
    · refine sm_aload_n C 0 rfl dX10_layPairs_56 rfl ?_
      refine sm_aload_n C 0 rfl dX10_layPairs_57 rfl ?_
      refine sm_iload_n C 1 rfl dX10_layPairs_58 rfl ?_
      refine sm_iload_n C 2 rfl dX10_layPairs_59 rfl ?_
      refine sm_cVL (As := [.int x1, .int x2]) C cfX10_numberAt wd403 kd_79 rfl rfl rfl rfl rfl dX10_layPairs_60 (fun r h => mX10_numberAt  h) (fun r_13 => ?_)
      refine sm_cVI (As := [.long r_13]) C cfX10_isDay wd343 kd_79 rfl rfl rfl rfl rfl dX10_layPairs_63 (fun r h => mX10_isDay  h) (fun r_15 => ?_)
      refine sm_if_eq C dX10_layPairs_66 (tgt := 85) rfl (fun h_17 => ?_) (fun h_17 => ?_)
      · refine sm_aload_n C 0 rfl dX10_layPairs_69 rfl ?_
        refine sm_iload_n C 1 rfl dX10_layPairs_70 rfl ?_
        refine sm_iload_n C 2 rfl dX10_layPairs_71 rfl ?_
        refine sm_iconst C ic_1 dX10_layPairs_72 ?_
        refine sm_iadd C dX10_layPairs_73 ?_
        refine sm_cVL (As := [.int x1, .int (x2 + 1)]) C cfX10_numberAt wd403 kd_79 rfl rfl rfl rfl rfl dX10_layPairs_74 (fun r h => mX10_numberAt  h) (fun r_18 => ?_)
        refine sm_lconst C lc_0 dX10_layPairs_77 ?_
        refine sm_lconst C lc_1 dX10_layPairs_78 ?_
        refine sm_cSI (As := [.long r_18, .long 0, .long 1]) C cfX10_in wd295 rfl rfl rfl rfl dX10_layPairs_79 (fun r h => mX10_in  h) (fun r_20 => ?_)
        refine sm_if_ne C dX10_layPairs_82 (tgt := 88) rfl (fun h_22 => ?_) (fun h_22 => ?_)
        · refine sm_bipush C bp_m2 dX10_layPairs_85 ?_
          exact sm_iret C E rfl dX10_layPairs_87
        · refine sm_iinc (lv1 := [(2, .int (x2 + 2)), (0, .ref (hB G + 79)), (1, .int x1)]) C 2 rfl (iv_2 _) dX10_layPairs_88 rfl rfl ?_
          refine sm_goto C dX10_layPairs_91 (tgt := 46) rfl ?_
          refine sm_sub [1, 2, 0] rfl ?_
          exact ih w (x2 + 2)
      · refine sm_bipush C bp_m2 dX10_layPairs_85 ?_
        exact sm_iret C E rfl dX10_layPairs_87
    · refine sm_aload_n C 0 rfl dX10_layPairs_94 rfl ?_
      refine sm_iconst C ic_0 dX10_layPairs_95 ?_
      refine sm_putI C fo_10_35 rfl wd404 kd_79 rfl dX10_layPairs_96 (fun w_23 => ?_)
      refine sm_iconst C ic_0 dX10_layPairs_99 ?_
      refine sm_istore_n (lv1 := [(2, .int 0), (0, .ref (hB G + 79)), (1, .int x1)]) C dX10_layPairs_100 rfl rfl rfl ?_
      refine sm_sub [1, 2, 0] rfl ?_
      exact sX10_layPairs_101 C E FU w_23 0
set_option maxRecDepth 100000 in
set_option maxHeartbeats 4000000 in
theorem mX10_layPairs {b : Bx} {w : HW} {x1 : Int32} {a : Int32 × HW} (h : fX10_layPairs w x1 = some a) : Mt b yX10_layPairs cX10_layPairs 7 (some .int) 2 47 [.ref (bB b + 79), .int x1] w (some (.int a.1)) a.2 := by
  refine Mt.of ρIW h (by decide) (Nat.le_of_ble_eq_true rfl) (fun G hG C E => ?_)
  subst hG
  have C : Cx G cX10_layPairs RX10 7 2 47 := C
  change Sm G a 0 [(0, .ref (hB G + 79)), (1, .int x1)] [] w _
  unfold fX10_layPairs
  refine sm_iload_n C 1 rfl dX10_layPairs_0 rfl ?_
  refine sm_cSI (As := [.int x1]) C cfX10_isSlot wd401 rfl rfl rfl rfl dX10_layPairs_1 (fun r h => mX10_isSlot  h) (fun r_1 => ?_)
  refine sm_if_eq C dX10_layPairs_4 (tgt := 14) rfl (fun h_3 => ?_) (fun h_3 => ?_)
  · refine sm_aload_n C 0 rfl dX10_layPairs_7 rfl ?_
    refine sm_cVI (As := []) C cfX10_isCamp wd299 kd_79 rfl rfl rfl rfl rfl dX10_layPairs_8 (fun r h => mX10_isCamp  h) (fun r_4 => ?_)
    refine sm_if_ne C dX10_layPairs_11 (tgt := 17) rfl (fun h_6 => ?_) (fun h_6 => ?_)
    · refine sm_bipush C bp_m2 dX10_layPairs_14 ?_
      exact sm_iret C E rfl dX10_layPairs_16
    · refine sm_aload_n C 0 rfl dX10_layPairs_17 rfl ?_
      refine sm_getR C fo_10_38 rfl wd402 kd_79 dX10_layPairs_18 (rv_79_38 w) (by decide) ?_
      refine sm_iload_n C 1 rfl dX10_layPairs_21 rfl ?_
      refine sm_iald C kd_98 dX10_layPairs_22 (fun h_7 => ?_)
      refine sm_iconst C ic_m1 dX10_layPairs_23 ?_
      refine sm_icmp_ne C dX10_layPairs_24 (tgt := 30) rfl (fun h_8 => ?_) (fun h_8 => ?_)
      · refine sm_bipush C bp_m6 dX10_layPairs_27 ?_
        exact sm_iret C E rfl dX10_layPairs_29
      · refine sm_aload_n C 0 rfl dX10_layPairs_30 rfl ?_
        refine sm_getR C fo_10_38 rfl wd402 kd_79 dX10_layPairs_31 (rv_79_38 w) (by decide) ?_
        refine sm_iload_n C 1 rfl dX10_layPairs_34 rfl ?_
        refine sm_iald C kd_98 dX10_layPairs_35 (fun h_9 => ?_)
        refine sm_iconst C ic_2 dX10_layPairs_36 ?_
        refine sm_irem C (by decide) dX10_layPairs_37 ?_
        refine sm_if_eq C dX10_layPairs_38 (tgt := 44) rfl (fun h_10 => ?_) (fun h_10 => ?_)
        · refine sm_bipush C bp_m2 dX10_layPairs_41 ?_
          exact sm_iret C E rfl dX10_layPairs_43
        · refine sm_iconst C ic_0 dX10_layPairs_44 ?_
          refine sm_istore_n (lv1 := [(2, .int 0), (0, .ref (hB G + 79)), (1, .int x1)]) C dX10_layPairs_45 rfl rfl rfl ?_
          refine sm_sub [1, 2, 0] rfl ?_
          exact sX10_layPairs_46 C E FU w 0
  · refine sm_bipush C bp_m2 dX10_layPairs_14 ?_
    exact sm_iret C E rfl dX10_layPairs_16
/-! X10_fits -/
set_option maxRecDepth 100000 in
set_option maxHeartbeats 4000000 in
theorem mX10_fits {b : Bx} {w : HW} {x1 : Int32} {a : Int32 × HW} (h : fX10_fits w x1 = some a) : Mt b yX10_fits cX10_fits 3 (some .int) 3 73 [.ref (bB b + 79), .int x1] w (some (.int a.1)) a.2 := by
  refine Mt.of ρIW h (by decide) (Nat.le_of_ble_eq_true rfl) (fun G hG C E => ?_)
  subst hG
  have C : Cx G cX10_fits RX10 3 3 73 := C
  change Sm G a 0 [(0, .ref (hB G + 79)), (1, .int x1)] [] w _
  unfold fX10_fits
  refine sm_aload_n C 0 rfl dX10_fits_0 rfl ?_
  refine sm_iload_n C 1 rfl dX10_fits_1 rfl ?_
  refine sm_cVIW (As := [.int x1]) C cfX10_layPairs wd407 kd_79 rfl rfl rfl rfl rfl dX10_fits_2 (fun r h => mX10_layPairs  h) (fun r_1 w_2 => ?_)
  refine sm_istore_n (lv1 := [(2, .int r_1), (0, .ref (hB G + 79)), (1, .int x1)]) C dX10_fits_5 rfl rfl rfl ?_
  refine sm_iload_n C 0 rfl dX10_fits_6 rfl ?_
  refine sm_if_ge C dX10_fits_7 (tgt := 14) rfl (fun h_3 => ?_) (fun h_3 => ?_)
  · refine sm_iload_n C 0 rfl dX10_fits_10 rfl ?_
    refine sm_goto C dX10_fits_11 (tgt := 18) rfl ?_
    exact sm_iret C E rfl dX10_fits_18
  · refine sm_aload_n C 1 rfl dX10_fits_14 rfl ?_
    refine sm_getI C fo_10_35 rfl wd404 kd_79 dX10_fits_15 ?_
    exact sm_iret C E rfl dX10_fits_18
/-! X10_fedSet -/
set_option maxRecDepth 100000 in
set_option maxHeartbeats 4000000 in
theorem sX10_fedSet_4 {G : Gx} {a : Int32} {w : HW} (C : Cx G cX10_fedSet RX10 3 0 0) (E : Rx G (ρI w) a (some .int)) : ∀ (n : Nat) (x1 : Int32) (x2 : Int32), Sm G a 4 [(0, .ref (hB G + 79)), (1, .int x1), (2, .int x2)] [] w (fX10_fedSet_4 w n x1 x2) := by
  intro n
  induction n with
  | zero => intro _ _; exact sm_none
  | succ n ih =>
    intro x1 x2
    rw [fX10_fedSet_4]
    refine sm_iload_n C 2 rfl dX10_fedSet_4 rfl ?_
    refine sm_aload_n C 0 rfl dX10_fedSet_5 rfl ?_
    refine sm_getI C fo_10_35 rfl wd404 kd_79 dX10_fedSet_6 ?_
    refine sm_icmp_ge C dX10_fedSet_9 (tgt := 32) rfl (fun h_1 => ?_) (fun h_1 => ?_)
    · refine sm_iload_n C 1 rfl dX10_fedSet_12 rfl ?_
      refine sm_iconst C ic_1 dX10_fedSet_13 ?_
      refine sm_aload_n C 0 rfl dX10_fedSet_14 rfl ?_
      refine sm_getR C fo_10_34 rfl wd406 kd_79 dX10_fedSet_15 (rv_79_34 w) (by decide) ?_
      refine sm_iload_n C 2 rfl dX10_fedSet_18 rfl ?_
      refine sm_iald C kd_96 dX10_fedSet_19 (fun h_2 => ?_)
      refine sm_bipush C bp_100 dX10_fedSet_20 ?_
      refine sm_irem C (by decide) dX10_fedSet_22 ?_
      refine sm_ishl C dX10_fedSet_23 ?_
      refine sm_ior C dX10_fedSet_24 ?_
      refine sm_let (fun x1_3 => ?_)
      refine sm_istore_n (lv1 := [(1, .int x1_3), (0, .ref (hB G + 79)), (2, .int x2)]) C dX10_fedSet_25 rfl rfl rfl ?_
      refine sm_iinc (lv1 := [(2, .int (x2 + 1)), (1, .int x1_3), (0, .ref (hB G + 79))]) C 2 rfl (iv_1 _) dX10_fedSet_26 rfl rfl ?_
      refine sm_goto C dX10_fedSet_29 (tgt := 4) rfl ?_
      refine sm_sub [2, 1, 0] rfl ?_
      exact ih x1_3 (x2 + 1)
    · refine sm_iload_n C 1 rfl dX10_fedSet_32 rfl ?_
      exact sm_iret C E rfl dX10_fedSet_33
set_option maxRecDepth 100000 in
set_option maxHeartbeats 4000000 in
theorem mX10_fedSet {b : Bx} {w : HW} {a : Int32} (h : fX10_fedSet w = some a) : Mt b yX10_fedSet cX10_fedSet 3 (some .int) 0 0 [.ref (bB b + 79)] w (some (.int a)) w := by
  refine Mt.of (ρI w) h (by decide) (Nat.le_of_ble_eq_true rfl) (fun G hG C E => ?_)
  subst hG
  have C : Cx G cX10_fedSet RX10 3 0 0 := C
  change Sm G a 0 [(0, .ref (hB G + 79))] [] w _
  unfold fX10_fedSet
  refine sm_iconst C ic_0 dX10_fedSet_0 ?_
  refine sm_istore_n (lv1 := [(1, .int 0), (0, .ref (hB G + 79))]) C dX10_fedSet_1 rfl rfl rfl ?_
  refine sm_iconst C ic_0 dX10_fedSet_2 ?_
  refine sm_istore_n (lv1 := [(2, .int 0), (1, .int 0), (0, .ref (hB G + 79))]) C dX10_fedSet_3 rfl rfl rfl ?_
  refine sm_sub [2, 1, 0] rfl ?_
  exact sX10_fedSet_4 C E FU 0 0
/-! X10_fed -/
set_option maxRecDepth 100000 in
set_option maxHeartbeats 4000000 in
theorem mX10_fed {b : Bx} {w : HW} {x1 : Int32} {a : Int32 × HW} (h : fX10_fed w x1 = some a) : Mt b yX10_fed cX10_fed 3 (some .int) 3 73 [.ref (bB b + 79), .int x1] w (some (.int a.1)) a.2 := by
  refine Mt.of ρIW h (by decide) (Nat.le_of_ble_eq_true rfl) (fun G hG C E => ?_)
  subst hG
  have C : Cx G cX10_fed RX10 3 3 73 := C
  change Sm G a 0 [(0, .ref (hB G + 79)), (1, .int x1)] [] w _
  unfold fX10_fed
  refine sm_aload_n C 0 rfl dX10_fed_0 rfl ?_
  refine sm_iload_n C 1 rfl dX10_fed_1 rfl ?_
  refine sm_cVIW (As := [.int x1]) C cfX10_layPairs wd407 kd_79 rfl rfl rfl rfl rfl dX10_fed_2 (fun r h => mX10_layPairs  h) (fun r_1 w_2 => ?_)
  refine sm_istore_n (lv1 := [(2, .int r_1), (0, .ref (hB G + 79)), (1, .int x1)]) C dX10_fed_5 rfl rfl rfl ?_
  refine sm_iload_n C 0 rfl dX10_fed_6 rfl ?_
  refine sm_if_ge C dX10_fed_7 (tgt := 14) rfl (fun h_3 => ?_) (fun h_3 => ?_)
  · refine sm_iload_n C 0 rfl dX10_fed_10 rfl ?_
    refine sm_goto C dX10_fed_11 (tgt := 29) rfl ?_
    exact sm_iret C E rfl dX10_fed_29
  · refine sm_aload_n C 1 rfl dX10_fed_14 rfl ?_
    refine sm_cVI (As := []) C cfX10_fedSet wd408 kd_79 rfl rfl rfl rfl rfl dX10_fed_15 (fun r h => mX10_fedSet  h) (fun r_4 => ?_)
    refine sm_iconst C ic_1 dX10_fed_18 ?_
    refine sm_aload_n C 1 rfl dX10_fed_19 rfl ?_
    refine sm_getR C fo_10_1 rfl wd297 kd_79 dX10_fed_20 (rv_79_1 w_2) (by decide) ?_
    refine sm_iconst C ic_0 dX10_fed_23 ?_
    refine sm_iald C kd_80 dX10_fed_24 (fun h_6 => ?_)
    refine sm_ishl C dX10_fed_25 ?_
    refine sm_iconst C ic_1 dX10_fed_26 ?_
    refine sm_isub C dX10_fed_27 ?_
    refine sm_iand C dX10_fed_28 ?_
    exact sm_iret C E rfl dX10_fed_29
/-! X10_starved -/
set_option maxRecDepth 100000 in
set_option maxHeartbeats 4000000 in
theorem mX10_starved {b : Bx} {w : HW} {x1 : Int32} {a : Int32 × HW} (h : fX10_starved w x1 = some a) : Mt b yX10_starved cX10_starved 3 (some .int) 3 73 [.ref (bB b + 79), .int x1] w (some (.int a.1)) a.2 := by
  refine Mt.of ρIW h (by decide) (Nat.le_of_ble_eq_true rfl) (fun G hG C E => ?_)
  subst hG
  have C : Cx G cX10_starved RX10 3 3 73 := C
  change Sm G a 0 [(0, .ref (hB G + 79)), (1, .int x1)] [] w _
  unfold fX10_starved
  refine sm_aload_n C 0 rfl dX10_starved_0 rfl ?_
  refine sm_iload_n C 1 rfl dX10_starved_1 rfl ?_
  refine sm_cVIW (As := [.int x1]) C cfX10_layPairs wd407 kd_79 rfl rfl rfl rfl rfl dX10_starved_2 (fun r h => mX10_layPairs  h) (fun r_1 w_2 => ?_)
  refine sm_istore_n (lv1 := [(2, .int r_1), (0, .ref (hB G + 79)), (1, .int x1)]) C dX10_starved_5 rfl rfl rfl ?_
  refine sm_iload_n C 0 rfl dX10_starved_6 rfl ?_
  refine sm_if_ge C dX10_starved_7 (tgt := 14) rfl (fun h_3 => ?_) (fun h_3 => ?_)
  · refine sm_iload_n C 0 rfl dX10_starved_10 rfl ?_
    refine sm_goto C dX10_starved_11 (tgt := 27) rfl ?_
    exact sm_iret C E rfl dX10_starved_27
  · refine sm_aload_n C 1 rfl dX10_starved_14 rfl ?_
    refine sm_cVI (As := []) C cfX10_fedSet wd408 kd_79 rfl rfl rfl rfl rfl dX10_starved_15 (fun r h => mX10_fedSet  h) (fun r_4 => ?_)
    refine sm_aload_n C 1 rfl dX10_starved_18 rfl ?_
    refine sm_getR C fo_10_1 rfl wd297 kd_79 dX10_starved_19 (rv_79_1 w_2) (by decide) ?_
    refine sm_iconst C ic_0 dX10_starved_22 ?_
    refine sm_iald C kd_80 dX10_starved_23 (fun h_6 => ?_)
    refine sm_cSI (As := [.int r_4, .int (gI w_2 80 (ix 0))]) C cfX10_bit wd337 rfl rfl rfl rfl dX10_starved_24 (fun r h => mX10_bit  h) (fun r_7 => ?_)
    exact sm_iret C E rfl dX10_starved_27
/-! X10_least -/
set_option maxRecDepth 100000 in
set_option maxHeartbeats 4000000 in
theorem mX10_least {b : Bx} {w : HW} {x1 : Int32} {a : Int32 × HW} (h : fX10_least w x1 = some a) : Mt b yX10_least cX10_least 3 (some .int) 3 73 [.ref (bB b + 79), .int x1] w (some (.int a.1)) a.2 := by
  refine Mt.of ρIW h (by decide) (Nat.le_of_ble_eq_true rfl) (fun G hG C E => ?_)
  subst hG
  have C : Cx G cX10_least RX10 3 3 73 := C
  change Sm G a 0 [(0, .ref (hB G + 79)), (1, .int x1)] [] w _
  unfold fX10_least
  refine sm_aload_n C 0 rfl dX10_least_0 rfl ?_
  refine sm_iload_n C 1 rfl dX10_least_1 rfl ?_
  refine sm_cVIW (As := [.int x1]) C cfX10_layPairs wd407 kd_79 rfl rfl rfl rfl rfl dX10_least_2 (fun r h => mX10_layPairs  h) (fun r_1 w_2 => ?_)
  refine sm_istore_n (lv1 := [(2, .int r_1), (0, .ref (hB G + 79)), (1, .int x1)]) C dX10_least_5 rfl rfl rfl ?_
  refine sm_iload_n C 0 rfl dX10_least_6 rfl ?_
  refine sm_if_ge C dX10_least_7 (tgt := 12) rfl (fun h_3 => ?_) (fun h_3 => ?_)
  · refine sm_iload_n C 0 rfl dX10_least_10 rfl ?_
    exact sm_iret C E rfl dX10_least_11
  · refine sm_aload_n C 1 rfl dX10_least_12 rfl ?_
    refine sm_getI C fo_10_35 rfl wd404 kd_79 dX10_least_13 ?_
    refine sm_if_ne C dX10_least_16 (tgt := 23) rfl (fun h_4 => ?_) (fun h_4 => ?_)
    · refine sm_iconst C ic_m1 dX10_least_19 ?_
      refine sm_goto C dX10_least_20 (tgt := 32) rfl ?_
      exact sm_iret C E rfl dX10_least_32
    · refine sm_aload_n C 1 rfl dX10_least_23 rfl ?_
      refine sm_getR C fo_10_34 rfl wd406 kd_79 dX10_least_24 (rv_79_34 w_2) (by decide) ?_
      refine sm_iconst C ic_0 dX10_least_27 ?_
      refine sm_iald C kd_96 dX10_least_28 (fun h_5 => ?_)
      refine sm_bipush C bp_100 dX10_least_29 ?_
      refine sm_idiv C (by decide) dX10_least_31 ?_
      exact sm_iret C E rfl dX10_least_32
/-! X10_askOf -/
set_option maxRecDepth 100000 in
set_option maxHeartbeats 4000000 in
theorem sX10_askOf_65 {G : Gx} {a : Int32 × HW} (C : Cx G cX10_askOf RX10 5 1 23) (E : Rx G ρIW a (some .int)) {K8 : HW → Int32 → Int32 → Option (Int32 × HW)} (w : HW) (x1 : Int32) (x2 : Int32) (x3 : Int32) (hK8 : ∀ (w' : HW) (x1' : Int32) (x2' : Int32), Sm G a 12 [(0, .ref (hB G + 79)), (1, .int (x1')), (2, .int (x2'))] [] w' (K8 w' x1' x2')) : Sm G a 65 [(0, .ref (hB G + 79)), (1, .int x1), (2, .int x2), (3, .int x3)] [] w (fX10_askOf_65 w K8 x1 x2 x3) := by
  unfold fX10_askOf_65
  refine sm_iload_n C 3 rfl dX10_askOf_65 rfl ?_
  refine sm_aload_n C 0 rfl dX10_askOf_66 rfl ?_
  refine sm_getI C fo_10_35 rfl wd404 kd_79 dX10_askOf_67 ?_
  refine sm_iload_n C 3 rfl dX10_askOf_70 rfl ?_
  refine sm_isub C dX10_askOf_71 ?_
  refine sm_max C wd365 max_st math_in max_co rfl dX10_askOf_72 ?_
  refine sm_let (fun x4_11 => ?_)
  refine sm_istore (lv1 := [(4, .int x4_11), (0, .ref (hB G + 79)), (1, .int x1), (2, .int x2), (3, .int x3)]) C dX10_askOf_75 rfl rfl ?_
  refine sm_iload C 0 rfl dX10_askOf_77 ?_
  refine sm_aload_n C 1 rfl dX10_askOf_79 rfl ?_
  refine sm_getI C fo_10_36 rfl wd409 kd_79 dX10_askOf_80 ?_
  refine sm_icmp_lt C dX10_askOf_83 (tgt := 89) rfl (fun h_12 => ?_) (fun h_12 => ?_)
  · refine sm_goto C dX10_askOf_86 (tgt := 97) rfl ?_
    refine sm_iinc (lv1 := [(2, .int (x2 + 1)), (4, .int x4_11), (0, .ref (hB G + 79)), (1, .int x1), (3, .int x3)]) C 3 rfl (iv_1 _) dX10_askOf_97 rfl rfl ?_
    refine sm_goto C dX10_askOf_100 (tgt := 12) rfl ?_
    refine sm_sub [2, 3, 0] rfl ?_
    exact hK8 w x1 (x2 + 1)
  · refine sm_aload_n C 1 rfl dX10_askOf_89 rfl ?_
    refine sm_iload C 0 rfl dX10_askOf_90 ?_
    refine sm_putI C fo_10_36 rfl wd409 kd_79 rfl dX10_askOf_92 (fun w_13 => ?_)
    refine sm_iload_n C 3 rfl dX10_askOf_95 rfl ?_
    refine sm_istore_n (lv1 := [(1, .int x2), (4, .int x4_11), (0, .ref (hB G + 79)), (2, .int x2), (3, .int x3)]) C dX10_askOf_96 rfl rfl rfl ?_
    refine sm_iinc (lv1 := [(2, .int (x2 + 1)), (1, .int x2), (4, .int x4_11), (0, .ref (hB G + 79)), (3, .int x3)]) C 3 rfl (iv_1 _) dX10_askOf_97 rfl rfl ?_
    refine sm_goto C dX10_askOf_100 (tgt := 12) rfl ?_
    refine sm_sub [3, 1, 0] rfl ?_
    exact hK8 w_13 x2 (x2 + 1)
set_option maxRecDepth 100000 in
set_option maxHeartbeats 4000000 in
theorem sX10_askOf_27 {G : Gx} {a : Int32 × HW} (C : Cx G cX10_askOf RX10 5 1 23) (E : Rx G ρIW a (some .int)) {K8 : HW → Int32 → Int32 → Option (Int32 × HW)} {x1 : Int32} {x2 : Int32} (hK8 : ∀ (w' : HW) (x1' : Int32) (x2' : Int32), Sm G a 12 [(0, .ref (hB G + 79)), (1, .int (x1')), (2, .int (x2'))] [] w' (K8 w' x1' x2')) : ∀ (n : Nat) (w : HW) (x3 : Int32) (x4 : Int32), Sm G a 27 [(0, .ref (hB G + 79)), (1, .int x1), (2, .int x2), (3, .int x3), (4, .int x4)] [] w (fX10_askOf_27 K8 x1 x2 n w x3 x4) := by
  intro n
  induction n with
  | zero => intro _ _ _; exact sm_none
  | succ n ih =>
    intro w x3 x4
    rw [fX10_askOf_27]
    refine sm_iload C 4 rfl dX10_askOf_27 ?_
    refine sm_aload_n C 0 rfl dX10_askOf_29 rfl ?_
    refine sm_getI C fo_10_35 rfl wd404 kd_79 dX10_askOf_30 ?_
    refine sm_icmp_ge C dX10_askOf_33 (tgt := 65) rfl (fun h_4 => ?_) (fun h_4 => ?_)
    · refine sm_iload_n C 3 rfl dX10_askOf_36 rfl ?_
      refine sm_aload_n C 0 rfl dX10_askOf_37 rfl ?_
      refine sm_aload_n C 0 rfl dX10_askOf_38 rfl ?_
      refine sm_getR C fo_10_34 rfl wd406 kd_79 dX10_askOf_39 (rv_79_34 w) (by decide) ?_
      refine sm_iload C 4 rfl dX10_askOf_42 ?_
      refine sm_iald C kd_96 dX10_askOf_44 (fun h_5 => ?_)
      refine sm_iload_n C 2 rfl dX10_askOf_45 rfl ?_
      refine sm_cVI (As := [.int (gI w 96 (ix x4)), .int x2]) C cfX10_eatsBy wd405 kd_79 rfl rfl rfl rfl rfl dX10_askOf_46 (fun r h => mX10_eatsBy  h) (fun r_6 => ?_)
      refine sm_if_eq C dX10_askOf_49 (tgt := 56) rfl (fun h_8 => ?_) (fun h_8 => ?_)
      · refine sm_iconst C ic_1 dX10_askOf_52 ?_
        refine sm_goto C dX10_askOf_53 (tgt := 57) rfl ?_
        refine sm_iadd C dX10_askOf_57 ?_
        refine sm_let (fun x3_9 => ?_)
        refine sm_istore_n (lv1 := [(3, .int x3_9), (0, .ref (hB G + 79)), (1, .int x1), (2, .int x2), (4, .int x4)]) C dX10_askOf_58 rfl rfl rfl ?_
        refine sm_iinc (lv1 := [(4, .int (x4 + 1)), (3, .int x3_9), (0, .ref (hB G + 79)), (1, .int x1), (2, .int x2)]) C 4 rfl (iv_1 _) dX10_askOf_59 rfl rfl ?_
        refine sm_goto C dX10_askOf_62 (tgt := 27) rfl ?_
        refine sm_sub [2, 3, 4, 1, 0] rfl ?_
        exact ih w x3_9 (x4 + 1)
      · refine sm_iconst C ic_0 dX10_askOf_56 ?_
        refine sm_iadd C dX10_askOf_57 ?_
        refine sm_let (fun x3_10 => ?_)
        refine sm_istore_n (lv1 := [(3, .int x3_10), (0, .ref (hB G + 79)), (1, .int x1), (2, .int x2), (4, .int x4)]) C dX10_askOf_58 rfl rfl rfl ?_
        refine sm_iinc (lv1 := [(4, .int (x4 + 1)), (3, .int x3_10), (0, .ref (hB G + 79)), (1, .int x1), (2, .int x2)]) C 4 rfl (iv_1 _) dX10_askOf_59 rfl rfl ?_
        refine sm_goto C dX10_askOf_62 (tgt := 27) rfl ?_
        refine sm_sub [2, 3, 4, 1, 0] rfl ?_
        exact ih w x3_10 (x4 + 1)
    · refine sm_sub [0, 1, 2, 3] rfl ?_
      exact sX10_askOf_65 C E w x1 x2 x3 hK8
set_option maxRecDepth 100000 in
set_option maxHeartbeats 4000000 in
theorem sX10_askOf_12 {G : Gx} {a : Int32 × HW} (C : Cx G cX10_askOf RX10 5 1 23) (E : Rx G ρIW a (some .int)) : ∀ (n : Nat) (w : HW) (x1 : Int32) (x2 : Int32), Sm G a 12 [(0, .ref (hB G + 79)), (1, .int x1), (2, .int x2)] [] w (fX10_askOf_12 n w x1 x2) := by
  intro n
  induction n with
  | zero => intro _ _ _; exact sm_none
  | succ n ih =>
    intro w x1 x2
    rw [fX10_askOf_12]
    refine sm_iload_n C 2 rfl dX10_askOf_12 rfl ?_
    refine sm_aload_n C 0 rfl dX10_askOf_13 rfl ?_
    refine sm_getR C fo_10_1 rfl wd297 kd_79 dX10_askOf_14 (rv_79_1 w) (by decide) ?_
    refine sm_iconst C ic_0 dX10_askOf_17 ?_
    refine sm_iald C kd_80 dX10_askOf_18 (fun h_2 => ?_)
    refine sm_icmp_ge C dX10_askOf_19 (tgt := 103) rfl (fun h_3 => ?_) (fun h_3 => ?_)
    · refine sm_iconst C ic_0 dX10_askOf_22 ?_
      refine sm_istore_n (lv1 := [(3, .int 0), (0, .ref (hB G + 79)), (1, .int x1), (2, .int x2)]) C dX10_askOf_23 rfl rfl rfl ?_
      refine sm_iconst C ic_0 dX10_askOf_24 ?_
      refine sm_istore (lv1 := [(4, .int 0), (3, .int 0), (0, .ref (hB G + 79)), (1, .int x1), (2, .int x2)]) C dX10_askOf_25 rfl rfl ?_
      refine sm_sub [2, 3, 4, 1, 0] rfl ?_
      exact sX10_askOf_27 C E (fun w x1 x2 => ih w x1 x2) FU w 0 0
    · refine sm_iload_n C 1 rfl dX10_askOf_103 rfl ?_
      exact sm_iret C E rfl dX10_askOf_104
set_option maxRecDepth 100000 in
set_option maxHeartbeats 4000000 in
theorem mX10_askOf {b : Bx} {w : HW} {a : Int32 × HW} (h : fX10_askOf w = some a) : Mt b yX10_askOf cX10_askOf 5 (some .int) 1 23 [.ref (bB b + 79)] w (some (.int a.1)) a.2 := by
  refine Mt.of ρIW h (by decide) (Nat.le_of_ble_eq_true rfl) (fun G hG C E => ?_)
  subst hG
  have C : Cx G cX10_askOf RX10 5 1 23 := C
  change Sm G a 0 [(0, .ref (hB G + 79))] [] w _
  unfold fX10_askOf
  refine sm_aload_n C 0 rfl dX10_askOf_0 rfl ?_
  refine sm_aload_n C 0 rfl dX10_askOf_1 rfl ?_
  refine sm_getI C fo_10_35 rfl wd404 kd_79 dX10_askOf_2 ?_
  refine sm_putI C fo_10_36 rfl wd409 kd_79 rfl dX10_askOf_5 (fun w_1 => ?_)
  refine sm_iconst C ic_m1 dX10_askOf_8 ?_
  refine sm_istore_n (lv1 := [(1, .int (-1)), (0, .ref (hB G + 79))]) C dX10_askOf_9 rfl rfl rfl ?_
  refine sm_iconst C ic_0 dX10_askOf_10 ?_
  refine sm_istore_n (lv1 := [(2, .int 0), (1, .int (-1)), (0, .ref (hB G + 79))]) C dX10_askOf_11 rfl rfl rfl ?_
  refine sm_sub [2, 1, 0] rfl ?_
  exact sX10_askOf_12 C E FU w_1 (-1) 0
/-! X10_ask -/
set_option maxRecDepth 100000 in
set_option maxHeartbeats 4000000 in
theorem mX10_ask {b : Bx} {w : HW} {x1 : Int32} {a : Int32 × HW} (h : fX10_ask w x1 = some a) : Mt b yX10_ask cX10_ask 3 (some .int) 3 73 [.ref (bB b + 79), .int x1] w (some (.int a.1)) a.2 := by
  refine Mt.of ρIW h (by decide) (Nat.le_of_ble_eq_true rfl) (fun G hG C E => ?_)
  subst hG
  have C : Cx G cX10_ask RX10 3 3 73 := C
  change Sm G a 0 [(0, .ref (hB G + 79)), (1, .int x1)] [] w _
  unfold fX10_ask
  refine sm_aload_n C 0 rfl dX10_ask_0 rfl ?_
  refine sm_iload_n C 1 rfl dX10_ask_1 rfl ?_
  refine sm_cVIW (As := [.int x1]) C cfX10_layPairs wd407 kd_79 rfl rfl rfl rfl rfl dX10_ask_2 (fun r h => mX10_layPairs  h) (fun r_1 w_2 => ?_)
  refine sm_istore_n (lv1 := [(2, .int r_1), (0, .ref (hB G + 79)), (1, .int x1)]) C dX10_ask_5 rfl rfl rfl ?_
  refine sm_iload_n C 0 rfl dX10_ask_6 rfl ?_
  refine sm_if_ge C dX10_ask_7 (tgt := 14) rfl (fun h_3 => ?_) (fun h_3 => ?_)
  · refine sm_iload_n C 0 rfl dX10_ask_10 rfl ?_
    refine sm_goto C dX10_ask_11 (tgt := 18) rfl ?_
    exact sm_iret C E rfl dX10_ask_18
  · refine sm_aload_n C 1 rfl dX10_ask_14 rfl ?_
    refine sm_cVIW (As := []) C cfX10_askOf wd410 kd_79 rfl rfl rfl rfl rfl dX10_ask_15 (fun r h => mX10_askOf  h) (fun r_4 w_5 => ?_)
    exact sm_iret C E rfl dX10_ask_18
/-! X10_leaves -/
set_option maxRecDepth 100000 in
set_option maxHeartbeats 4000000 in
theorem mX10_leaves {b : Bx} {w : HW} {x1 : Int32} {a : Int32 × HW} (h : fX10_leaves w x1 = some a) : Mt b yX10_leaves cX10_leaves 3 (some .int) 3 73 [.ref (bB b + 79), .int x1] w (some (.int a.1)) a.2 := by
  refine Mt.of ρIW h (by decide) (Nat.le_of_ble_eq_true rfl) (fun G hG C E => ?_)
  subst hG
  have C : Cx G cX10_leaves RX10 3 3 73 := C
  change Sm G a 0 [(0, .ref (hB G + 79)), (1, .int x1)] [] w _
  unfold fX10_leaves
  refine sm_aload_n C 0 rfl dX10_leaves_0 rfl ?_
  refine sm_iload_n C 1 rfl dX10_leaves_1 rfl ?_
  refine sm_cVIW (As := [.int x1]) C cfX10_layPairs wd407 kd_79 rfl rfl rfl rfl rfl dX10_leaves_2 (fun r h => mX10_layPairs  h) (fun r_1 w_2 => ?_)
  refine sm_istore_n (lv1 := [(2, .int r_1), (0, .ref (hB G + 79)), (1, .int x1)]) C dX10_leaves_5 rfl rfl rfl ?_
  refine sm_iload_n C 0 rfl dX10_leaves_6 rfl ?_
  refine sm_if_ge C dX10_leaves_7 (tgt := 12) rfl (fun h_3 => ?_) (fun h_3 => ?_)
  · refine sm_iload_n C 0 rfl dX10_leaves_10 rfl ?_
    exact sm_iret C E rfl dX10_leaves_11
  · refine sm_aload_n C 1 rfl dX10_leaves_12 rfl ?_
    refine sm_cVIW (As := []) C cfX10_askOf wd410 kd_79 rfl rfl rfl rfl rfl dX10_leaves_13 (fun r h => mX10_askOf  h) (fun r_4 w_5 => ?_)
    refine sm_pop C rfl dX10_leaves_16 ?_
    refine sm_aload_n C 1 rfl dX10_leaves_17 rfl ?_
    refine sm_getI C fo_10_36 rfl wd409 kd_79 dX10_leaves_18 ?_
    exact sm_iret C E rfl dX10_leaves_21
/-! X10_layList -/
set_option maxRecDepth 100000 in
set_option maxHeartbeats 4000000 in
theorem sX10_layList_70 {G : Gx} {a : Int32 × HW} (C : Cx G cX10_layList RX10 4 2 45) (E : Rx G ρIW a (some .int)) {x1 : Int32} : ∀ (n : Nat) (w : HW) (x3 : Int32), Sm G a 70 [(0, .ref (hB G + 79)), (1, .int x1), (3, .int x3)] [] w (fX10_layList_70 x1 n w x3) := by
  intro n
  induction n with
  | zero => intro _ _; exact sm_none
  | succ n ih =>
    intro w x3
    rw [fX10_layList_70]
    refine sm_iload_n C 2 rfl dX10_layList_70 rfl ?_
    refine sm_aload_n C 0 rfl dX10_layList_71 rfl ?_
    refine sm_getR C fo_10_38 rfl wd402 kd_79 dX10_layList_72 (rv_79_38 w) (by decide) ?_
    refine sm_iload_n C 1 rfl dX10_layList_75 rfl ?_
    refine sm_iald C kd_98 dX10_layList_76 (fun h_15 => ?_)
    refine sm_icmp_ge C dX10_layList_77 (tgt := 147) rfl (fun h_16 => ?_) (fun h_16 => ?_)
    · refine sm_aload_n C 0 rfl dX10_layList_80 rfl ?_
      refine sm_iload_n C 1 rfl dX10_layList_81 rfl ?_
      refine sm_iload_n C 2 rfl dX10_layList_82 rfl ?_
      refine sm_cVL (As := [.int x1, .int x3]) C cfX10_numberAt wd403 kd_79 rfl rfl rfl rfl rfl dX10_layList_83 (fun r h => mX10_numberAt  h) (fun r_17 => ?_)
      refine sm_lconst C lc_0 dX10_layList_86 ?_
      refine sm_lconst C lc_1 dX10_layList_87 ?_
      refine sm_cSI (As := [.long r_17, .long 0, .long 1]) C cfX10_in wd295 rfl rfl rfl rfl dX10_layList_88 (fun r h => mX10_in  h) (fun r_19 => ?_)
      refine sm_if_eq C dX10_layList_91 (tgt := 110) rfl (fun h_21 => ?_) (fun h_21 => ?_)
      · refine sm_aload_n C 0 rfl dX10_layList_94 rfl ?_
        refine sm_iload_n C 1 rfl dX10_layList_95 rfl ?_
        refine sm_iload_n C 2 rfl dX10_layList_96 rfl ?_
        refine sm_iconst C ic_1 dX10_layList_97 ?_
        refine sm_iadd C dX10_layList_98 ?_
        refine sm_cVL (As := [.int x1, .int (x3 + 1)]) C cfX10_numberAt wd403 kd_79 rfl rfl rfl rfl rfl dX10_layList_99 (fun r h => mX10_numberAt  h) (fun r_22 => ?_)
        refine sm_lconst C lc_0 dX10_layList_102 ?_
        refine sm_lconst C lc_1 dX10_layList_103 ?_
        refine sm_cSI (As := [.long r_22, .long 0, .long 1]) C cfX10_in wd295 rfl rfl rfl rfl dX10_layList_104 (fun r h => mX10_in  h) (fun r_24 => ?_)
        refine sm_if_ne C dX10_layList_107 (tgt := 113) rfl (fun h_26 => ?_) (fun h_26 => ?_)
        · refine sm_bipush C bp_m2 dX10_layList_110 ?_
          exact sm_iret C E rfl dX10_layList_112
        · refine sm_aload_n C 0 rfl dX10_layList_113 rfl ?_
          refine sm_getR C fo_10_37 rfl wd411 kd_79 dX10_layList_114 (rv_79_37 w) (by decide) ?_
          refine sm_iconst C ic_2 dX10_layList_117 ?_
          refine sm_aload_n C 0 rfl dX10_layList_118 rfl ?_
          refine sm_iload_n C 1 rfl dX10_layList_119 rfl ?_
          refine sm_iload_n C 2 rfl dX10_layList_120 rfl ?_
          refine sm_cVL (As := [.int x1, .int x3]) C cfX10_numberAt wd403 kd_79 rfl rfl rfl rfl rfl dX10_layList_121 (fun r h => mX10_numberAt  h) (fun r_27 => ?_)
          refine sm_l2i C dX10_layList_124 ?_
          refine sm_imul C dX10_layList_125 ?_
          refine sm_aload_n C 0 rfl dX10_layList_126 rfl ?_
          refine sm_iload_n C 1 rfl dX10_layList_127 rfl ?_
          refine sm_iload_n C 2 rfl dX10_layList_128 rfl ?_
          refine sm_iconst C ic_1 dX10_layList_129 ?_
          refine sm_iadd C dX10_layList_130 ?_
          refine sm_cVL (As := [.int x1, .int (x3 + 1)]) C cfX10_numberAt wd403 kd_79 rfl rfl rfl rfl rfl dX10_layList_131 (fun r h => mX10_numberAt  h) (fun r_29 => ?_)
          refine sm_l2i C dX10_layList_134 ?_
          refine sm_iadd C dX10_layList_135 ?_
          refine sm_dup2 C rfl rfl dX10_layList_136 ?_
          refine sm_iald C kd_97 dX10_layList_137 (fun h_31 => ?_)
          refine sm_iconst C ic_1 dX10_layList_138 ?_
          refine sm_iadd C dX10_layList_139 ?_
          refine sm_iast C kd_97 dX10_layList_140 (fun h_32 w_33 => ?_)
          refine sm_iinc (lv1 := [(3, .int (x3 + 2)), (0, .ref (hB G + 79)), (1, .int x1)]) C 2 rfl (iv_2 _) dX10_layList_141 rfl rfl ?_
          refine sm_goto C dX10_layList_144 (tgt := 70) rfl ?_
          refine sm_sub [1, 2, 0] rfl ?_
          exact ih w_33 (x3 + 2)
      · refine sm_bipush C bp_m2 dX10_layList_110 ?_
        exact sm_iret C E rfl dX10_layList_112
    · refine sm_iconst C ic_0 dX10_layList_147 ?_
      exact sm_iret C E rfl dX10_layList_148
set_option maxRecDepth 100000 in
set_option maxHeartbeats 4000000 in
theorem sX10_layList_50 {G : Gx} {a : Int32 × HW} (C : Cx G cX10_layList RX10 4 2 45) (E : Rx G ρIW a (some .int)) {x1 : Int32} : ∀ (n : Nat) (w : HW) (x3 : Int32), Sm G a 50 [(0, .ref (hB G + 79)), (1, .int x1), (3, .int x3)] [] w (fX10_layList_50 x1 n w x3) := by
  intro n
  induction n with
  | zero => intro _ _; exact sm_none
  | succ n ih =>
    intro w x3
    rw [fX10_layList_50]
    refine sm_iload_n C 2 rfl dX10_layList_50 rfl ?_
    refine sm_iconst C ic_4 dX10_layList_51 ?_
    refine sm_icmp_ge C dX10_layList_52 (tgt := 68) rfl (fun h_12 => ?_) (fun h_12 => ?_)
    · refine sm_aload_n C 0 rfl dX10_layList_55 rfl ?_
      refine sm_getR C fo_10_37 rfl wd411 kd_79 dX10_layList_56 (rv_79_37 w) (by decide) ?_
      refine sm_iload_n C 2 rfl dX10_layList_59 rfl ?_
      refine sm_iconst C ic_0 dX10_layList_60 ?_
      refine sm_iast C kd_97 dX10_layList_61 (fun h_13 w_14 => ?_)
      refine sm_iinc (lv1 := [(3, .int (x3 + 1)), (0, .ref (hB G + 79)), (1, .int x1)]) C 2 rfl (iv_1 _) dX10_layList_62 rfl rfl ?_
      refine sm_goto C dX10_layList_65 (tgt := 50) rfl ?_
      refine sm_sub [1, 2, 0] rfl ?_
      exact ih w_14 (x3 + 1)
    · refine sm_iconst C ic_0 dX10_layList_68 ?_
      refine sm_istore_n (lv1 := [(3, .int 0), (0, .ref (hB G + 79)), (1, .int x1)]) C dX10_layList_69 rfl rfl rfl ?_
      refine sm_sub [1, 2, 0] rfl ?_
      exact sX10_layList_70 C E FU w 0
set_option maxRecDepth 100000 in
set_option maxHeartbeats 4000000 in
theorem mX10_layList {b : Bx} {w : HW} {x1 : Int32} {x2 : Int32} {a : Int32 × HW} (h : fX10_layList w x1 x2 = some a) : Mt b yX10_layList cX10_layList 4 (some .int) 2 45 [.ref (bB b + 79), .int x1, .int x2] w (some (.int a.1)) a.2 := by
  refine Mt.of ρIW h (by decide) (Nat.le_of_ble_eq_true rfl) (fun G hG C E => ?_)
  subst hG
  have C : Cx G cX10_layList RX10 4 2 45 := C
  change Sm G a 0 [(0, .ref (hB G + 79)), (1, .int x1), (2, .int x2)] [] w _
  unfold fX10_layList
  refine sm_iload_n C 1 rfl dX10_layList_0 rfl ?_
  refine sm_cSI (As := [.int x1]) C cfX10_isSlot wd401 rfl rfl rfl rfl dX10_layList_1 (fun r h => mX10_isSlot  h) (fun r_1 => ?_)
  refine sm_if_eq C dX10_layList_4 (tgt := 18) rfl (fun h_3 => ?_) (fun h_3 => ?_)
  · refine sm_aload_n C 0 rfl dX10_layList_7 rfl ?_
    refine sm_cVI (As := []) C cfX10_isCamp wd299 kd_79 rfl rfl rfl rfl rfl dX10_layList_8 (fun r h => mX10_isCamp  h) (fun r_4 => ?_)
    refine sm_if_eq C dX10_layList_11 (tgt := 18) rfl (fun h_6 => ?_) (fun h_6 => ?_)
    · refine sm_iload_n C 2 rfl dX10_layList_14 rfl ?_
      refine sm_if_ne C dX10_layList_15 (tgt := 21) rfl (fun h_7 => ?_) (fun h_7 => ?_)
      · refine sm_bipush C bp_m2 dX10_layList_18 ?_
        exact sm_iret C E rfl dX10_layList_20
      · refine sm_aload_n C 0 rfl dX10_layList_21 rfl ?_
        refine sm_getR C fo_10_38 rfl wd402 kd_79 dX10_layList_22 (rv_79_38 w) (by decide) ?_
        refine sm_iload_n C 1 rfl dX10_layList_25 rfl ?_
        refine sm_iald C kd_98 dX10_layList_26 (fun h_8 => ?_)
        refine sm_iconst C ic_m1 dX10_layList_27 ?_
        refine sm_icmp_ne C dX10_layList_28 (tgt := 34) rfl (fun h_9 => ?_) (fun h_9 => ?_)
        · refine sm_bipush C bp_m6 dX10_layList_31 ?_
          exact sm_iret C E rfl dX10_layList_33
        · refine sm_aload_n C 0 rfl dX10_layList_34 rfl ?_
          refine sm_getR C fo_10_38 rfl wd402 kd_79 dX10_layList_35 (rv_79_38 w) (by decide) ?_
          refine sm_iload_n C 1 rfl dX10_layList_38 rfl ?_
          refine sm_iald C kd_98 dX10_layList_39 (fun h_10 => ?_)
          refine sm_iconst C ic_2 dX10_layList_40 ?_
          refine sm_irem C (by decide) dX10_layList_41 ?_
          refine sm_if_eq C dX10_layList_42 (tgt := 48) rfl (fun h_11 => ?_) (fun h_11 => ?_)
          · refine sm_bipush C bp_m2 dX10_layList_45 ?_
            exact sm_iret C E rfl dX10_layList_47
          · refine sm_iconst C ic_0 dX10_layList_48 ?_
            refine sm_istore_n (lv1 := [(3, .int 0), (0, .ref (hB G + 79)), (1, .int x1), (2, .int x2)]) C dX10_layList_49 rfl rfl rfl ?_
            refine sm_sub [1, 2, 0] rfl ?_
            exact sX10_layList_50 C E FU w 0
    · refine sm_bipush C bp_m2 dX10_layList_18 ?_
      exact sm_iret C E rfl dX10_layList_20
  · refine sm_bipush C bp_m2 dX10_layList_18 ?_
    exact sm_iret C E rfl dX10_layList_20
/-! X10_tally -/
set_option maxRecDepth 100000 in
set_option maxHeartbeats 4000000 in
theorem sX10_tally_27 {G : Gx} {a : Int32 × HW} (C : Cx G cX10_tally RX10 5 3 68) (E : Rx G ρIW a (some .int)) (w : HW) (x2 : Int32) (x3 : Int32) (s0 : Int32) (s1 : Int32) : Sm G a 27 [(0, .ref (hB G + 79)), (2, .int x2), (3, .int x3)] [.int s0, .int s1, .ref (hB G + 79)] w (fX10_tally_27 w x2 x3 s0 s1) := by
  unfold fX10_tally_27
  refine sm_cVIW (As := [.int s1, .int s0]) C cfX10_layList wd412 kd_79 rfl rfl rfl rfl rfl dX10_tally_27 (fun r h => mX10_layList  h) (fun r_7 w_8 => ?_)
  refine sm_istore (lv1 := [(4, .int r_7), (0, .ref (hB G + 79)), (2, .int x2), (3, .int x3)]) C dX10_tally_30 rfl rfl ?_
  refine sm_iload C 0 rfl dX10_tally_32 ?_
  refine sm_if_ge C dX10_tally_34 (tgt := 42) rfl (fun h_9 => ?_) (fun h_9 => ?_)
  · refine sm_iload C 0 rfl dX10_tally_37 ?_
    refine sm_goto C dX10_tally_39 (tgt := 52) rfl ?_
    exact sm_iret C E rfl dX10_tally_52
  · refine sm_aload_n C 1 rfl dX10_tally_42 rfl ?_
    refine sm_getR C fo_10_37 rfl wd411 kd_79 dX10_tally_43 (rv_79_37 w_8) (by decide) ?_
    refine sm_iconst C ic_2 dX10_tally_46 ?_
    refine sm_iload_n C 2 rfl dX10_tally_47 rfl ?_
    refine sm_imul C dX10_tally_48 ?_
    refine sm_iload_n C 3 rfl dX10_tally_49 rfl ?_
    refine sm_iadd C dX10_tally_50 ?_
    refine sm_iald C kd_97 dX10_tally_51 (fun h_10 => ?_)
    exact sm_iret C E rfl dX10_tally_52
set_option maxRecDepth 100000 in
set_option maxHeartbeats 4000000 in
theorem mX10_tally {b : Bx} {w : HW} {x1 : Int32} {x2 : Int32} {x3 : Int32} {a : Int32 × HW} (h : fX10_tally w x1 x2 x3 = some a) : Mt b yX10_tally cX10_tally 5 (some .int) 3 68 [.ref (bB b + 79), .int x1, .int x2, .int x3] w (some (.int a.1)) a.2 := by
  refine Mt.of ρIW h (by decide) (Nat.le_of_ble_eq_true rfl) (fun G hG C E => ?_)
  subst hG
  have C : Cx G cX10_tally RX10 5 3 68 := C
  change Sm G a 0 [(0, .ref (hB G + 79)), (1, .int x1), (2, .int x2), (3, .int x3)] [] w _
  unfold fX10_tally
  refine sm_aload_n C 0 rfl dX10_tally_0 rfl ?_
  refine sm_iload_n C 1 rfl dX10_tally_1 rfl ?_
  refine sm_iload_n C 2 rfl dX10_tally_2 rfl ?_
  refine sm_i2l C dX10_tally_3 ?_
  refine sm_lconst C lc_0 dX10_tally_4 ?_
  refine sm_lconst C lc_1 dX10_tally_5 ?_
  refine sm_cSI (As := [.long (x2.toInt64), .long 0, .long 1]) C cfX10_in wd295 rfl rfl rfl rfl dX10_tally_6 (fun r h => mX10_in  h) (fun r_1 => ?_)
  refine sm_if_eq C dX10_tally_9 (tgt := 26) rfl (fun h_3 => ?_) (fun h_3 => ?_)
  · refine sm_iload_n C 3 rfl dX10_tally_12 rfl ?_
    refine sm_i2l C dX10_tally_13 ?_
    refine sm_lconst C lc_0 dX10_tally_14 ?_
    refine sm_lconst C lc_1 dX10_tally_15 ?_
    refine sm_cSI (As := [.long (x3.toInt64), .long 0, .long 1]) C cfX10_in wd295 rfl rfl rfl rfl dX10_tally_16 (fun r h => mX10_in  h) (fun r_4 => ?_)
    refine sm_if_eq C dX10_tally_19 (tgt := 26) rfl (fun h_6 => ?_) (fun h_6 => ?_)
    · refine sm_iconst C ic_1 dX10_tally_22 ?_
      refine sm_goto C dX10_tally_23 (tgt := 27) rfl ?_
      refine sm_sub [0, 2, 3] rfl ?_
      exact sX10_tally_27 C E w x2 x3 1 x1
    · refine sm_iconst C ic_0 dX10_tally_26 ?_
      refine sm_sub [0, 2, 3] rfl ?_
      exact sX10_tally_27 C E w x2 x3 0 x1
  · refine sm_iconst C ic_0 dX10_tally_26 ?_
    refine sm_sub [0, 2, 3] rfl ?_
    exact sX10_tally_27 C E w x2 x3 0 x1
/-! X10_choose -/
set_option maxRecDepth 100000 in
set_option maxHeartbeats 4000000 in
theorem sX10_choose_18 {G : Gx} {a : Int64} {w : HW} (C : Cx G cX10_choose RX10 5 1 25) (E : Rx G (ρL w) a (some .long)) {x0 : Int32} {x1 : Int32} : ∀ (n : Nat) (x2 : Int64) (x4 : Int32), Sm G a 18 [(0, .int x0), (1, .int x1), (2, .long x2), (4, .int x4)] [] w (fX10_choose_18 w x0 x1 n x2 x4) := by
  intro n
  induction n with
  | zero => intro _ _; exact sm_none
  | succ n ih =>
    intro x2 x4
    rw [fX10_choose_18]
    refine sm_iload C 3 rfl dX10_choose_18 ?_
    refine sm_iload_n C 1 rfl dX10_choose_20 rfl ?_
    refine sm_icmp_gt C dX10_choose_21 (tgt := 44) rfl (fun h_4 => ?_) (fun h_4 => ?_)
    · refine sm_lload_n C 2 rfl dX10_choose_24 rfl ?_
      refine sm_iload_n C 0 rfl dX10_choose_25 rfl ?_
      refine sm_iload_n C 1 rfl dX10_choose_26 rfl ?_
      refine sm_isub C dX10_choose_27 ?_
      refine sm_iload C 3 rfl dX10_choose_28 ?_
      refine sm_iadd C dX10_choose_30 ?_
      refine sm_i2l C dX10_choose_31 ?_
      refine sm_lmul C dX10_choose_32 ?_
      refine sm_iload C 3 rfl dX10_choose_33 ?_
      refine sm_i2l C dX10_choose_35 ?_
      refine sm_nz (fun h_5 => ?_)
      refine sm_ldiv C h_5 dX10_choose_36 ?_
      refine sm_letL (fun x2_6 => ?_)
      refine sm_lstore_n (lv1 := [(2, .long x2_6), (0, .int x0), (1, .int x1), (4, .int x4)]) C dX10_choose_37 rfl rfl rfl ?_
      refine sm_iinc (lv1 := [(4, .int (x4 + 1)), (2, .long x2_6), (0, .int x0), (1, .int x1)]) C 3 rfl (iv_1 _) dX10_choose_38 rfl rfl ?_
      refine sm_goto C dX10_choose_41 (tgt := 18) rfl ?_
      refine sm_sub [2, 3, 1, 0] rfl ?_
      exact ih x2_6 (x4 + 1)
    · refine sm_lload_n C 2 rfl dX10_choose_44 rfl ?_
      exact sm_lret C E rfl dX10_choose_45
set_option maxRecDepth 100000 in
set_option maxHeartbeats 4000000 in
theorem mX10_choose {b : Bx} {w : HW} {x0 : Int32} {x1 : Int32} {a : Int64} (h : fX10_choose w x0 x1 = some a) : Mt b yX10_choose cX10_choose 5 (some .long) 1 25 [.int x0, .int x1] w (some (.long a)) w := by
  refine Mt.of (ρL w) h (by decide) (Nat.le_of_ble_eq_true rfl) (fun G hG C E => ?_)
  subst hG
  have C : Cx G cX10_choose RX10 5 1 25 := C
  change Sm G a 0 [(0, .int x0), (1, .int x1)] [] w _
  unfold fX10_choose
  refine sm_iload_n C 1 rfl dX10_choose_0 rfl ?_
  refine sm_i2l C dX10_choose_1 ?_
  refine sm_lconst C lc_0 dX10_choose_2 ?_
  refine sm_iload_n C 0 rfl dX10_choose_3 rfl ?_
  refine sm_i2l C dX10_choose_4 ?_
  refine sm_cSI (As := [.long (x1.toInt64), .long 0, .long (x0.toInt64)]) C cfX10_in wd295 rfl rfl rfl rfl dX10_choose_5 (fun r h => mX10_in  h) (fun r_1 => ?_)
  refine sm_if_ne C dX10_choose_8 (tgt := 13) rfl (fun h_3 => ?_) (fun h_3 => ?_)
  · refine sm_lconst C lc_0 dX10_choose_11 ?_
    exact sm_lret C E rfl dX10_choose_12
  · refine sm_lconst C lc_1 dX10_choose_13 ?_
    refine sm_lstore_n (lv1 := [(2, .long 1), (0, .int x0), (1, .int x1)]) C dX10_choose_14 rfl rfl rfl ?_
    refine sm_iconst C ic_1 dX10_choose_15 ?_
    refine sm_istore (lv1 := [(4, .int 1), (2, .long 1), (0, .int x0), (1, .int x1)]) C dX10_choose_16 rfl rfl ?_
    refine sm_sub [2, 3, 1, 0] rfl ?_
    exact sX10_choose_18 C E FU 1 1
/-! X10_divisor -/
set_option maxRecDepth 100000 in
set_option maxHeartbeats 4000000 in
theorem sX10_divisor_6 {G : Gx} {a : Int64} {w : HW} (C : Cx G cX10_divisor RX10 10 0 0) (E : Rx G (ρL w) a (some .long)) : ∀ (n : Nat) (x4 : Int64) (x6 : Int64), Sm G a 6 [(4, .long x4), (6, .long x6)] [] w (fX10_divisor_6 w n x4 x6) := by
  intro n
  induction n with
  | zero => intro _ _; exact sm_none
  | succ n ih =>
    intro x4 x6
    rw [fX10_divisor_6]
    refine sm_lload C 1 rfl dX10_divisor_6 ?_
    refine sm_lconst C lc_0 dX10_divisor_8 ?_
    refine sm_lcmp C dX10_divisor_9 ?_
    refine sm_if_eq C dX10_divisor_10 (tgt := 31) rfl (fun h_1 => ?_) (fun h_1 => ?_)
    · refine sm_lload C 0 rfl dX10_divisor_13 ?_
      refine sm_lload C 1 rfl dX10_divisor_15 ?_
      refine sm_nz (fun h_2 => ?_)
      refine sm_lrem C h_2 dX10_divisor_17 ?_
      refine sm_letL (fun x8_3 => ?_)
      refine sm_lstore (lv1 := [(8, .long x8_3), (4, .long x4), (6, .long x6)]) C dX10_divisor_18 rfl rfl ?_
      refine sm_lload C 2 rfl dX10_divisor_20 ?_
      refine sm_lstore (lv1 := [(4, .long x6), (8, .long x8_3), (6, .long x6)]) C dX10_divisor_22 rfl rfl ?_
      refine sm_lload C 1 rfl dX10_divisor_24 ?_
      refine sm_lstore (lv1 := [(6, .long x8_3), (4, .long x6), (8, .long x8_3)]) C dX10_divisor_26 rfl rfl ?_
      refine sm_goto C dX10_divisor_28 (tgt := 6) rfl ?_
      refine sm_sub [1, 0] rfl ?_
      exact ih x6 x8_3
    · refine sm_lload C 0 rfl dX10_divisor_31 ?_
      exact sm_lret C E rfl dX10_divisor_33
set_option maxRecDepth 100000 in
set_option maxHeartbeats 4000000 in
theorem mX10_divisor {b : Bx} {w : HW} {x0 : Int64} {x2 : Int64} {a : Int64} (h : fX10_divisor w x0 x2 = some a) : Mt b yX10_divisor cX10_divisor 10 (some .long) 0 0 [.long x0, .long x2] w (some (.long a)) w := by
  refine Mt.of (ρL w) h (by decide) (Nat.le_of_ble_eq_true rfl) (fun G hG C E => ?_)
  subst hG
  have C : Cx G cX10_divisor RX10 10 0 0 := C
  change Sm G a 0 [(0, .long x0), (2, .long x2)] [] w _
  unfold fX10_divisor
  refine sm_lload_n C 0 rfl dX10_divisor_0 rfl ?_
  refine sm_lstore (lv1 := [(4, .long x0), (0, .long x0), (2, .long x2)]) C dX10_divisor_1 rfl rfl ?_
  refine sm_lload_n C 2 rfl dX10_divisor_3 rfl ?_
  refine sm_lstore (lv1 := [(6, .long x2), (4, .long x0), (0, .long x0), (2, .long x2)]) C dX10_divisor_4 rfl rfl ?_
  refine sm_sub [1, 0] rfl ?_
  exact sX10_divisor_6 C E FU x0 x2
/-! X10_part -/
set_option maxRecDepth 100000 in
set_option maxHeartbeats 4000000 in
theorem mX10_part {b : Bx} {w : HW} {x0 : Int64} {x2 : Int64} {x4 : Int32} {a : Int64} (h : fX10_part w x0 x2 x4 = some a) : Mt b yX10_part cX10_part 5 (some .long) 1 29 [.long x0, .long x2, .int x4] w (some (.long a)) w := by
  refine Mt.of (ρL w) h (by decide) (Nat.le_of_ble_eq_true rfl) (fun G hG C E => ?_)
  subst hG
  have C : Cx G cX10_part RX10 5 1 29 := C
  change Sm G a 0 [(0, .long x0), (2, .long x2), (4, .int x4)] [] w _
  unfold fX10_part
  refine sm_iload C 2 rfl dX10_part_0 ?_
  refine sm_if_ne C dX10_part_2 (tgt := 9) rfl (fun h_1 => ?_) (fun h_1 => ?_)
  · refine sm_lload_n C 0 rfl dX10_part_5 rfl ?_
    refine sm_goto C dX10_part_6 (tgt := 10) rfl ?_
    refine sm_lload_n C 0 rfl dX10_part_10 rfl ?_
    refine sm_lload_n C 1 rfl dX10_part_11 rfl ?_
    refine sm_cSL (As := [.long x0, .long x2]) C cfX10_divisor wd413 rfl rfl rfl rfl dX10_part_12 (fun r h => mX10_divisor  h) (fun r_2 => ?_)
    refine sm_nz (fun h_4 => ?_)
    refine sm_ldiv C h_4 dX10_part_15 ?_
    exact sm_lret C E rfl dX10_part_16
  · refine sm_lload_n C 1 rfl dX10_part_9 rfl ?_
    refine sm_lload_n C 0 rfl dX10_part_10 rfl ?_
    refine sm_lload_n C 1 rfl dX10_part_11 rfl ?_
    refine sm_cSL (As := [.long x0, .long x2]) C cfX10_divisor wd413 rfl rfl rfl rfl dX10_part_12 (fun r h => mX10_divisor  h) (fun r_5 => ?_)
    refine sm_nz (fun h_7 => ?_)
    refine sm_ldiv C h_7 dX10_part_15 ?_
    exact sm_lret C E rfl dX10_part_16
/-! X10_doubt -/
set_option maxRecDepth 100000 in
set_option maxHeartbeats 4000000 in
theorem sX10_doubt_112 {G : Gx} {a : Int64 × HW} (C : Cx G cX10_doubt RX10 10 3 68) (E : Rx G ρLW a (some .long)) (w : HW) (x2 : Int32) (x4 : Int32) (x5 : Int32) (x6 : Int32) (x7 : Int64) : Sm G a 112 [(2, .int x2), (4, .int x4), (5, .int x5), (6, .int x6), (7, .long x7)] [] w (fX10_doubt_112 w x2 x4 x5 x6 x7) := by
  unfold fX10_doubt_112
  refine sm_lload C 4 rfl dX10_doubt_112 ?_
  refine sm_iload C 1 rfl dX10_doubt_114 ?_
  refine sm_iload C 2 rfl dX10_doubt_116 ?_
  refine sm_iadd C dX10_doubt_118 ?_
  refine sm_iload C 3 rfl dX10_doubt_119 ?_
  refine sm_cSL (As := [.int (x4 + x5), .int x6]) C cfX10_choose wd414 rfl rfl rfl rfl dX10_doubt_121 (fun r h => mX10_choose  h) (fun r_23 => ?_)
  refine sm_iload_n C 0 rfl dX10_doubt_124 rfl ?_
  refine sm_cSL (As := [.long x7, .long r_23, .int x2]) C cfX10_part wd415 rfl rfl rfl rfl dX10_doubt_125 (fun r h => mX10_part  h) (fun r_25 => ?_)
  exact sm_lret C E rfl dX10_doubt_128
set_option maxRecDepth 100000 in
set_option maxHeartbeats 4000000 in
theorem sX10_doubt_76 {G : Gx} {a : Int64 × HW} (C : Cx G cX10_doubt RX10 10 3 68) (E : Rx G ρLW a (some .long)) {x2 : Int32} {x4 : Int32} {x5 : Int32} {x6 : Int32} : ∀ (n : Nat) (w : HW) (x7 : Int64) (x9 : Int32), Sm G a 76 [(2, .int x2), (4, .int x4), (5, .int x5), (6, .int x6), (7, .long x7), (9, .int x9)] [] w (fX10_doubt_76 x2 x4 x5 x6 n w x7 x9) := by
  intro n
  induction n with
  | zero => intro _ _ _; exact sm_none
  | succ n ih =>
    intro w x7 x9
    rw [fX10_doubt_76]
    refine sm_iload C 5 rfl dX10_doubt_76 ?_
    refine sm_iload C 1 rfl dX10_doubt_78 ?_
    refine sm_icmp_gt C dX10_doubt_80 (tgt := 112) rfl (fun h_17 => ?_) (fun h_17 => ?_)
    · refine sm_lload C 4 rfl dX10_doubt_83 ?_
      refine sm_iload C 1 rfl dX10_doubt_85 ?_
      refine sm_iload C 5 rfl dX10_doubt_87 ?_
      refine sm_cSL (As := [.int x4, .int x9]) C cfX10_choose wd414 rfl rfl rfl rfl dX10_doubt_89 (fun r h => mX10_choose  h) (fun r_18 => ?_)
      refine sm_iload C 2 rfl dX10_doubt_92 ?_
      refine sm_iload C 3 rfl dX10_doubt_94 ?_
      refine sm_iload C 5 rfl dX10_doubt_96 ?_
      refine sm_isub C dX10_doubt_98 ?_
      refine sm_cSL (As := [.int x5, .int (x6 - x9)]) C cfX10_choose wd414 rfl rfl rfl rfl dX10_doubt_99 (fun r h => mX10_choose  h) (fun r_20 => ?_)
      refine sm_lmul C dX10_doubt_102 ?_
      refine sm_ladd C dX10_doubt_103 ?_
      refine sm_letL (fun x7_22 => ?_)
      refine sm_lstore (lv1 := [(7, .long x7_22), (2, .int x2), (4, .int x4), (5, .int x5), (6, .int x6), (9, .int x9)]) C dX10_doubt_104 rfl rfl ?_
      refine sm_iinc (lv1 := [(9, .int (x9 + 1)), (7, .long x7_22), (2, .int x2), (4, .int x4), (5, .int x5), (6, .int x6)]) C 5 rfl (iv_1 _) dX10_doubt_106 rfl rfl ?_
      refine sm_goto C dX10_doubt_109 (tgt := 76) rfl ?_
      refine sm_sub [2, 3, 4, 5, 1, 0] rfl ?_
      exact ih w x7_22 (x9 + 1)
    · refine sm_sub [0, 1, 2, 3, 4] rfl ?_
      exact sX10_doubt_112 C E w x2 x4 x5 x6 x7
set_option maxRecDepth 100000 in
set_option maxHeartbeats 4000000 in
theorem mX10_doubt {b : Bx} {w : HW} {x1 : Int32} {x2 : Int32} {a : Int64 × HW} (h : fX10_doubt w x1 x2 = some a) : Mt b yX10_doubt cX10_doubt 10 (some .long) 3 68 [.ref (bB b + 79), .int x1, .int x2] w (some (.long a.1)) a.2 := by
  refine Mt.of ρLW h (by decide) (Nat.le_of_ble_eq_true rfl) (fun G hG C E => ?_)
  subst hG
  have C : Cx G cX10_doubt RX10 10 3 68 := C
  change Sm G a 0 [(0, .ref (hB G + 79)), (1, .int x1), (2, .int x2)] [] w _
  unfold fX10_doubt
  refine sm_aload_n C 0 rfl dX10_doubt_0 rfl ?_
  refine sm_iload_n C 1 rfl dX10_doubt_1 rfl ?_
  refine sm_iload_n C 2 rfl dX10_doubt_2 rfl ?_
  refine sm_i2l C dX10_doubt_3 ?_
  refine sm_lconst C lc_0 dX10_doubt_4 ?_
  refine sm_lconst C lc_1 dX10_doubt_5 ?_
  refine sm_cSI (As := [.long (x2.toInt64), .long 0, .long 1]) C cfX10_in wd295 rfl rfl rfl rfl dX10_doubt_6 (fun r h => mX10_in  h) (fun r_1 => ?_)
  refine sm_cVIW (As := [.int x1, .int r_1]) C cfX10_layList wd412 kd_79 rfl rfl rfl rfl rfl dX10_doubt_9 (fun r h => mX10_layList  h) (fun r_3 w_4 => ?_)
  refine sm_istore_n (lv1 := [(3, .int r_3), (0, .ref (hB G + 79)), (1, .int x1), (2, .int x2)]) C dX10_doubt_12 rfl rfl rfl ?_
  refine sm_iload_n C 0 rfl dX10_doubt_13 rfl ?_
  refine sm_if_ge C dX10_doubt_14 (tgt := 20) rfl (fun h_5 => ?_) (fun h_5 => ?_)
  · refine sm_iload_n C 0 rfl dX10_doubt_17 rfl ?_
    refine sm_i2l C dX10_doubt_18 ?_
    exact sm_lret C E rfl dX10_doubt_19
  · refine sm_aload_n C 1 rfl dX10_doubt_20 rfl ?_
    refine sm_getR C fo_10_37 rfl wd411 kd_79 dX10_doubt_21 (rv_79_37 w_4) (by decide) ?_
    refine sm_iconst C ic_2 dX10_doubt_24 ?_
    refine sm_iald C kd_97 dX10_doubt_25 (fun h_6 => ?_)
    refine sm_aload_n C 1 rfl dX10_doubt_26 rfl ?_
    refine sm_getR C fo_10_37 rfl wd411 kd_79 dX10_doubt_27 (rv_79_37 w_4) (by decide) ?_
    refine sm_iconst C ic_3 dX10_doubt_30 ?_
    refine sm_iald C kd_97 dX10_doubt_31 (fun h_7 => ?_)
    refine sm_iadd C dX10_doubt_32 ?_
    refine sm_let (fun x4_8 => ?_)
    refine sm_istore (lv1 := [(4, .int x4_8), (3, .int r_3), (0, .ref (hB G + 79)), (1, .int x1), (2, .int x2)]) C dX10_doubt_33 rfl rfl ?_
    refine sm_aload_n C 2 rfl dX10_doubt_35 rfl ?_
    refine sm_getR C fo_10_37 rfl wd411 kd_79 dX10_doubt_36 (rv_79_37 w_4) (by decide) ?_
    refine sm_iconst C ic_0 dX10_doubt_39 ?_
    refine sm_iald C kd_97 dX10_doubt_40 (fun h_9 => ?_)
    refine sm_aload_n C 2 rfl dX10_doubt_41 rfl ?_
    refine sm_getR C fo_10_37 rfl wd411 kd_79 dX10_doubt_42 (rv_79_37 w_4) (by decide) ?_
    refine sm_iconst C ic_1 dX10_doubt_45 ?_
    refine sm_iald C kd_97 dX10_doubt_46 (fun h_10 => ?_)
    refine sm_iadd C dX10_doubt_47 ?_
    refine sm_let (fun x5_11 => ?_)
    refine sm_istore (lv1 := [(5, .int x5_11), (4, .int x4_8), (3, .int r_3), (0, .ref (hB G + 79)), (1, .int x1), (2, .int x2)]) C dX10_doubt_48 rfl rfl ?_
    refine sm_aload_n C 3 rfl dX10_doubt_50 rfl ?_
    refine sm_getR C fo_10_37 rfl wd411 kd_79 dX10_doubt_51 (rv_79_37 w_4) (by decide) ?_
    refine sm_iconst C ic_1 dX10_doubt_54 ?_
    refine sm_iald C kd_97 dX10_doubt_55 (fun h_12 => ?_)
    refine sm_aload_n C 3 rfl dX10_doubt_56 rfl ?_
    refine sm_getR C fo_10_37 rfl wd411 kd_79 dX10_doubt_57 (rv_79_37 w_4) (by decide) ?_
    refine sm_iconst C ic_3 dX10_doubt_60 ?_
    refine sm_iald C kd_97 dX10_doubt_61 (fun h_13 => ?_)
    refine sm_iadd C dX10_doubt_62 ?_
    refine sm_let (fun x6_14 => ?_)
    refine sm_istore (lv1 := [(6, .int x6_14), (5, .int x5_11), (4, .int x4_8), (3, .int r_3), (0, .ref (hB G + 79)), (1, .int x1), (2, .int x2)]) C dX10_doubt_63 rfl rfl ?_
    refine sm_lconst C lc_0 dX10_doubt_65 ?_
    refine sm_lstore (lv1 := [(7, .long 0), (6, .int x6_14), (5, .int x5_11), (4, .int x4_8), (3, .int r_3), (0, .ref (hB G + 79)), (1, .int x1), (2, .int x2)]) C dX10_doubt_66 rfl rfl ?_
    refine sm_aload_n C 5 rfl dX10_doubt_68 rfl ?_
    refine sm_getR C fo_10_37 rfl wd411 kd_79 dX10_doubt_69 (rv_79_37 w_4) (by decide) ?_
    refine sm_iconst C ic_3 dX10_doubt_72 ?_
    refine sm_iald C kd_97 dX10_doubt_73 (fun h_15 => ?_)
    refine sm_let (fun x9_16 => ?_)
    refine sm_istore (lv1 := [(9, .int x9_16), (7, .long 0), (6, .int x6_14), (5, .int x5_11), (4, .int x4_8), (3, .int r_3), (0, .ref (hB G + 79)), (1, .int x1), (2, .int x2)]) C dX10_doubt_74 rfl rfl ?_
    refine sm_sub [8, 4, 3, 2, 1, 0] rfl ?_
    exact sX10_doubt_76 C E FU w_4 0 x9_16
/-! X10_share -/
set_option maxRecDepth 100000 in
set_option maxHeartbeats 4000000 in
theorem sX10_share_27 {G : Gx} {a : Int32 × HW} (C : Cx G cX10_share RX10 6 3 68) (E : Rx G ρIW a (some .int)) (w : HW) (x2 : Int32) (x3 : Int32) (s0 : Int32) (s1 : Int32) : Sm G a 27 [(0, .ref (hB G + 79)), (2, .int x2), (3, .int x3)] [.int s0, .int s1, .ref (hB G + 79)] w (fX10_share_27 w x2 x3 s0 s1) := by
  unfold fX10_share_27
  refine sm_cVIW (As := [.int s1, .int s0]) C cfX10_layList wd412 kd_79 rfl rfl rfl rfl rfl dX10_share_27 (fun r h => mX10_layList  h) (fun r_7 w_8 => ?_)
  refine sm_istore (lv1 := [(4, .int r_7), (0, .ref (hB G + 79)), (2, .int x2), (3, .int x3)]) C dX10_share_30 rfl rfl ?_
  refine sm_iload C 0 rfl dX10_share_32 ?_
  refine sm_if_ge C dX10_share_34 (tgt := 40) rfl (fun h_9 => ?_) (fun h_9 => ?_)
  · refine sm_iload C 0 rfl dX10_share_37 ?_
    exact sm_iret C E rfl dX10_share_39
  · refine sm_aload_n C 1 rfl dX10_share_40 rfl ?_
    refine sm_getR C fo_10_37 rfl wd411 kd_79 dX10_share_41 (rv_79_37 w_8) (by decide) ?_
    refine sm_iconst C ic_2 dX10_share_44 ?_
    refine sm_iload_n C 2 rfl dX10_share_45 rfl ?_
    refine sm_imul C dX10_share_46 ?_
    refine sm_iald C kd_97 dX10_share_47 (fun h_10 => ?_)
    refine sm_aload_n C 1 rfl dX10_share_48 rfl ?_
    refine sm_getR C fo_10_37 rfl wd411 kd_79 dX10_share_49 (rv_79_37 w_8) (by decide) ?_
    refine sm_iconst C ic_2 dX10_share_52 ?_
    refine sm_iload_n C 2 rfl dX10_share_53 rfl ?_
    refine sm_imul C dX10_share_54 ?_
    refine sm_iconst C ic_1 dX10_share_55 ?_
    refine sm_iadd C dX10_share_56 ?_
    refine sm_iald C kd_97 dX10_share_57 (fun h_11 => ?_)
    refine sm_iadd C dX10_share_58 ?_
    refine sm_let (fun x5_12 => ?_)
    refine sm_istore (lv1 := [(5, .int x5_12), (4, .int r_7), (0, .ref (hB G + 79)), (2, .int x2), (3, .int x3)]) C dX10_share_59 rfl rfl ?_
    refine sm_iload C 0 rfl dX10_share_61 ?_
    refine sm_if_ne C dX10_share_63 (tgt := 70) rfl (fun h_13 => ?_) (fun h_13 => ?_)
    · refine sm_iconst C ic_m1 dX10_share_66 ?_
      refine sm_goto C dX10_share_67 (tgt := 89) rfl ?_
      exact sm_iret C E rfl dX10_share_89
    · refine sm_aload_n C 2 rfl dX10_share_70 rfl ?_
      refine sm_getR C fo_10_37 rfl wd411 kd_79 dX10_share_71 (rv_79_37 w_8) (by decide) ?_
      refine sm_iconst C ic_2 dX10_share_74 ?_
      refine sm_iload_n C 3 rfl dX10_share_75 rfl ?_
      refine sm_imul C dX10_share_76 ?_
      refine sm_iconst C ic_1 dX10_share_77 ?_
      refine sm_iadd C dX10_share_78 ?_
      refine sm_iald C kd_97 dX10_share_79 (fun h_14 => ?_)
      refine sm_i2l C dX10_share_80 ?_
      refine sm_iload C 0 rfl dX10_share_81 ?_
      refine sm_i2l C dX10_share_83 ?_
      refine sm_iload_n C 4 rfl dX10_share_84 rfl ?_
      refine sm_cSL (As := [.long ((gI w_8 97 (ix ((2 * x2) + 1))).toInt64), .long (x5_12.toInt64), .int x3]) C cfX10_part wd415 rfl rfl rfl rfl dX10_share_85 (fun r h => mX10_part  h) (fun r_15 => ?_)
      refine sm_l2i C dX10_share_88 ?_
      exact sm_iret C E rfl dX10_share_89
set_option maxRecDepth 100000 in
set_option maxHeartbeats 4000000 in
theorem mX10_share {b : Bx} {w : HW} {x1 : Int32} {x2 : Int32} {x3 : Int32} {a : Int32 × HW} (h : fX10_share w x1 x2 x3 = some a) : Mt b yX10_share cX10_share 6 (some .int) 3 68 [.ref (bB b + 79), .int x1, .int x2, .int x3] w (some (.int a.1)) a.2 := by
  refine Mt.of ρIW h (by decide) (Nat.le_of_ble_eq_true rfl) (fun G hG C E => ?_)
  subst hG
  have C : Cx G cX10_share RX10 6 3 68 := C
  change Sm G a 0 [(0, .ref (hB G + 79)), (1, .int x1), (2, .int x2), (3, .int x3)] [] w _
  unfold fX10_share
  refine sm_aload_n C 0 rfl dX10_share_0 rfl ?_
  refine sm_iload_n C 1 rfl dX10_share_1 rfl ?_
  refine sm_iload_n C 2 rfl dX10_share_2 rfl ?_
  refine sm_i2l C dX10_share_3 ?_
  refine sm_lconst C lc_0 dX10_share_4 ?_
  refine sm_lconst C lc_1 dX10_share_5 ?_
  refine sm_cSI (As := [.long (x2.toInt64), .long 0, .long 1]) C cfX10_in wd295 rfl rfl rfl rfl dX10_share_6 (fun r h => mX10_in  h) (fun r_1 => ?_)
  refine sm_if_eq C dX10_share_9 (tgt := 26) rfl (fun h_3 => ?_) (fun h_3 => ?_)
  · refine sm_iload_n C 3 rfl dX10_share_12 rfl ?_
    refine sm_i2l C dX10_share_13 ?_
    refine sm_lconst C lc_0 dX10_share_14 ?_
    refine sm_lconst C lc_1 dX10_share_15 ?_
    refine sm_cSI (As := [.long (x3.toInt64), .long 0, .long 1]) C cfX10_in wd295 rfl rfl rfl rfl dX10_share_16 (fun r h => mX10_in  h) (fun r_4 => ?_)
    refine sm_if_eq C dX10_share_19 (tgt := 26) rfl (fun h_6 => ?_) (fun h_6 => ?_)
    · refine sm_iconst C ic_1 dX10_share_22 ?_
      refine sm_goto C dX10_share_23 (tgt := 27) rfl ?_
      refine sm_sub [0, 2, 3] rfl ?_
      exact sX10_share_27 C E w x2 x3 1 x1
    · refine sm_iconst C ic_0 dX10_share_26 ?_
      refine sm_sub [0, 2, 3] rfl ?_
      exact sX10_share_27 C E w x2 x3 0 x1
  · refine sm_iconst C ic_0 dX10_share_26 ?_
    refine sm_sub [0, 2, 3] rfl ?_
    exact sX10_share_27 C E w x2 x3 0 x1
/-! X10_leans -/
set_option maxRecDepth 100000 in
set_option maxHeartbeats 4000000 in
theorem mX10_leans {b : Bx} {w : HW} {x1 : Int32} {a : Int32 × HW} (h : fX10_leans w x1 = some a) : Mt b yX10_leans cX10_leans 5 (some .int) 3 68 [.ref (bB b + 79), .int x1] w (some (.int a.1)) a.2 := by
  refine Mt.of ρIW h (by decide) (Nat.le_of_ble_eq_true rfl) (fun G hG C E => ?_)
  subst hG
  have C : Cx G cX10_leans RX10 5 3 68 := C
  change Sm G a 0 [(0, .ref (hB G + 79)), (1, .int x1)] [] w _
  unfold fX10_leans
  refine sm_aload_n C 0 rfl dX10_leans_0 rfl ?_
  refine sm_iload_n C 1 rfl dX10_leans_1 rfl ?_
  refine sm_iconst C ic_1 dX10_leans_2 ?_
  refine sm_cVIW (As := [.int x1, .int 1]) C cfX10_layList wd412 kd_79 rfl rfl rfl rfl rfl dX10_leans_3 (fun r h => mX10_layList  h) (fun r_1 w_2 => ?_)
  refine sm_istore_n (lv1 := [(2, .int r_1), (0, .ref (hB G + 79)), (1, .int x1)]) C dX10_leans_6 rfl rfl rfl ?_
  refine sm_iload_n C 0 rfl dX10_leans_7 rfl ?_
  refine sm_if_ge C dX10_leans_8 (tgt := 13) rfl (fun h_3 => ?_) (fun h_3 => ?_)
  · refine sm_iload_n C 0 rfl dX10_leans_11 rfl ?_
    exact sm_iret C E rfl dX10_leans_12
  · refine sm_aload_n C 1 rfl dX10_leans_13 rfl ?_
    refine sm_getR C fo_10_37 rfl wd411 kd_79 dX10_leans_14 (rv_79_37 w_2) (by decide) ?_
    refine sm_iconst C ic_2 dX10_leans_17 ?_
    refine sm_iald C kd_97 dX10_leans_18 (fun h_4 => ?_)
    refine sm_aload_n C 1 rfl dX10_leans_19 rfl ?_
    refine sm_getR C fo_10_37 rfl wd411 kd_79 dX10_leans_20 (rv_79_37 w_2) (by decide) ?_
    refine sm_iconst C ic_3 dX10_leans_23 ?_
    refine sm_iald C kd_97 dX10_leans_24 (fun h_5 => ?_)
    refine sm_iadd C dX10_leans_25 ?_
    refine sm_let (fun x3_6 => ?_)
    refine sm_istore_n (lv1 := [(3, .int x3_6), (2, .int r_1), (0, .ref (hB G + 79)), (1, .int x1)]) C dX10_leans_26 rfl rfl rfl ?_
    refine sm_aload_n C 2 rfl dX10_leans_27 rfl ?_
    refine sm_getR C fo_10_37 rfl wd411 kd_79 dX10_leans_28 (rv_79_37 w_2) (by decide) ?_
    refine sm_iconst C ic_0 dX10_leans_31 ?_
    refine sm_iald C kd_97 dX10_leans_32 (fun h_7 => ?_)
    refine sm_aload_n C 2 rfl dX10_leans_33 rfl ?_
    refine sm_getR C fo_10_37 rfl wd411 kd_79 dX10_leans_34 (rv_79_37 w_2) (by decide) ?_
    refine sm_iconst C ic_1 dX10_leans_37 ?_
    refine sm_iald C kd_97 dX10_leans_38 (fun h_8 => ?_)
    refine sm_iadd C dX10_leans_39 ?_
    refine sm_let (fun x4_9 => ?_)
    refine sm_istore (lv1 := [(4, .int x4_9), (3, .int x3_6), (2, .int r_1), (0, .ref (hB G + 79)), (1, .int x1)]) C dX10_leans_40 rfl rfl ?_
    refine sm_iload_n C 1 rfl dX10_leans_42 rfl ?_
    refine sm_if_eq C dX10_leans_43 (tgt := 51) rfl (fun h_10 => ?_) (fun h_10 => ?_)
    · refine sm_iload C 0 rfl dX10_leans_46 ?_
      refine sm_if_ne C dX10_leans_48 (tgt := 53) rfl (fun h_11 => ?_) (fun h_11 => ?_)
      · refine sm_iconst C ic_0 dX10_leans_51 ?_
        exact sm_iret C E rfl dX10_leans_52
      · refine sm_aload_n C 3 rfl dX10_leans_53 rfl ?_
        refine sm_getR C fo_10_37 rfl wd411 kd_79 dX10_leans_54 (rv_79_37 w_2) (by decide) ?_
        refine sm_iconst C ic_3 dX10_leans_57 ?_
        refine sm_iald C kd_97 dX10_leans_58 (fun h_12 => ?_)
        refine sm_iload C 0 rfl dX10_leans_59 ?_
        refine sm_imul C dX10_leans_61 ?_
        refine sm_aload_n C 3 rfl dX10_leans_62 rfl ?_
        refine sm_getR C fo_10_37 rfl wd411 kd_79 dX10_leans_63 (rv_79_37 w_2) (by decide) ?_
        refine sm_iconst C ic_1 dX10_leans_66 ?_
        refine sm_iald C kd_97 dX10_leans_67 (fun h_13 => ?_)
        refine sm_iload_n C 1 rfl dX10_leans_68 rfl ?_
        refine sm_imul C dX10_leans_69 ?_
        refine sm_cSI (As := [.int ((gI w_2 97 (ix 3)) * x4_9), .int ((gI w_2 97 (ix 1)) * x3_6)]) C cfJ6_compare_7cf53 wd416 rfl rfl rfl rfl dX10_leans_70 (fun r h => mJ6_compare_7cf53  h) (fun r_14 => ?_)
        exact sm_iret C E rfl dX10_leans_73
    · refine sm_iconst C ic_0 dX10_leans_51 ?_
      exact sm_iret C E rfl dX10_leans_52
/-! X10_general -/
set_option maxRecDepth 100000 in
set_option maxHeartbeats 4000000 in
theorem mX10_general {b : Bx} {w : HW} {x0 : Int32} {x1 : Int32} {x2 : Int32} {x3 : Int32} {a : Int32} (h : fX10_general w x0 x1 x2 x3 = some a) : Mt b yX10_general cX10_general 4 (some .int) 0 0 [.int x0, .int x1, .int x2, .int x3] w (some (.int a)) w := by
  refine Mt.of (ρI w) h (by decide) (Nat.le_of_ble_eq_true rfl) (fun G hG C E => ?_)
  subst hG
  have C : Cx G cX10_general RX10 4 0 0 := C
  change Sm G a 0 [(0, .int x0), (1, .int x1), (2, .int x2), (3, .int x3)] [] w _
  unfold fX10_general
  refine sm_iload_n C 0 rfl dX10_general_0 rfl ?_
  refine sm_if_ne C dX10_general_1 (tgt := 8) rfl (fun h_1 => ?_) (fun h_1 => ?_)
  · refine sm_iload_n C 2 rfl dX10_general_4 rfl ?_
    refine sm_iload_n C 3 rfl dX10_general_5 rfl ?_
    refine sm_isub C dX10_general_6 ?_
    exact sm_iret C E rfl dX10_general_7
  · refine sm_iload_n C 1 rfl dX10_general_8 rfl ?_
    refine sm_if_eq C dX10_general_9 (tgt := 16) rfl (fun h_2 => ?_) (fun h_2 => ?_)
    · refine sm_iconst C ic_0 dX10_general_12 ?_
      refine sm_goto C dX10_general_13 (tgt := 17) rfl ?_
      exact sm_iret C E rfl dX10_general_17
    · refine sm_iload_n C 2 rfl dX10_general_16 rfl ?_
      exact sm_iret C E rfl dX10_general_17
/-! X10_augur_ -/
set_option maxRecDepth 100000 in
set_option maxHeartbeats 4000000 in
theorem sX10_augur__17 {G : Gx} {a : Int32} {w : HW} (C : Cx G cX10_augur_ RX10 5 0 0) (E : Rx G (ρI w) a (some .int)) (x1 : Int32) (s0 : Int32) : Sm G a 17 [(1, .int x1)] [.int s0] w (fX10_augur__17 w x1 s0) := by
  unfold fX10_augur__17
  refine sm_istore (lv1 := [(4, .int s0), (1, .int x1)]) C dX10_augur__17 rfl rfl ?_
  refine sm_iload_n C 1 rfl dX10_augur__19 rfl ?_
  refine sm_if_eq C dX10_augur__20 (tgt := 30) rfl (fun h_3 => ?_) (fun h_3 => ?_)
  · refine sm_iload C 0 rfl dX10_augur__23 ?_
    refine sm_iconst C ic_1 dX10_augur__25 ?_
    refine sm_isub C dX10_augur__26 ?_
    refine sm_goto C dX10_augur__27 (tgt := 32) rfl ?_
    exact sm_iret C E rfl dX10_augur__32
  · refine sm_iload C 0 rfl dX10_augur__30 ?_
    exact sm_iret C E rfl dX10_augur__32
set_option maxRecDepth 100000 in
set_option maxHeartbeats 4000000 in
theorem mX10_augur_ {b : Bx} {w : HW} {x0 : Int32} {x1 : Int32} {x2 : Int32} {x3 : Int32} {a : Int32} (h : fX10_augur_ w x0 x1 x2 x3 = some a) : Mt b yX10_augur_ cX10_augur_ 5 (some .int) 0 0 [.int x0, .int x1, .int x2, .int x3] w (some (.int a)) w := by
  refine Mt.of (ρI w) h (by decide) (Nat.le_of_ble_eq_true rfl) (fun G hG C E => ?_)
  subst hG
  have C : Cx G cX10_augur_ RX10 5 0 0 := C
  change Sm G a 0 [(0, .int x0), (1, .int x1), (2, .int x2), (3, .int x3)] [] w _
  unfold fX10_augur_
  refine sm_iload_n C 0 rfl dX10_augur__0 rfl ?_
  refine sm_if_eq C dX10_augur__1 (tgt := 16) rfl (fun h_1 => ?_) (fun h_1 => ?_)
  · refine sm_iload_n C 1 rfl dX10_augur__4 rfl ?_
    refine sm_if_eq C dX10_augur__5 (tgt := 12) rfl (fun h_2 => ?_) (fun h_2 => ?_)
    · refine sm_iload_n C 2 rfl dX10_augur__8 rfl ?_
      refine sm_goto C dX10_augur__9 (tgt := 17) rfl ?_
      refine sm_sub [1] rfl ?_
      exact sX10_augur__17 C E x1 x2
    · refine sm_iconst C ic_0 dX10_augur__12 ?_
      refine sm_goto C dX10_augur__13 (tgt := 17) rfl ?_
      refine sm_sub [1] rfl ?_
      exact sX10_augur__17 C E x1 0
  · refine sm_iload_n C 3 rfl dX10_augur__16 rfl ?_
    refine sm_sub [1] rfl ?_
    exact sX10_augur__17 C E x1 x3
/-! X10_isRest -/
set_option maxRecDepth 100000 in
set_option maxHeartbeats 4000000 in
theorem sX10_isRest_42 {G : Gx} {a : Int32} {w : HW} (C : Cx G cX10_isRest RX10 4 1 24) (E : Rx G (ρI w) a (some .boolean)) (x2 : Int32) (x3 : Int32) (s0 : Int32) (s1 : Int32) (s2 : Int32) : Sm G a 42 [(2, .int x2), (3, .int x3)] [.int s0, .int s1, .int s2] w (fX10_isRest_42 w x2 x3 s0 s1 s2) := by
  unfold fX10_isRest_42
  refine sm_iload_n C 0 rfl dX10_isRest_42 rfl ?_
  refine sm_iload_n C 1 rfl dX10_isRest_43 rfl ?_
  refine sm_cSI (As := [.int s1, .int s0, .int x2, .int x3]) C cfX10_augur_ wd418 rfl rfl rfl rfl dX10_isRest_44 (fun r h => mX10_augur_  h) (fun r_10 => ?_)
  refine sm_icmp_lt C dX10_isRest_47 (tgt := 54) rfl (fun h_12 => ?_) (fun h_12 => ?_)
  · refine sm_iconst C ic_1 dX10_isRest_50 ?_
    refine sm_goto C dX10_isRest_51 (tgt := 55) rfl ?_
    exact sm_zret C E rfl rfl dX10_isRest_55
  · refine sm_iconst C ic_0 dX10_isRest_54 ?_
    exact sm_zret C E rfl rfl dX10_isRest_55
set_option maxRecDepth 100000 in
set_option maxHeartbeats 4000000 in
theorem sX10_isRest_16 {G : Gx} {a : Int32} {w : HW} (C : Cx G cX10_isRest RX10 4 1 24) (E : Rx G (ρI w) a (some .boolean)) (x0 : Int32) (x1 : Int32) (x2 : Int32) (x3 : Int32) (s0 : Int32) (s1 : Int32) : Sm G a 16 [(0, .int x0), (1, .int x1), (2, .int x2), (3, .int x3)] [.int s0, .int s1] w (fX10_isRest_16 w x0 x1 x2 x3 s0 s1) := by
  unfold fX10_isRest_16
  refine sm_iload_n C 1 rfl dX10_isRest_16 rfl ?_
  refine sm_iload_n C 2 rfl dX10_isRest_17 rfl ?_
  refine sm_iload_n C 3 rfl dX10_isRest_18 rfl ?_
  refine sm_cSI (As := [.int s0, .int x1, .int x2, .int x3]) C cfX10_general wd417 rfl rfl rfl rfl dX10_isRest_19 (fun r h => mX10_general  h) (fun r_4 => ?_)
  refine sm_icmp_lt C dX10_isRest_22 (tgt := 54) rfl (fun h_6 => ?_) (fun h_6 => ?_)
  · refine sm_iload_n C 0 rfl dX10_isRest_25 rfl ?_
    refine sm_iload_n C 1 rfl dX10_isRest_26 rfl ?_
    refine sm_iload_n C 2 rfl dX10_isRest_27 rfl ?_
    refine sm_iload_n C 3 rfl dX10_isRest_28 rfl ?_
    refine sm_cSI (As := [.int x0, .int x1, .int x2, .int x3]) C cfX10_augur_ wd418 rfl rfl rfl rfl dX10_isRest_29 (fun r h => mX10_augur_  h) (fun r_7 => ?_)
    refine sm_iload_n C 0 rfl dX10_isRest_32 rfl ?_
    refine sm_iload_n C 1 rfl dX10_isRest_33 rfl ?_
    refine sm_if_ne C dX10_isRest_34 (tgt := 41) rfl (fun h_9 => ?_) (fun h_9 => ?_)
    · refine sm_iconst C ic_1 dX10_isRest_37 ?_
      refine sm_goto C dX10_isRest_38 (tgt := 42) rfl ?_
      refine sm_sub [2, 3] rfl ?_
      exact sX10_isRest_42 C E x2 x3 1 x0 r_7
    · refine sm_iconst C ic_0 dX10_isRest_41 ?_
      refine sm_sub [2, 3] rfl ?_
      exact sX10_isRest_42 C E x2 x3 0 x0 r_7
  · refine sm_iconst C ic_0 dX10_isRest_54 ?_
    exact sm_zret C E rfl rfl dX10_isRest_55
set_option maxRecDepth 100000 in
set_option maxHeartbeats 4000000 in
theorem mX10_isRest {b : Bx} {w : HW} {x0 : Int32} {x1 : Int32} {x2 : Int32} {x3 : Int32} {a : Int32} (h : fX10_isRest w x0 x1 x2 x3 = some a) : Mt b yX10_isRest cX10_isRest 4 (some .boolean) 1 24 [.int x0, .int x1, .int x2, .int x3] w (some (.int a)) w := by
  refine Mt.of (ρI w) h (by decide) (Nat.le_of_ble_eq_true rfl) (fun G hG C E => ?_)
  subst hG
  have C : Cx G cX10_isRest RX10 4 1 24 := C
  change Sm G a 0 [(0, .int x0), (1, .int x1), (2, .int x2), (3, .int x3)] [] w _
  unfold fX10_isRest
  refine sm_iload_n C 0 rfl dX10_isRest_0 rfl ?_
  refine sm_iload_n C 1 rfl dX10_isRest_1 rfl ?_
  refine sm_iload_n C 2 rfl dX10_isRest_2 rfl ?_
  refine sm_iload_n C 3 rfl dX10_isRest_3 rfl ?_
  refine sm_cSI (As := [.int x0, .int x1, .int x2, .int x3]) C cfX10_general wd417 rfl rfl rfl rfl dX10_isRest_4 (fun r h => mX10_general  h) (fun r_1 => ?_)
  refine sm_iload_n C 0 rfl dX10_isRest_7 rfl ?_
  refine sm_if_ne C dX10_isRest_8 (tgt := 15) rfl (fun h_3 => ?_) (fun h_3 => ?_)
  · refine sm_iconst C ic_1 dX10_isRest_11 ?_
    refine sm_goto C dX10_isRest_12 (tgt := 16) rfl ?_
    exact sX10_isRest_16 C E x0 x1 x2 x3 1 r_1
  · refine sm_iconst C ic_0 dX10_isRest_15 ?_
    exact sX10_isRest_16 C E x0 x1 x2 x3 0 r_1
/-! X10_rests -/
set_option maxRecDepth 100000 in
set_option maxHeartbeats 4000000 in
theorem sX10_rests_62 {G : Gx} {a : Int32} {w : HW} (C : Cx G cX10_rests RX10 5 2 47) (E : Rx G (ρI w) a (some .int)) {K18 : Int32 → Int32 → Option Int32} (x1 : Int32) (x2 : Int32) (x4 : Int32) (s0 : Int32) (s1 : Int32) (s2 : Int32) (hK18 : ∀ (x3' : Int32) (x4' : Int32), Sm G a 32 [(1, .int x1), (2, .int x2), (3, .int (x3')), (4, .int (x4'))] [] w (K18 x3' x4')) : Sm G a 62 [(1, .int x1), (2, .int x2), (4, .int x4)] [.int s0, .int s1, .int s2] w (fX10_rests_62 w K18 x1 x2 x4 s0 s1 s2) := by
  unfold fX10_rests_62
  refine sm_iload_n C 0 rfl dX10_rests_62 rfl ?_
  refine sm_iload_n C 1 rfl dX10_rests_63 rfl ?_
  refine sm_cSI (As := [.int s1, .int s0, .int x1, .int x2]) C cfX10_isRest wd420 rfl rfl rfl rfl dX10_rests_64 (fun r h => mX10_isRest  h) (fun r_11 => ?_)
  refine sm_if_eq C dX10_rests_67 (tgt := 77) rfl (fun h_13 => ?_) (fun h_13 => ?_)
  · refine sm_iconst C ic_1 dX10_rests_70 ?_
    refine sm_iload C 2 rfl dX10_rests_71 ?_
    refine sm_ishl C dX10_rests_73 ?_
    refine sm_goto C dX10_rests_74 (tgt := 78) rfl ?_
    refine sm_ior C dX10_rests_78 ?_
    refine sm_let (fun x3_14 => ?_)
    refine sm_istore_n (lv1 := [(3, .int x3_14), (1, .int x1), (2, .int x2), (4, .int x4)]) C dX10_rests_79 rfl rfl rfl ?_
    refine sm_iinc (lv1 := [(4, .int (x4 + 1)), (3, .int x3_14), (1, .int x1), (2, .int x2)]) C 3 rfl (iv_1 _) dX10_rests_80 rfl rfl ?_
    refine sm_goto C dX10_rests_83 (tgt := 32) rfl ?_
    refine sm_sub [2, 3, 1, 0] rfl ?_
    exact hK18 x3_14 (x4 + 1)
  · refine sm_iconst C ic_0 dX10_rests_77 ?_
    refine sm_ior C dX10_rests_78 ?_
    refine sm_let (fun x3_15 => ?_)
    refine sm_istore_n (lv1 := [(3, .int x3_15), (1, .int x1), (2, .int x2), (4, .int x4)]) C dX10_rests_79 rfl rfl rfl ?_
    refine sm_iinc (lv1 := [(4, .int (x4 + 1)), (3, .int x3_15), (1, .int x1), (2, .int x2)]) C 3 rfl (iv_1 _) dX10_rests_80 rfl rfl ?_
    refine sm_goto C dX10_rests_83 (tgt := 32) rfl ?_
    refine sm_sub [2, 3, 1, 0] rfl ?_
    exact hK18 x3_15 (x4 + 1)
set_option maxRecDepth 100000 in
set_option maxHeartbeats 4000000 in
theorem sX10_rests_32 {G : Gx} {a : Int32} {w : HW} (C : Cx G cX10_rests RX10 5 2 47) (E : Rx G (ρI w) a (some .int)) {x1 : Int32} {x2 : Int32} : ∀ (n : Nat) (x3 : Int32) (x4 : Int32), Sm G a 32 [(1, .int x1), (2, .int x2), (3, .int x3), (4, .int x4)] [] w (fX10_rests_32 w x1 x2 n x3 x4) := by
  intro n
  induction n with
  | zero => intro _ _; exact sm_none
  | succ n ih =>
    intro x3 x4
    rw [fX10_rests_32]
    refine sm_iload C 3 rfl dX10_rests_32 ?_
    refine sm_iconst C ic_4 dX10_rests_34 ?_
    refine sm_icmp_ge C dX10_rests_35 (tgt := 86) rfl (fun h_7 => ?_) (fun h_7 => ?_)
    · refine sm_iload_n C 2 rfl dX10_rests_38 rfl ?_
      refine sm_iload C 3 rfl dX10_rests_39 ?_
      refine sm_iconst C ic_2 dX10_rests_41 ?_
      refine sm_icmp_ge C dX10_rests_42 (tgt := 49) rfl (fun h_8 => ?_) (fun h_8 => ?_)
      · refine sm_iconst C ic_1 dX10_rests_45 ?_
        refine sm_goto C dX10_rests_46 (tgt := 50) rfl ?_
        refine sm_iload C 3 rfl dX10_rests_50 ?_
        refine sm_iconst C ic_2 dX10_rests_52 ?_
        refine sm_irem C (by decide) dX10_rests_53 ?_
        refine sm_if_ne C dX10_rests_54 (tgt := 61) rfl (fun h_9 => ?_) (fun h_9 => ?_)
        · refine sm_iconst C ic_1 dX10_rests_57 ?_
          refine sm_goto C dX10_rests_58 (tgt := 62) rfl ?_
          refine sm_sub [0, 1, 3] rfl ?_
          exact sX10_rests_62 C E x1 x2 x4 1 1 x3 (fun x3 x4 => ih x3 x4)
        · refine sm_iconst C ic_0 dX10_rests_61 ?_
          refine sm_sub [0, 1, 3] rfl ?_
          exact sX10_rests_62 C E x1 x2 x4 0 1 x3 (fun x3 x4 => ih x3 x4)
      · refine sm_iconst C ic_0 dX10_rests_49 ?_
        refine sm_iload C 3 rfl dX10_rests_50 ?_
        refine sm_iconst C ic_2 dX10_rests_52 ?_
        refine sm_irem C (by decide) dX10_rests_53 ?_
        refine sm_if_ne C dX10_rests_54 (tgt := 61) rfl (fun h_10 => ?_) (fun h_10 => ?_)
        · refine sm_iconst C ic_1 dX10_rests_57 ?_
          refine sm_goto C dX10_rests_58 (tgt := 62) rfl ?_
          refine sm_sub [0, 1, 3] rfl ?_
          exact sX10_rests_62 C E x1 x2 x4 1 0 x3 (fun x3 x4 => ih x3 x4)
        · refine sm_iconst C ic_0 dX10_rests_61 ?_
          refine sm_sub [0, 1, 3] rfl ?_
          exact sX10_rests_62 C E x1 x2 x4 0 0 x3 (fun x3 x4 => ih x3 x4)
    · refine sm_iload_n C 2 rfl dX10_rests_86 rfl ?_
      exact sm_iret C E rfl dX10_rests_87
set_option maxRecDepth 100000 in
set_option maxHeartbeats 4000000 in
theorem mX10_rests {b : Bx} {w : HW} {x1 : Int32} {x2 : Int32} {a : Int32} (h : fX10_rests w x1 x2 = some a) : Mt b yX10_rests cX10_rests 5 (some .int) 2 47 [.ref (bB b + 79), .int x1, .int x2] w (some (.int a)) w := by
  refine Mt.of (ρI w) h (by decide) (Nat.le_of_ble_eq_true rfl) (fun G hG C E => ?_)
  subst hG
  have C : Cx G cX10_rests RX10 5 2 47 := C
  change Sm G a 0 [(0, .ref (hB G + 79)), (1, .int x1), (2, .int x2)] [] w _
  unfold fX10_rests
  refine sm_iload_n C 1 rfl dX10_rests_0 rfl ?_
  refine sm_i2l C dX10_rests_1 ?_
  refine sm_lconst C lc_0 dX10_rests_2 ?_
  refine sm_ldc2 C wd419 dX10_rests_3 ?_
  refine sm_cSI (As := [.long (x1.toInt64), .long 0, .long 99]) C cfX10_in wd295 rfl rfl rfl rfl dX10_rests_6 (fun r h => mX10_in  h) (fun r_1 => ?_)
  refine sm_if_eq C dX10_rests_9 (tgt := 24) rfl (fun h_3 => ?_) (fun h_3 => ?_)
  · refine sm_iload_n C 2 rfl dX10_rests_12 rfl ?_
    refine sm_i2l C dX10_rests_13 ?_
    refine sm_lconst C lc_0 dX10_rests_14 ?_
    refine sm_ldc2 C wd419 dX10_rests_15 ?_
    refine sm_cSI (As := [.long (x2.toInt64), .long 0, .long 99]) C cfX10_in wd295 rfl rfl rfl rfl dX10_rests_18 (fun r h => mX10_in  h) (fun r_4 => ?_)
    refine sm_if_ne C dX10_rests_21 (tgt := 27) rfl (fun h_6 => ?_) (fun h_6 => ?_)
    · refine sm_bipush C bp_m2 dX10_rests_24 ?_
      exact sm_iret C E rfl dX10_rests_26
    · refine sm_iconst C ic_0 dX10_rests_27 ?_
      refine sm_istore_n (lv1 := [(3, .int 0), (0, .ref (hB G + 79)), (1, .int x1), (2, .int x2)]) C dX10_rests_28 rfl rfl rfl ?_
      refine sm_iconst C ic_0 dX10_rests_29 ?_
      refine sm_istore (lv1 := [(4, .int 0), (3, .int 0), (0, .ref (hB G + 79)), (1, .int x1), (2, .int x2)]) C dX10_rests_30 rfl rfl ?_
      refine sm_sub [3, 4, 1, 0] rfl ?_
      exact sX10_rests_32 C E FU 0 0
  · refine sm_bipush C bp_m2 dX10_rests_24 ?_
    exact sm_iret C E rfl dX10_rests_26
/-! X10_believes -/
set_option maxRecDepth 100000 in
set_option maxHeartbeats 4000000 in
theorem sX10_believes_17 {G : Gx} {a : Int32} {w : HW} (C : Cx G cX10_believes RX10 3 2 47) (E : Rx G (ρI w) a (some .int)) {x1 : Int32} : ∀ (n : Nat) (x2 : Int32), Sm G a 17 [(1, .int x1), (2, .int x2)] [] w (fX10_believes_17 w x1 n x2) := by
  intro n
  induction n with
  | zero => intro _; exact sm_none
  | succ n ih =>
    intro x2
    rw [fX10_believes_17]
    refine sm_iload_n C 1 rfl dX10_believes_17 rfl ?_
    refine sm_bipush C bp_99 dX10_believes_18 ?_
    refine sm_icmp_gt C dX10_believes_20 (tgt := 41) rfl (fun h_4 => ?_) (fun h_4 => ?_)
    · refine sm_iconst C ic_1 dX10_believes_23 ?_
      refine sm_iconst C ic_1 dX10_believes_24 ?_
      refine sm_iload_n C 0 rfl dX10_believes_25 rfl ?_
      refine sm_iload_n C 1 rfl dX10_believes_26 rfl ?_
      refine sm_cSI (As := [.int 1, .int 1, .int x1, .int x2]) C cfX10_isRest wd420 rfl rfl rfl rfl dX10_believes_27 (fun r h => mX10_isRest  h) (fun r_5 => ?_)
      refine sm_if_eq C dX10_believes_30 (tgt := 35) rfl (fun h_7 => ?_) (fun h_7 => ?_)
      · refine sm_iload_n C 1 rfl dX10_believes_33 rfl ?_
        exact sm_iret C E rfl dX10_believes_34
      · refine sm_iinc (lv1 := [(2, .int (x2 + 1)), (1, .int x1)]) C 1 rfl (iv_1 _) dX10_believes_35 rfl rfl ?_
        refine sm_goto C dX10_believes_38 (tgt := 17) rfl ?_
        refine sm_sub [1, 0] rfl ?_
        exact ih (x2 + 1)
    · refine sm_iconst C ic_m1 dX10_believes_41 ?_
      exact sm_iret C E rfl dX10_believes_42
set_option maxRecDepth 100000 in
set_option maxHeartbeats 4000000 in
theorem mX10_believes {b : Bx} {w : HW} {x1 : Int32} {a : Int32} (h : fX10_believes w x1 = some a) : Mt b yX10_believes cX10_believes 3 (some .int) 2 47 [.ref (bB b + 79), .int x1] w (some (.int a)) w := by
  refine Mt.of (ρI w) h (by decide) (Nat.le_of_ble_eq_true rfl) (fun G hG C E => ?_)
  subst hG
  have C : Cx G cX10_believes RX10 3 2 47 := C
  change Sm G a 0 [(0, .ref (hB G + 79)), (1, .int x1)] [] w _
  unfold fX10_believes
  refine sm_iload_n C 1 rfl dX10_believes_0 rfl ?_
  refine sm_i2l C dX10_believes_1 ?_
  refine sm_lconst C lc_0 dX10_believes_2 ?_
  refine sm_ldc2 C wd419 dX10_believes_3 ?_
  refine sm_cSI (As := [.long (x1.toInt64), .long 0, .long 99]) C cfX10_in wd295 rfl rfl rfl rfl dX10_believes_6 (fun r h => mX10_in  h) (fun r_1 => ?_)
  refine sm_if_ne C dX10_believes_9 (tgt := 15) rfl (fun h_3 => ?_) (fun h_3 => ?_)
  · refine sm_bipush C bp_m2 dX10_believes_12 ?_
    exact sm_iret C E rfl dX10_believes_14
  · refine sm_iconst C ic_0 dX10_believes_15 ?_
    refine sm_istore_n (lv1 := [(2, .int 0), (0, .ref (hB G + 79)), (1, .int x1)]) C dX10_believes_16 rfl rfl rfl ?_
    refine sm_sub [2, 0] rfl ?_
    exact sX10_believes_17 C E FU 0
/-! X10_chance -/
set_option maxRecDepth 100000 in
set_option maxHeartbeats 4000000 in
theorem sX10_chance_29 {G : Gx} {a : Int64 × HW} (C : Cx G cX10_chance RX10 7 7 157) (E : Rx G ρLW a (some .long)) {x1 : Int32} : ∀ (n : Nat) (w : HW) (x2 : Int64) (x4 : Int64) (x6 : Int32), Sm G a 29 [(0, .ref (hB G + 79)), (1, .int x1), (2, .long x2), (4, .long x4), (6, .int x6)] [] w (fX10_chance_29 x1 n w x2 x4 x6) := by
  intro n
  induction n with
  | zero => intro _ _ _ _; exact sm_none
  | succ n ih =>
    intro w x2 x4 x6
    rw [fX10_chance_29]
    refine sm_iload C 4 rfl dX10_chance_29 ?_
    refine sm_aload_n C 0 rfl dX10_chance_31 rfl ?_
    refine sm_getR C fo_10_1 rfl wd297 kd_79 dX10_chance_32 (rv_79_1 w) (by decide) ?_
    refine sm_iconst C ic_5 dX10_chance_35 ?_
    refine sm_iald C kd_80 dX10_chance_36 (fun h_7 => ?_)
    refine sm_icmp_ge C dX10_chance_37 (tgt := 78) rfl (fun h_8 => ?_) (fun h_8 => ?_)
    · refine sm_aload_n C 0 rfl dX10_chance_40 rfl ?_
      refine sm_getR C fo_10_18 rfl wd347 kd_79 dX10_chance_41 (rv_79_18 w) (by decide) ?_
      refine sm_iload C 4 rfl dX10_chance_44 ?_
      refine sm_iald C kd_89 dX10_chance_46 (fun h_9 => ?_)
      refine sm_iconst C ic_m1 dX10_chance_47 ?_
      refine sm_icmp_ne C dX10_chance_48 (tgt := 54) rfl (fun h_10 => ?_) (fun h_10 => ?_)
      · refine sm_goto C dX10_chance_51 (tgt := 72) rfl ?_
        refine sm_iinc (lv1 := [(6, .int (x6 + 1)), (0, .ref (hB G + 79)), (1, .int x1), (2, .long x2), (4, .long x4)]) C 4 rfl (iv_1 _) dX10_chance_72 rfl rfl ?_
        refine sm_goto C dX10_chance_75 (tgt := 29) rfl ?_
        refine sm_sub [1, 2, 3, 4, 0] rfl ?_
        exact ih w x2 x4 (x6 + 1)
      · refine sm_lload_n C 2 rfl dX10_chance_54 rfl ?_
        refine sm_aload_n C 0 rfl dX10_chance_55 rfl ?_
        refine sm_getR C fo_10_1 rfl wd297 kd_79 dX10_chance_56 (rv_79_1 w) (by decide) ?_
        refine sm_iconst C ic_3 dX10_chance_59 ?_
        refine sm_iald C kd_80 dX10_chance_60 (fun h_11 => ?_)
        refine sm_i2l C dX10_chance_61 ?_
        refine sm_lmul C dX10_chance_62 ?_
        refine sm_letL (fun x2_12 => ?_)
        refine sm_lstore_n (lv1 := [(2, .long x2_12), (0, .ref (hB G + 79)), (1, .int x1), (4, .long x4), (6, .int x6)]) C dX10_chance_63 rfl rfl rfl ?_
        refine sm_lload C 3 rfl dX10_chance_64 ?_
        refine sm_ldc2 C wd355 dX10_chance_66 ?_
        refine sm_lmul C dX10_chance_69 ?_
        refine sm_letL (fun x4_13 => ?_)
        refine sm_lstore (lv1 := [(4, .long x4_13), (2, .long x2_12), (0, .ref (hB G + 79)), (1, .int x1), (6, .int x6)]) C dX10_chance_70 rfl rfl ?_
        refine sm_iinc (lv1 := [(6, .int (x6 + 1)), (4, .long x4_13), (2, .long x2_12), (0, .ref (hB G + 79)), (1, .int x1)]) C 4 rfl (iv_1 _) dX10_chance_72 rfl rfl ?_
        refine sm_goto C dX10_chance_75 (tgt := 29) rfl ?_
        refine sm_sub [3, 4, 2, 1, 0] rfl ?_
        exact ih w x2_12 x4_13 (x6 + 1)
    · refine sm_lload_n C 2 rfl dX10_chance_78 rfl ?_
      refine sm_lload C 3 rfl dX10_chance_79 ?_
      refine sm_iload_n C 1 rfl dX10_chance_81 rfl ?_
      refine sm_cSL (As := [.long x2, .long x4, .int x1]) C cfX10_part wd415 rfl rfl rfl rfl dX10_chance_82 (fun r h => mX10_part  h) (fun r_14 => ?_)
      exact sm_lret C E rfl dX10_chance_85
set_option maxRecDepth 100000 in
set_option maxHeartbeats 4000000 in
theorem mX10_chance {b : Bx} {w : HW} {x1 : Int32} {a : Int64 × HW} (h : fX10_chance w x1 = some a) : Mt b yX10_chance cX10_chance 7 (some .long) 7 157 [.ref (bB b + 79), .int x1] w (some (.long a.1)) a.2 := by
  refine Mt.of ρLW h (by decide) (Nat.le_of_ble_eq_true rfl) (fun G hG C E => ?_)
  subst hG
  have C : Cx G cX10_chance RX10 7 7 157 := C
  change Sm G a 0 [(0, .ref (hB G + 79)), (1, .int x1)] [] w _
  unfold fX10_chance
  refine sm_aload_n C 0 rfl dX10_chance_0 rfl ?_
  refine sm_cVIW (As := []) C cfX10_asksCamp wd362 kd_79 rfl rfl rfl rfl rfl dX10_chance_1 (fun r h => mX10_asksCamp  h) (fun r_1 w_2 => ?_)
  refine sm_if_eq C dX10_chance_4 (tgt := 17) rfl (fun h_3 => ?_) (fun h_3 => ?_)
  · refine sm_iload_n C 1 rfl dX10_chance_7 rfl ?_
    refine sm_i2l C dX10_chance_8 ?_
    refine sm_lconst C lc_0 dX10_chance_9 ?_
    refine sm_lconst C lc_1 dX10_chance_10 ?_
    refine sm_cSI (As := [.long (x1.toInt64), .long 0, .long 1]) C cfX10_in wd295 rfl rfl rfl rfl dX10_chance_11 (fun r h => mX10_in  h) (fun r_4 => ?_)
    refine sm_if_ne C dX10_chance_14 (tgt := 21) rfl (fun h_6 => ?_) (fun h_6 => ?_)
    · refine sm_ldc2 C wd421 dX10_chance_17 ?_
      exact sm_lret C E rfl dX10_chance_20
    · refine sm_lconst C lc_1 dX10_chance_21 ?_
      refine sm_lstore_n (lv1 := [(2, .long 1), (0, .ref (hB G + 79)), (1, .int x1)]) C dX10_chance_22 rfl rfl rfl ?_
      refine sm_lconst C lc_1 dX10_chance_23 ?_
      refine sm_lstore (lv1 := [(4, .long 1), (2, .long 1), (0, .ref (hB G + 79)), (1, .int x1)]) C dX10_chance_24 rfl rfl ?_
      refine sm_iconst C ic_0 dX10_chance_26 ?_
      refine sm_istore (lv1 := [(6, .int 0), (4, .long 1), (2, .long 1), (0, .ref (hB G + 79)), (1, .int x1)]) C dX10_chance_27 rfl rfl ?_
      refine sm_sub [3, 4, 2, 1, 0] rfl ?_
      exact sX10_chance_29 C E FU w_2 1 1 0
  · refine sm_ldc2 C wd421 dX10_chance_17 ?_
    exact sm_lret C E rfl dX10_chance_20
/-! X10_keepAct -/
set_option maxRecDepth 100000 in
set_option maxHeartbeats 4000000 in
theorem mX10_keepAct {b : Bx} {w : HW} {x1 : Int32} {a : Int32 × HW} (h : fX10_keepAct w x1 = some a) : Mt b yX10_keepAct cX10_keepAct 2 (some .boolean) 6 137 [.ref (bB b + 79), .int x1] w (some (.int a.1)) a.2 := by
  refine Mt.of ρIW h (by decide) (Nat.le_of_ble_eq_true rfl) (fun G hG C E => ?_)
  subst hG
  have C : Cx G cX10_keepAct RX10 2 6 137 := C
  change Sm G a 0 [(0, .ref (hB G + 79)), (1, .int x1)] [] w _
  unfold fX10_keepAct
  refine sm_aload_n C 0 rfl dX10_keepAct_0 rfl ?_
  refine sm_getR C fo_10_1 rfl wd297 kd_79 dX10_keepAct_1 (rv_79_1 w) (by decide) ?_
  refine sm_bipush C bp_6 dX10_keepAct_4 ?_
  refine sm_iald C kd_80 dX10_keepAct_6 (fun h_1 => ?_)
  refine sm_bipush C bp_20 dX10_keepAct_7 ?_
  refine sm_icmp_ne C dX10_keepAct_9 (tgt := 14) rfl (fun h_2 => ?_) (fun h_2 => ?_)
  · refine sm_iconst C ic_0 dX10_keepAct_12 ?_
    exact sm_zret C E rfl rfl dX10_keepAct_13
  · refine sm_aload_n C 0 rfl dX10_keepAct_14 rfl ?_
    refine sm_getR C fo_10_1 rfl wd297 kd_79 dX10_keepAct_15 (rv_79_1 w) (by decide) ?_
    refine sm_bipush C bp_57 dX10_keepAct_18 ?_
    refine sm_aload_n C 0 rfl dX10_keepAct_20 rfl ?_
    refine sm_getR C fo_10_1 rfl wd297 kd_79 dX10_keepAct_21 (rv_79_1 w) (by decide) ?_
    refine sm_bipush C bp_6 dX10_keepAct_24 ?_
    refine sm_iald C kd_80 dX10_keepAct_26 (fun h_3 => ?_)
    refine sm_iadd C dX10_keepAct_27 ?_
    refine sm_iload_n C 1 rfl dX10_keepAct_28 rfl ?_
    refine sm_iast C kd_80 dX10_keepAct_29 (fun h_4 w_5 => ?_)
    refine sm_aload_n C 0 rfl dX10_keepAct_30 rfl ?_
    refine sm_getR C fo_10_1 rfl wd297 kd_79 dX10_keepAct_31 (rv_79_1 w_5) (by decide) ?_
    refine sm_bipush C bp_6 dX10_keepAct_34 ?_
    refine sm_dup2 C rfl rfl dX10_keepAct_36 ?_
    refine sm_iald C kd_80 dX10_keepAct_37 (fun h_6 => ?_)
    refine sm_iconst C ic_1 dX10_keepAct_38 ?_
    refine sm_iadd C dX10_keepAct_39 ?_
    refine sm_iast C kd_80 dX10_keepAct_40 (fun h_7 w_8 => ?_)
    refine sm_aload_n C 0 rfl dX10_keepAct_41 rfl ?_
    refine sm_cVW (As := []) C cfX10_layAsked wd360 kd_79 rfl rfl rfl rfl rfl dX10_keepAct_42 (fun r h => mX10_layAsked  h) (fun w_10 => ?_)
    refine sm_aload_n C 0 rfl dX10_keepAct_45 rfl ?_
    refine sm_cVW (As := []) C cfX10_goDays wd361 kd_79 rfl rfl rfl rfl rfl dX10_keepAct_46 (fun r h => mX10_goDays  h) (fun w_12 => ?_)
    refine sm_iconst C ic_1 dX10_keepAct_49 ?_
    exact sm_zret C E rfl rfl dX10_keepAct_50
