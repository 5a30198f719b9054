/-! WHAT the readers' steps write (by program, as part 13) -/
def p4 (c f : Nat) : Bool := c == 3 && Nat.ble 4 f
def p9 (c f : Nat) : Bool := c == 79 && (Nat.ble 8 f && Nat.ble f 11)
theorem qX4_step_172 {w0 w : HW} {K45 : HW → Int32 → Option HW} (hK45 : ∀ z0 z1, Sx p4 w0 z0 → Fr p4 w0 ρW (K45 z0 z1)) (hw : Sx p4 w0 w) : Fr p4 w0 ρW (fX4_step_172 w K45) := by
  unfold fX4_step_172
  refine fr_b (fun r_28 => ?_)
  refine fr_b (fun r_30 => ?_)
  refine fr_if ?_ ?_
  · exact hK45 _ _ hw
  · exact hK45 _ _ hw
theorem qX4_step_146 {w0 w : HW} {K45 : HW → Int32 → Option HW} (hK45 : ∀ z0 z1, Sx p4 w0 z0 → Fr p4 w0 ρW (K45 z0 z1)) (hw : Sx p4 w0 w) : Fr p4 w0 ρW (fX4_step_146 w K45) := by
  unfold fX4_step_146
  refine fr_uI hw rfl (fun w_25 hw_25 => ?_)
  refine fr_if ?_ ?_
  · refine fr_if ?_ ?_
    · exact qX4_step_172 hK45 hw_25
    · exact hK45 _ _ hw_25
  · exact qX4_step_172 hK45 hw_25
theorem qX4_step_91 {w0 : HW} : ∀ (n : Nat) (w : HW) (x1 : Int32), Sx p4 w0 w → Fr p4 w0 ρW (fX4_step_91 n w x1) := by
  intro n
  induction n with
  | zero => intro _ _ _; exact fr_none
  | succ n ih =>
    intro w x1 hw
    rw [fX4_step_91]
    refine fr_if ?_ ?_
    · refine fr_if ?_ ?_
      · refine fr_if ?_ ?_
        · refine fr_if ?_ ?_
          · refine fr_b (fun r_22 => ?_)
            refine fr_uI hw rfl (fun w_24 hw_24 => ?_)
            exact qX4_step_146 (fun _ _ hw => ih _ _ hw) hw_24
          · exact qX4_step_146 (fun _ _ hw => ih _ _ hw) hw
        · exact fr_retW hw
      · exact fr_none
    · exact fr_retW hw
theorem qX4_step_50 {w0 w : HW} (hw : Sx p4 w0 w) : Fr p4 w0 ρW (fX4_step_50 w) := by
  unfold fX4_step_50
  refine fr_uI hw rfl (fun w_10 hw_10 => ?_)
  refine fr_b (fun r_11 => ?_)
  refine fr_b (fun r_13 => ?_)
  refine fr_uI hw_10 rfl (fun w_15 hw_15 => ?_)
  refine fr_uI hw_15 rfl (fun w_16 hw_16 => ?_)
  refine fr_if ?_ ?_
  · exact qX4_step_91 _ _ _ hw_16
  · exact qX4_step_91 _ _ _ hw_16
theorem qX4_step_8 {w0 : HW} : ∀ (n : Nat) (w : HW), Sx p4 w0 w → Fr p4 w0 ρW (fX4_step_8 n w) := by
  intro n
  induction n with
  | zero => intro _ _; exact fr_none
  | succ n ih =>
    intro w hw
    rw [fX4_step_8]
    refine fr_if ?_ ?_
    · refine fr_if ?_ ?_
      · refine fr_b (fun r_4 => ?_)
        refine fr_b (fun r_6 => ?_)
        refine fr_if ?_ ?_
        · refine fr_uI hw rfl (fun w_9 hw_9 => ?_)
          exact ih _ hw_9
        · exact qX4_step_50 hw
      · exact qX4_step_50 hw
    · exact fr_none
theorem qX4_step {w0 w : HW} (hw : Sx p4 w0 w) : Fr p4 w0 ρW (fX4_step w) := by
  unfold fX4_step
  refine fr_uI hw rfl (fun w_1 hw_1 => ?_)
  exact qX4_step_8 _ _ hw_1
theorem qX10_advance_144 {w0 : HW} : ∀ (n : Nat) (w : HW), Sx p9 w0 w → Fr p9 w0 ρW (fX10_advance_144 n w) := by
  intro n
  induction n with
  | zero => intro _ _; exact fr_none
  | succ n ih =>
    intro w hw
    rw [fX10_advance_144]
    refine fr_b (fun r_33 => ?_)
    refine fr_b (fun r_35 => ?_)
    refine fr_if ?_ ?_
    · refine fr_b (fun r_38 => ?_)
      refine fr_uI hw rfl (fun w_40 hw_40 => ?_)
      refine fr_uI hw_40 rfl (fun w_41 hw_41 => ?_)
      exact ih _ hw_41
    · refine fr_uI hw rfl (fun w_42 hw_42 => ?_)
      exact fr_retW hw_42
theorem qX10_advance_83 {w0 : HW} : ∀ (n : Nat) (w : HW), Sx p9 w0 w → Fr p9 w0 ρW (fX10_advance_83 n w) := by
  intro n
  induction n with
  | zero => intro _ _; exact fr_none
  | succ n ih =>
    intro w hw
    rw [fX10_advance_83]
    refine fr_b (fun r_26 => ?_)
    refine fr_b (fun r_28 => ?_)
    refine fr_if ?_ ?_
    · refine fr_uI hw rfl (fun w_31 hw_31 => ?_)
      exact ih _ hw_31
    · refine fr_uI hw rfl (fun w_32 hw_32 => ?_)
      exact fr_retW hw_32
theorem qX10_advance_39 {w0 w : HW} (hw : Sx p9 w0 w) : Fr p9 w0 ρW (fX10_advance_39 w) := by
  unfold fX10_advance_39
  refine fr_uI hw rfl (fun w_9 hw_9 => ?_)
  refine fr_b (fun r_10 => ?_)
  refine fr_if ?_ ?_
  · refine fr_uI hw_9 rfl (fun w_13 hw_13 => ?_)
    exact fr_retW hw_13
  · refine fr_b (fun r_14 => ?_)
    refine fr_if ?_ ?_
    · exact qX10_advance_83 _ _ hw_9
    · refine fr_b (fun r_17 => ?_)
      refine fr_if ?_ ?_
      · refine fr_uI hw_9 rfl (fun w_20 hw_20 => ?_)
        exact qX10_advance_144 _ _ hw_20
      · refine fr_if ?_ ?_
        · refine fr_uI hw_9 rfl (fun w_22 hw_22 => ?_)
          refine fr_uI hw_22 rfl (fun w_23 hw_23 => ?_)
          exact fr_retW hw_23
        · refine fr_uI hw_9 rfl (fun w_24 hw_24 => ?_)
          refine fr_uI hw_24 rfl (fun w_25 hw_25 => ?_)
          exact fr_retW hw_25
theorem qX10_advance_0 {w0 : HW} : ∀ (n : Nat) (w : HW), Sx p9 w0 w → Fr p9 w0 ρW (fX10_advance_0 n w) := by
  intro n
  induction n with
  | zero => intro _ _; exact fr_none
  | succ n ih =>
    intro w hw
    rw [fX10_advance_0]
    refine fr_b (fun r_1 => ?_)
    refine fr_if ?_ ?_
    · refine fr_b (fun r_4 => ?_)
      refine fr_if ?_ ?_
      · refine fr_uI hw rfl (fun w_7 hw_7 => ?_)
        exact ih _ hw_7
      · exact qX10_advance_39 hw
    · refine fr_uI hw rfl (fun w_8 hw_8 => ?_)
      exact ih _ hw_8
theorem qX10_advance {w0 w : HW} (hw : Sx p9 w0 w) : Fr p9 w0 ρW (fX10_advance w) := by
  unfold fX10_advance
  exact qX10_advance_0 _ _ hw
/-! READING: the class's reader, the reference's, both after the same reader -/
def p3 (c f : Nat) : Bool := c == 3 && (Nat.ble f 1 || Nat.ble 4 f)
theorem p43 (c f : Nat) (h : p3 c f = false) : p4 c f = false := by
  unfold p3 at h
  unfold p4
  cases q : (c == 3)
  · rfl
  · rw [q, Bool.true_and, Bool.or_eq_false_iff] at h
    rw [h.2]; rfl
def CE (B : Nat → Int32) (t k : Nat) (w : HW) : Prop := isC k = true ∧ gR w 3 2 = 1 ∧ gR w 3 3 = k ∧ gI w 1 1 = nI t ∧ (∀ i, i < 800 → gI w 2 i = B i)
def CR (B : Nat → Int32) (t k : Nat) (w : HW) (z : ZZ) : Prop := CE B t k w ∧ ZI B t z ∧ gI w 3 0 = nI z.f ∧ gI w 3 1 = aI z.p ∧ gI w 3 4 = nI z.c ∧ gI w 3 5 = nI z.s ∧ gI w 3 6 = nI z.e ∧ gI w 3 7 = nI (min 1000 z.v)
section CRS
variable {B : Nat → Int32} {t k : Nat} {w : HW} {z : ZZ}
theorem CE.of (E : CE B t k w) {w' : HW} (h : Sx p3 w w') : CE B t k w' :=
  ⟨E.1, (h 3 2 rfl).2.2.trans E.2.1, (h 3 3 rfl).2.2.trans E.2.2.1, (h 1 1 rfl).1.trans E.2.2.2.1, fun i hi => (h 2 i rfl).1.trans (E.2.2.2.2 i hi)⟩
theorem CE.t1 (E : CE B t k w) : (gR w 3 2 == 1) = true := by rw [E.2.1]; rfl
theorem CE.cmp {α : Type} (E : CE B t k w) (X : Nat → Option α) : (lT (gR w 3 3) fun j => if isC j = true then X j else none) = X k := by
  rw [lT_eq, E.2.2.1, if_pos E.1]
theorem byteAt_ok (E : CE B t k w) (ht : t ≤ 800) {i : Nat} (hi : i ≤ 1000) : fX4_byteAt w (nI i) = some (chB B t i) := by
  unfold fX4_byteAt chB
  rw [if_pos (nI_pos (by omega)), if_pos E.t1, E.2.2.2.1]
  by_cases h : i < t
  · rw [if_pos (nI_lt h (by omega)), if_pos E.t1, if_neg (show ¬ ¬ nI i < 800 from fun z => z (nI_lt (b := 800) (by omega) (by omega))), if_pos E.t1, if_pos (inB_nI (by omega) (by omega)), ix_nI (by omega), E.2.2.2.2 i (by omega), if_pos h]
  · rw [if_neg (nI_nlt (by omega) (by omega)), if_neg h]
theorem step8_L (ht : t ≤ 800) : ∀ F i (w : HW), CE B t k w → gI w 3 5 = nI i → i ≤ t → t - i < F → ∃ w', fX4_step_8 F w = fX4_step_50 w' ∧ gI w' 3 5 = nI (skB (chB B t) (t - i) i) ∧ Sx p4 w w' := by
  intro F
  induction F with
  | zero => intro i w _ _ _ h; omega
  | succ F ih =>
    intro i w E h5 hi hF
    rw [fX4_step_8, if_pos E.t1, h5, E.2.2.2.1, skB_s ch_t hi]
    by_cases h : i < t
    · rw [if_pos (nI_lt h (by omega)), byteAt_ok E ht (by omega), bI_some, kindOf_ok, bI_some]
      have hs := sgK_le (chB B t i)
      by_cases c : sgK (chB B t i) = 5
      · have s1 : Sx p4 w (uI w 3 5 (nI i + 1)) := (Sx.rf).uI rfl
        obtain ⟨w', q1, q2, q3⟩ := ih (i + 1) (uI w 3 5 (nI i + 1)) (E.of (s1.mono p43)) (by rw [gI_uI_at, nI_1]) (by omega) (by omega)
        rw [if_pos (show nI (sgK (chB B t i)) = 5 from congrArg nI c), if_pos c, lT_eq]
        exact ⟨w', q1, q2, s1.tr q3⟩
      · rw [if_neg (show ¬ nI (sgK (chB B t i)) = 5 from fun y => c ((nI_eqv (b := 5) (by omega) (by omega)).mp y)), if_neg c]
        exact ⟨w, rfl, h5, Sx.rf⟩
    · have e : i = t := by omega
      subst e
      rw [if_neg (nI_nlt (by omega) (by omega)), if_neg (by rw [ch_t]; omega)]
      exact ⟨w, rfl, h5, Sx.rf⟩
theorem step91_0 {F : Nat} (hF : 0 < F) : fX4_step_91 F w 0 = some w := by
  obtain ⟨F, rfl⟩ : ∃ E, F = E + 1 := ⟨F - 1, by omega⟩
  rw [fX4_step_91, if_neg (fun y => y rfl)]
theorem cap_step {v d : Nat} : min 1000 (min 1000 v * 10 + d) = min 1000 (min 99999 (10 * v + d)) := by omega
theorem step91_L (ht : t ≤ 800) {c : Nat} (hc : c = 1 ∨ c = 2) : ∀ F i v (w : HW), CE B t k w → sgK (chB B t i) = c → v ≤ 99999 → gI w 3 4 = nI c → gI w 3 6 = nI i → gI w 3 7 = nI (min 1000 v) → i ≤ t → t - i < F → ∃ w', fX4_step_91 F w 1 = some w' ∧ gI w' 3 4 = nI c ∧ gI w' 3 6 = nI (enB (chB B t) c (t - i) i) ∧ gI w' 3 7 = nI (min 1000 (if c = 2 then vlB (chB B t) (t - i) i v else v)) ∧ gI w' 3 5 = gI w 3 5 := by
  intro F
  induction F with
  | zero => intro i v w _ _ _ _ _ _ _ h; omega
  | succ F ih =>
    intro i v w E hk hv h4 h6 h7 hi hF
    have hlt : i < t := by
      have := mt (ch_0 (B := B) (t := t) (k := i)).mpr (by omega)
      omega
    have hs := sgK_le (chB B t (i + 1))
    rw [fX4_step_91, if_pos (show ¬ (1 : Int32) = 0 by decide), if_pos E.t1, h6, E.2.2.2.1, if_pos (nI_lt hlt (by omega)), h4]
    have go : ∀ (w1 : HW) (v1 : Nat), CE B t k w1 → v1 ≤ 99999 → gI w1 3 4 = nI c → gI w1 3 6 = nI i → gI w1 3 7 = nI (min 1000 v1) → gI w1 3 5 = gI w 3 5 → ((if c = 2 then vlB (chB B t) (t - i) i v else v) = (if c = 2 then (if sgK (chB B t (i + 1)) = c then vlB (chB B t) (t - (i + 1)) (i + 1) v1 else v1) else v1)) → ∃ w', fX4_step_146 w1 (fun w x1 => fX4_step_91 F w x1) = some w' ∧ gI w' 3 4 = nI c ∧ gI w' 3 6 = nI (enB (chB B t) c (t - i) i) ∧ gI w' 3 7 = nI (min 1000 (if c = 2 then vlB (chB B t) (t - i) i v else v)) ∧ gI w' 3 5 = gI w 3 5 := by
      intro w1 v1 E1 hv1 k4 k6 k7 k5 ev
      have s2 : Sx p4 w1 (uI w1 3 6 (nI i + 1)) := (Sx.rf).uI rfl
      have E2 := E1.of (s2.mono p43)
      have g4 : gI (uI w1 3 6 (nI i + 1)) 3 4 = nI c := (gI_uI_nf (by omega)).trans k4
      have g6 : gI (uI w1 3 6 (nI i + 1)) 3 6 = nI (i + 1) := by rw [gI_uI_at, nI_1]
      have g7 : gI (uI w1 3 6 (nI i + 1)) 3 7 = nI (min 1000 v1) := (gI_uI_nf (by omega)).trans k7
      have g5 : gI (uI w1 3 6 (nI i + 1)) 3 5 = gI w 3 5 := (gI_uI_nf (by omega)).trans k5
      have tail : fX4_step_172 (uI w1 3 6 (nI i + 1)) (fun w x1 => fX4_step_91 F w x1) = if sgK (chB B t (i + 1)) = c then fX4_step_91 F (uI w1 3 6 (nI i + 1)) 1 else fX4_step_91 F (uI w1 3 6 (nI i + 1)) 0 := by
        unfold fX4_step_172
        rw [g6, byteAt_ok E2 ht (by omega), bI_some, kindOf_ok, bI_some, g4]
        by_cases q : sgK (chB B t (i + 1)) = c
        · rw [if_pos (congrArg nI q), if_pos q]
        · rw [if_neg (fun y => q ((nI_eqv (by omega) (by omega)).mp y)), if_neg q]
      have e146 : fX4_step_146 w1 (fun w x1 => fX4_step_91 F w x1) = fX4_step_172 (uI w1 3 6 (nI i + 1)) (fun w x1 => fX4_step_91 F w x1) := by
        unfold fX4_step_146
        rw [k6, lT_eq, g4]
        rcases hc with rfl | rfl
        · rw [if_neg (fun y => y rfl)]
        · rw [if_pos (show ¬ nI 2 = 1 by decide), if_pos (show nI 2 = 2 from rfl)]
      rw [e146, tail, enB_s ch_t (by omega) hi, if_pos hk, ev]
      by_cases q : sgK (chB B t (i + 1)) = c
      · rw [if_pos q, if_pos q]
        obtain ⟨w', a1, a2, a3, a4, a5⟩ := ih (i + 1) v1 _ E2 q hv1 g4 g6 g7 (by omega) (by omega)
        exact ⟨w', a1, a2, a3, a4, a5.trans g5⟩
      · rw [if_neg q, if_neg q, step91_0 (by omega), enB_s ch_t (by omega) (by omega), if_neg q, ite_self]
        exact ⟨_, rfl, g4, g6, g7, g5⟩
    rcases hc with rfl | rfl
    · rw [if_neg (show ¬ nI 1 = 2 by decide)]
      exact go w v E hv h4 h6 h7 rfl (by rw [if_neg (by omega), if_neg (by omega)])
    · obtain ⟨d, hd, ed⟩ := sgK_2 hk
      have ev : min 99999 (10 * v + (ix (chB B t i) - 48)) = min 99999 (10 * v + d) := by rw [ed, ix_nI (by omega)]; omega
      have s1 : Sx p4 w (uI w 3 7 (nI (min 1000 (min 99999 (10 * v + d))))) := (Sx.rf).uI rfl
      rw [if_pos (show nI 2 = 2 from rfl), byteAt_ok E ht (by omega), bI_some, ed, h7, show (nI (min 1000 v) * 10 + nI (48 + d)) - 48 = nI (min 1000 v * 10 + d) from by
        rw [show (10 : Int32) = nI 10 from rfl, show (48 : Int32) = nI 48 from rfl, pk_mul, nI_add, nI_subI (by omega)]
        exact congrArg nI (by omega), show iMn 1000 (nI (min 1000 v * 10 + d)) = nI (min 1000 (min 1000 v * 10 + d)) from iMn_nI (a := 1000) (by omega) (by omega), cap_step, lT_eq]
      refine go _ (min 99999 (10 * v + d)) (E.of (s1.mono p43)) (Nat.min_le_left _ _) ((gI_uI_nf (by omega)).trans h4) ((gI_uI_nf (by omega)).trans h6) gI_uI_at (gI_uI_nf (by omega)) ?_
      rw [if_pos rfl, if_pos rfl, vlB_s ch_t hi, if_pos hk, ev]
      by_cases q : sgK (chB B t (i + 1)) = 2
      · rw [if_pos q]
      · rw [if_neg q, vlB_s ch_t (by omega), if_neg q]
theorem step_ok (E : CE B t k w) (ht : t ≤ 800) {i : Nat} (h6 : gI w 3 6 = nI i) (hi : i ≤ t) : ∃ w', fX4_step w = some w' ∧ gI w' 3 4 = nI (tkC B t i) ∧ gI w' 3 5 = nI (tkS B t i) ∧ gI w' 3 6 = nI (tkE B t i) ∧ gI w' 3 7 = nI (min 1000 (tkV B t i)) ∧ Sx p4 w w' := by
  have hb := tk_b (B := B) hi
  have s1 : Sx p4 w (uI w 3 5 (gI w 3 6)) := (Sx.rf).uI rfl
  obtain ⟨w1, q1, q2, q3⟩ := step8_L ht FU i (uI w 3 5 (gI w 3 6)) (E.of (s1.mono p43)) (by rw [gI_uI_at, h6]) hi (by rw [FU_eq]; omega)
  have E1 := E.of ((s1.tr q3).mono p43)
  have q2' : gI w1 3 5 = nI (tkS B t i) := q2
  have main : ∃ w', fX4_step_50 w1 = some w' ∧ gI w' 3 4 = nI (tkC B t i) ∧ gI w' 3 5 = nI (tkS B t i) ∧ gI w' 3 6 = nI (tkE B t i) ∧ gI w' 3 7 = nI (min 1000 (tkV B t i)) := by
    unfold fX4_step_50
    have a1 : Sx p4 w1 (uI w1 3 6 (nI (tkS B t i))) := (Sx.rf).uI rfl
    have a2 : Sx p4 w1 (uI (uI w1 3 6 (nI (tkS B t i))) 3 4 (nI (tkC B t i))) := a1.uI rfl
    have a3 : Sx p4 w1 (uI (uI (uI w1 3 6 (nI (tkS B t i))) 3 4 (nI (tkC B t i))) 3 7 0) := a2.uI rfl
    have E3 := E1.of (a3.mono p43)
    have g4 : gI (uI (uI (uI w1 3 6 (nI (tkS B t i))) 3 4 (nI (tkC B t i))) 3 7 0) 3 4 = nI (tkC B t i) := (gI_uI_nf (by omega)).trans gI_uI_at
    have g6 : gI (uI (uI (uI w1 3 6 (nI (tkS B t i))) 3 4 (nI (tkC B t i))) 3 7 0) 3 6 = nI (tkS B t i) := (gI_uI_nf (by omega)).trans ((gI_uI_nf (by omega)).trans gI_uI_at)
    have g5 : gI (uI (uI (uI w1 3 6 (nI (tkS B t i))) 3 4 (nI (tkC B t i))) 3 7 0) 3 5 = nI (tkS B t i) := (gI_uI_nf (by omega)).trans ((gI_uI_nf (by omega)).trans ((gI_uI_nf (by omega)).trans q2'))
    have g7 : gI (uI (uI (uI w1 3 6 (nI (tkS B t i))) 3 4 (nI (tkC B t i))) 3 7 0) 3 7 = nI (min 1000 0) := gI_uI_at
    rw [q2', lT_eq, gI_uI_nf (show 5 ≠ 6 by omega), q2', byteAt_ok (E1.of (a1.mono p43)) ht (by omega), bI_some, kindOf_ok, bI_some, lT_eq, lT_eq, show sgK (chB B t (tkS B t i)) = tkC B t i from rfl, g4]
    by_cases c0 : tkC B t i = 0
    · rw [if_neg (fun y => y (by rw [c0]; rfl)), step91_0 (by rw [FU_eq]; omega)]
      refine ⟨_, rfl, g4, g5, ?_, ?_⟩
      · rw [g6]; unfold tkE; rw [if_pos c0]
      · rw [g7]; unfold tkV; rw [if_neg (by omega)]
    · rw [if_pos (show ¬ nI (tkC B t i) = 0 from fun y => c0 ((nI_eqv (b := 0) (by omega) (by omega)).mp y))]
      by_cases c1 : tkC B t i = 1 ∨ tkC B t i = 2
      · obtain ⟨w', r1, r2, r3, r4, r5⟩ := step91_L ht c1 FU (tkS B t i) 0 _ E3 rfl (by omega) g4 g6 g7 (by omega) (by rw [FU_eq]; omega)
        refine ⟨w', r1, r2, r5.trans g5, ?_, ?_⟩
        · rw [r3]; unfold tkE; rw [if_neg c0, if_pos c1]
        · rw [r4]; rfl
      · have hlt : tkS B t i < t := by
          have := mt (ch_0 (B := B) (t := t) (k := tkS B t i)).mpr c0
          omega
        have hn2 : ¬ nI (tkC B t i) = 2 := fun y => c1 (Or.inr ((nI_eqv (b := 2) (by omega) (by omega)).mp y))
        have hn1 : ¬ nI (tkC B t i) = 1 := fun y => c1 (Or.inl ((nI_eqv (b := 1) (by omega) (by omega)).mp y))
        rw [FU_eq, fX4_step_91, if_pos (show ¬ (1 : Int32) = 0 by decide), if_pos E3.t1, g6, E3.2.2.2.1, if_pos (nI_lt hlt (by omega)), g4, if_neg hn2]
        unfold fX4_step_146
        rw [lT_eq, gI_uI_nf (show 4 ≠ 6 by omega), g4, if_pos hn1, if_neg hn2]
        dsimp only
        rw [step91_0 (F := 99999) (by omega), g6, nI_1]
        refine ⟨_, rfl, (gI_uI_nf (by omega)).trans g4, (gI_uI_nf (by omega)).trans g5, ?_, ?_⟩
        · rw [gI_uI_at]; unfold tkE; rw [if_neg c0, if_neg c1]
        · rw [gI_uI_nf (by omega), g7]; unfold tkV; rw [if_neg (by omega)]
  obtain ⟨w', r1, r2, r3, r4, r5⟩ := main
  have e : fX4_step w = some w' := by
    unfold fX4_step
    rw [lT_eq, q1, r1]
  exact ⟨w', e, r2, r3, r4, r5, qX4_step Sx.rf _ e⟩
theorem CR.adv (C : CR B t k w z) (ht : t ≤ 800) (hf : z.f = 0) : ∃ w', fX4_step w = some w' ∧ CR B t k w' (zt B t 0 z.p z.e) ∧ Sx p3 w w' := by
  obtain ⟨E, I, h0, h1, h4, h5, h6, h7⟩ := C
  obtain ⟨w', q1, q2, q3, q4, q5, q6⟩ := step_ok E ht h6 I.2.2.2.1
  exact ⟨w', q1, ⟨E.of (q6.mono p43), I.adv, (q6 3 0 rfl).1.trans (h0.trans (by rw [hf]; rfl)), (q6 3 1 rfl).1.trans h1, q2, q3, q4, q5⟩, q6.mono p43⟩
theorem CR.fail (C : CR B t k w z) (ht : t ≤ 800) {n : Nat} (hn : n ≤ 3) (hf : z.f = 0) : ∃ w', fX4_fail w (nI n) = some w' ∧ CR B t k w' (errZ n z) ∧ Sx p3 w w' := by
  have I' := C.2.1.err ht hn
  obtain ⟨E, I, h0, h1, h4, h5, h6, h7⟩ := C
  have s1 : Sx p3 w (uI (uI w 3 0 (nI n)) 3 1 (nI z.s)) := ((Sx.rf).uI rfl).uI rfl
  unfold fX4_fail
  unfold errZ at I' ⊢
  rw [if_pos hf] at I' ⊢
  rw [h0, hf, if_pos (show nI 0 = 0 from rfl), lT_eq, gI_uI_nf (show 5 ≠ 0 by omega), h5, lT_eq]
  refine ⟨_, rfl, ⟨E.of s1, I', ?_, ?_, ?_, ?_, ?_, ?_⟩, s1⟩
  · rw [gI_uI_nf (by omega), gI_uI_at]; rfl
  · rw [gI_uI_at]; exact (aI_s _).symm
  · rw [gI_uI_nf (by omega), gI_uI_nf (by omega)]; exact h4
  · rw [gI_uI_nf (by omega), gI_uI_nf (by omega)]; exact h5
  · rw [gI_uI_nf (by omega), gI_uI_nf (by omega)]; exact h6
  · rw [gI_uI_nf (by omega), gI_uI_nf (by omega)]; exact h7
theorem isWord28_L (E : CE B t k w) (ht : t ≤ 800) {q s n : Nat} (hq : q < 13) (hn : n = hlen.getD q 0) (h5 : gI w 3 5 = nI s) (hs : s ≤ 800) : ∀ F i, i ≤ n → n - i < F → (∀ j, j < i → chB B t (s + j) = sCh q (nI j)) → fX4_isWord_28 w q F (nI i) = some (b01 (alB (fun i => decide (chB B t (s + i) = sCh q (nI i))) n)) := by
  have hl := hlen_le q hq
  intro F
  induction F with
  | zero => intro i _ h; omega
  | succ F ih =>
    intro i hi hF hj
    rw [fX4_isWord_28, if_pos (decide_eq_true hq), sLn_ok q hq, ← hn]
    by_cases h : i < n
    · rw [if_pos (nI_lt h (by omega)), h5, nI_add, byteAt_ok E ht (by omega), bI_some, if_pos (by rw [decide_eq_true hq, inB_nI h (by omega)]; rfl)]
      by_cases c : chB B t (s + i) = sCh q (nI i)
      · rw [if_neg (fun y => y c), nI_1]
        exact ih (i + 1) (by omega) (by omega) (fun j hj2 => by
          by_cases e : j = i
          · subst e; exact c
          · exact hj j (by omega))
      · rw [if_pos c]
        have : alB (fun i => decide (chB B t (s + i) = sCh q (nI i))) n = false := by
          cases y : alB (fun i => decide (chB B t (s + i) = sCh q (nI i))) n with
          | false => rfl
          | true => exact absurd (of_decide_eq_true ((alB_iff n).mp y i h)) c
        rw [this]
        rfl
    · have e : i = n := by omega
      rw [if_neg (nI_nlt (by omega) (by omega)), (alB_iff n).mpr (fun j hj2 => decide_eq_true (hj j (by omega)))]
      rfl
theorem CR.isW (C : CR B t k w z) (ht : t ≤ 800) {q : Nat} (hq : q < 13) : fX4_isWord w q = some (b01 (isz B t q z)) := by
  obtain ⟨E, I, h0, h1, h4, h5, h6, h7⟩ := C
  have hl := hlen_le q hq
  have hI := I.2.2.1
  have hI2 := I.2.2.2.1
  have hI3 := I.2.2.2.2.1
  unfold fX4_isWord isz
  rw [h4]
  by_cases c : z.c = 1
  · rw [if_pos (show nI z.c = 1 from congrArg nI c), if_pos (decide_eq_true hq), h5, h6, sLn_ok q hq, nI_subI hI, decide_eq_true c, Bool.true_and]
    by_cases c2 : z.e - z.s = hlen.getD q 0
    · rw [if_neg (fun y => y (congrArg nI c2)), decide_eq_true c2, Bool.true_and]
      exact isWord28_L E ht hq rfl h5 (by omega) FU 0 (Nat.zero_le _) (by rw [FU_eq]; omega) (fun j hj => by omega)
    · rw [if_pos (fun y => c2 ((nI_eqv (by omega) (by omega)).mp y)), decide_eq_false c2, Bool.false_and]
      rfl
  · rw [if_neg (show ¬ nI z.c = 1 from fun y => c ((nI_eqv (b := 1) (by omega) (by omega)).mp y)), decide_eq_false c, Bool.false_and]
    rfl
theorem CR.word (C : CR B t k w z) (ht : t ≤ 800) {q : Nat} (hq : q < 13) : ∃ w', fX4_takeWord w q = some w' ∧ CR B t k w' (wordZ B t q z) ∧ Sx p3 w w' := by
  have h0 := C.2.2.1
  have hf3 := C.2.1.1
  unfold fX4_takeWord wordZ
  rw [h0]
  by_cases hf : z.f = 0
  · rw [if_neg (show ¬ ¬ nI z.f = 0 from fun y => y (congrArg nI hf)), if_pos hf, C.isW ht hq, bI_some, if_b01']
    by_cases c : isz B t q z = true
    · obtain ⟨w', q1, q2, q3⟩ := C.adv ht hf
      rw [if_pos c, if_pos c, q1, bI_some]
      exact ⟨w', rfl, q2, q3⟩
    · obtain ⟨w', q1, q2, q3⟩ := C.fail ht (n := 1) (by omega) hf
      rw [if_neg c, if_neg c, show fX4_fail w 1 = _ from q1, bI_some]
      exact ⟨w', rfl, q2, q3⟩
  · rw [if_pos (show ¬ nI z.f = 0 from fun y => hf ((nI_eqv (b := 0) (by omega) (by omega)).mp y)), if_neg hf]
    exact ⟨w, rfl, C, Sx.rf⟩
theorem aI_ltn {n m : Nat} (hn : n < 2 ^ 31) (hm : m < 2 ^ 31) : aI n < nI m ↔ n ≤ m := by
  cases n with
  | zero => exact ⟨fun _ => Nat.zero_le _, fun _ => neg_lt m hm⟩
  | succ n =>
    rw [aI_s]
    constructor
    · intro h
      apply Nat.lt_of_not_le
      intro z
      exact nI_nlt z (by omega) h
    · intro h; exact nI_lt h hm
theorem CR.num (C : CR B t k w z) (ht : t ≤ 800) {lo n : Nat} (hlo : lo ≤ 900) (hn : n ≤ 900) : ∃ w', fX4_takeNumber w (nI lo) (aI n) = some (nI (numV lo n z), w') ∧ CR B t k w' (numZ B t lo n z) ∧ Sx p3 w w' := by
  have hf3 := C.2.1.1
  have hc4 := C.2.1.2.2.2.2.1
  have h0 := C.2.2.1
  have h4 := C.2.2.2.2.1
  have h7 := C.2.2.2.2.2.2.2
  unfold fX4_takeNumber numZ numV
  rw [h0]
  by_cases hf : z.f = 0
  · rw [if_neg (show ¬ ¬ nI z.f = 0 from fun y => y (congrArg nI hf)), if_pos hf, h4]
    by_cases c : z.c = 2
    · rw [if_neg (show ¬ ¬ nI z.c = 2 from fun y => y (congrArg nI c)), if_pos c, h7]
      have bad : (¬ (lo ≤ z.v ∧ z.v < n)) → ∃ w', (bI (fX4_fail w 2) fun w_8 => some ((0 : Int32), w_8)) = some (nI (if z.f = 0 ∧ z.c = 2 ∧ lo ≤ z.v ∧ z.v < n then z.v else 0), w') ∧ CR B t k w' (if lo ≤ z.v ∧ z.v < n then zt B t 0 z.p z.e else errZ 2 z) ∧ Sx p3 w w' := by
        intro hb
        obtain ⟨w', q1, q2, q3⟩ := C.fail ht (n := 2) (by omega) hf
        rw [if_neg hb, if_neg (fun y => hb y.2.2), show fX4_fail w 2 = _ from q1, bI_some]
        exact ⟨w', rfl, q2, q3⟩
      by_cases c1 : min 1000 z.v < lo
      · rw [if_neg (fun y => y (nI_lt c1 (by omega)))]
        exact bad (by omega)
      · rw [if_pos (nI_nlt (by omega) (by omega))]
        by_cases c2 : n ≤ min 1000 z.v
        · rw [if_pos ((aI_ltn (by omega) (by omega)).mpr c2)]
          exact bad (by omega)
        · have hg : lo ≤ z.v ∧ z.v < n := by omega
          obtain ⟨w', q1, q2, q3⟩ := C.adv ht hf
          rw [if_neg (fun y => c2 ((aI_ltn (by omega) (by omega)).mp y)), lT_eq, q1, bI_some, if_pos hg, if_pos ⟨hf, c, hg⟩, show min 1000 z.v = z.v by omega]
          exact ⟨w', rfl, q2, q3⟩
    · obtain ⟨w', q1, q2, q3⟩ := C.fail ht (n := 1) (by omega) hf
      rw [if_pos (show ¬ nI z.c = 2 from fun y => c ((nI_eqv (b := 2) (by omega) (by omega)).mp y)), if_neg c, show fX4_fail w 1 = _ from q1, bI_some, if_neg (fun y => c y.2.1)]
      exact ⟨w', rfl, q2, q3⟩
  · rw [if_pos (show ¬ nI z.f = 0 from fun y => hf ((nI_eqv (b := 0) (by omega) (by omega)).mp y)), if_neg hf, if_neg (fun y => hf y.1)]
    exact ⟨w, rfl, C, Sx.rf⟩
end CRS
