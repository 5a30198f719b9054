/-! WHAT the reference's planning writes (by program, as part 13) -/
def sp (c f : Nat) : Bool := (Nat.ble 91 c && Nat.ble c 95) || (c == 79 && f == 27)
theorem qX10_layOwn_32 {w0 w : HW} {K5 : HW → Int32 → Option HW} {x1 : Int32} {x2 : Int32} (hK5 : ∀ z0 z1, Sx sp w0 z0 → Fr sp w0 ρW (K5 z0 z1)) (hw : Sx sp w0 w) : Fr sp w0 ρW (fX10_layOwn_32 w K5 x1 x2) := by
  unfold fX10_layOwn_32
  refine fr_if ?_ ?_
  · exact hK5 _ _ hw
  · refine fr_b (fun r_9 => ?_)
    refine fr_b (fun r_11 => ?_)
    refine fr_if ?_ ?_
    · refine fr_uI hw rfl (fun w_14 hw_14 => ?_)
      refine fr_if ?_ ?_
      · refine fr_uI hw_14 rfl (fun w_16 hw_16 => ?_)
        refine fr_uI hw_16 rfl (fun w_17 hw_17 => ?_)
        exact hK5 _ _ hw_17
      · exact fr_none
    · exact fr_none
theorem qX10_layOwn_7 {w0 : HW} {x1 : Int32} : ∀ (n : Nat) (w : HW) (x2 : Int32), Sx sp w0 w → Fr sp w0 ρW (fX10_layOwn_7 x1 n w x2) := by
  intro n
  induction n with
  | zero => intro _ _ _; exact fr_none
  | succ n ih =>
    intro w x2 hw
    rw [fX10_layOwn_7]
    refine fr_if ?_ ?_
    · refine fr_if ?_ ?_
      · refine fr_if ?_ ?_
        · refine fr_b (fun r_5 => ?_)
          refine fr_if ?_ ?_
          · exact qX10_layOwn_32 (fun _ _ hw => ih _ _ hw) hw
          · exact ih _ _ hw
        · exact qX10_layOwn_32 (fun _ _ hw => ih _ _ hw) hw
      · exact fr_retW hw
    · exact fr_none
theorem qX10_layOwn {w0 w : HW} (hw : Sx sp w0 w) (x1 : Int32) : Fr sp w0 ρW (fX10_layOwn w x1) := by
  unfold fX10_layOwn
  refine fr_uI hw rfl (fun w_1 hw_1 => ?_)
  exact qX10_layOwn_7 _ _ _ hw_1
/-! X10_layState -/
theorem qX10_layState_221 {w0 w : HW} {K47 : HW → Int32 → Option HW} {x1 : Int32} {x3 : Int32} {x4 : Int32} {x6 : Int32} {x7 : Int32} {s0 : Int32} {s1 : Int32} {s2 : Int32} (hK47 : ∀ z0 z1, Sx sp w0 z0 → Fr sp w0 ρW (K47 z0 z1)) (hw : Sx sp w0 w) : Fr sp w0 ρW (fX10_layState_221 w K47 x1 x3 x4 x6 x7 s0 s1 s2) := by
  unfold fX10_layState_221
  refine fr_if ?_ ?_
  · refine fr_uI hw rfl (fun w_45 hw_45 => ?_)
    refine fr_if ?_ ?_
    · refine fr_if ?_ ?_
      · refine fr_if ?_ ?_
        · refine fr_uI hw_45 rfl (fun w_49 hw_49 => ?_)
          exact hK47 _ _ hw_49
        · exact fr_none
      · exact fr_none
    · exact fr_none
  · exact fr_none
theorem qX10_layState_171 {w0 w : HW} {K47 : HW → Int32 → Option HW} {x1 : Int32} {x3 : Int32} {x4 : Int32} {x6 : Int32} {x7 : Int32} {x8 : Int32} (hK47 : ∀ z0 z1, Sx sp w0 z0 → Fr sp w0 ρW (K47 z0 z1)) (hw : Sx sp w0 w) : Fr sp w0 ρW (fX10_layState_171 w K47 x1 x3 x4 x6 x7 x8) := by
  unfold fX10_layState_171
  refine fr_if ?_ ?_
  · refine fr_if ?_ ?_
    · refine fr_uI hw rfl (fun w_39 hw_39 => ?_)
      refine fr_if ?_ ?_
      · refine fr_if ?_ ?_
        · refine fr_if ?_ ?_
          · refine fr_if ?_ ?_
            · exact qX10_layState_221 hK47 hw_39
            · exact fr_none
          · exact qX10_layState_221 hK47 hw_39
        · exact fr_none
      · exact fr_none
    · exact fr_none
  · exact fr_none
theorem qX10_layState_78 {w0 : HW} {x1 : Int32} {x3 : Int32} {x4 : Int32} : ∀ (n : Nat) (w : HW) (x6 : Int32), Sx sp w0 w → Fr sp w0 ρW (fX10_layState_78 x1 x3 x4 n w x6) := by
  intro n
  induction n with
  | zero => intro _ _ _; exact fr_none
  | succ n ih =>
    intro w x6 hw
    rw [fX10_layState_78]
    refine fr_if ?_ ?_
    · refine fr_if ?_ ?_
      · refine fr_b (fun r_20 => ?_)
        refine fr_if ?_ ?_
        · refine fr_b (fun r_23 => ?_)
          refine fr_if ?_ ?_
          · exact ih _ _ hw
          · refine fr_b (fun r_26 => ?_)
            refine fr_if ?_ ?_
            · refine fr_b (fun r_29 => ?_)
              refine fr_if ?_ ?_
              · refine fr_l (fun x8_32 => ?_)
                refine fr_if ?_ ?_
                · refine fr_if ?_ ?_
                  · refine fr_if ?_ ?_
                    · refine fr_uI hw rfl (fun w_36 hw_36 => ?_)
                      exact qX10_layState_171 (fun _ _ hw => ih _ _ hw) hw_36
                    · exact fr_none
                  · exact qX10_layState_171 (fun _ _ hw => ih _ _ hw) hw
                · exact fr_none
              · exact fr_none
            · exact fr_none
        · exact ih _ _ hw
      · exact fr_none
    · exact fr_retW hw
theorem qX10_layState {w0 w : HW} (hw : Sx sp w0 w) (x1 : Int32) (x2 : Int32) (x3 : Int32) : Fr sp w0 ρW (fX10_layState w x1 x2 x3) := by
  unfold fX10_layState
  refine fr_b (fun r_1 => ?_)
  refine fr_b (fun r_3 => ?_)
  refine fr_b (fun r_5 => ?_)
  refine fr_if ?_ ?_
  · refine fr_if ?_ ?_
    · refine fr_uI hw rfl (fun w_9 hw_9 => ?_)
      refine fr_if ?_ ?_
      · refine fr_if ?_ ?_
        · refine fr_uI hw_9 rfl (fun w_12 hw_12 => ?_)
          refine fr_if ?_ ?_
          · refine fr_if ?_ ?_
            · refine fr_uI hw_12 rfl (fun w_15 hw_15 => ?_)
              refine fr_if ?_ ?_
              · refine fr_if ?_ ?_
                · exact fr_retW hw_15
                · exact qX10_layState_78 _ _ _ hw_15
              · exact fr_none
            · exact fr_none
          · exact fr_none
        · exact fr_none
      · exact fr_none
    · exact fr_none
  · exact fr_none
/-! X10_layPlans -/
theorem qX10_layPlans_31 {w0 : HW} {K8 : HW → Int32 → Option (Int32 × HW)} {K12 : HW → Int32 → Option (Int32 × HW)} {x2 : Int32} {x3 : Int32} (hK8 : ∀ z0 z1, Sx sp w0 z0 → Fr sp w0 ρIW (K8 z0 z1)) (hK12 : ∀ z0 z1, Sx sp w0 z0 → Fr sp w0 ρIW (K12 z0 z1)) : ∀ (n : Nat) (w : HW) (x4 : Int32), Sx sp w0 w → Fr sp w0 ρIW (fX10_layPlans_31 K8 K12 x2 x3 n w x4) := by
  intro n
  induction n with
  | zero => intro _ _ _; exact fr_none
  | succ n ih =>
    intro w x4 hw
    rw [fX10_layPlans_31]
    refine fr_if ?_ ?_
    · refine fr_if ?_ ?_
      · refine fr_if ?_ ?_
        · refine fr_bw (fun a ha => qX10_layState hw x2 x3 x4 a ha) (fun w_15 hw_15 => ?_)
          exact ih _ _ hw_15
        · refine fr_b (fun r_16 => ?_)
          refine fr_if ?_ ?_
          · refine fr_uI hw rfl (fun w_19 hw_19 => ?_)
            refine fr_b (fun r_20 => ?_)
            refine fr_if ?_ ?_
            · refine fr_uI hw_19 rfl (fun w_23 hw_23 => ?_)
              refine fr_b (fun r_24 => ?_)
              refine fr_if ?_ ?_
              · refine fr_uI hw_23 rfl (fun w_27 hw_27 => ?_)
                exact ih _ _ hw_27
              · exact fr_none
            · exact fr_none
          · exact fr_none
      · exact fr_none
    · exact hK12 _ _ hw
theorem qX10_layPlans_18 {w0 : HW} {K8 : HW → Int32 → Option (Int32 × HW)} {x2 : Int32} (hK8 : ∀ z0 z1, Sx sp w0 z0 → Fr sp w0 ρIW (K8 z0 z1)) : ∀ (n : Nat) (w : HW) (x3 : Int32), Sx sp w0 w → Fr sp w0 ρIW (fX10_layPlans_18 K8 x2 n w x3) := by
  intro n
  induction n with
  | zero => intro _ _ _; exact fr_none
  | succ n ih =>
    intro w x3 hw
    rw [fX10_layPlans_18]
    refine fr_if ?_ ?_
    · refine fr_if ?_ ?_
      · exact qX10_layPlans_31 hK8 (fun _ _ hw => ih _ _ hw) _ _ _ hw
      · exact hK8 _ _ hw
    · exact fr_none
theorem qX10_layPlans_12 {w0 : HW} : ∀ (n : Nat) (w : HW) (x2 : Int32), Sx sp w0 w → Fr sp w0 ρIW (fX10_layPlans_12 n w x2) := by
  intro n
  induction n with
  | zero => intro _ _ _; exact fr_none
  | succ n ih =>
    intro w x2 hw
    rw [fX10_layPlans_12]
    refine fr_if ?_ ?_
    · exact qX10_layPlans_18 (fun _ _ hw => ih _ _ hw) _ _ _ hw
    · refine fr_b (fun r_6 => ?_)
      refine fr_if ?_ ?_
      · exact fr_ret hw
      · exact fr_none
theorem qX10_layPlans {w0 w : HW} (hw : Sx sp w0 w) (x1 : Int32) : Fr sp w0 ρIW (fX10_layPlans w x1) := by
  unfold fX10_layPlans
  refine fr_bw (fun a ha => qX10_layOwn hw x1 a ha) (fun w_2 hw_2 => ?_)
  refine fr_if ?_ ?_
  · refine fr_l (fun x2_4 => ?_)
    exact qX10_layPlans_12 _ _ _ hw_2
  · exact fr_none
/-! X10_plan -/
