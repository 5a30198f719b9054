/-! WHAT IS ONLY SCRATCH, and that most methods write nothing else (by program) -/
def sc (c f : Nat) : Bool := (Nat.ble 4 c && Nat.ble c 18) || (Nat.ble 20 c && Nat.ble c 23) || (Nat.ble 84 c && Nat.ble c 97) || c == 101 || (c == 3 && Nat.ble 2 f) || (c == 79 && (f == 0 || (Nat.ble 7 f && Nat.ble f 11) || f == 20 || f == 22 || f == 27 || f == 33 || f == 35 || f == 36))
/-- outside P nothing differs -/
def Sx (P : Nat → Nat → Bool) (w w' : HW) : Prop := ∀ c f, P c f = false → gI w' c f = gI w c f ∧ gL w' c f = gL w c f ∧ gR w' c f = gR w c f
theorem Sx.rf {P : Nat → Nat → Bool} {w : HW} : Sx P w w := fun _ _ _ => ⟨rfl, rfl, rfl⟩
theorem Sx.tr {P : Nat → Nat → Bool} {w w' w2 : HW} (h : Sx P w w') (h2 : Sx P w' w2) : Sx P w w2 := fun c f hp => ⟨(h2 c f hp).1.trans (h c f hp).1, (h2 c f hp).2.1.trans (h c f hp).2.1, (h2 c f hp).2.2.trans (h c f hp).2.2⟩
theorem Sx.mono {P Q : Nat → Nat → Bool} {w w' : HW} (h : Sx P w w') (hpq : ∀ c f, Q c f = false → P c f = false) : Sx Q w w' := fun c f hq => h c f (hpq c f hq)
theorem Sx.uI {P : Nat → Nat → Bool} {w w' : HW} (h : Sx P w w') {c f : Nat} {v : Int32} (hp : P c f = true) : Sx P w (uI w' c f v) := fun a b hab => by
  obtain ⟨h1, h2, h3⟩ := h a b hab
  rw [gI_uI, gL_uI, gR_uI, if_neg (fun e => by rw [e.1, e.2, hp] at hab; cases hab)]
  exact ⟨h1, h2, h3⟩
theorem Sx.uL {P : Nat → Nat → Bool} {w w' : HW} (h : Sx P w w') {c f : Nat} {v : Int64} (hp : P c f = true) : Sx P w (uL w' c f v) := fun a b hab => by
  obtain ⟨h1, h2, h3⟩ := h a b hab
  rw [gI_uL, gL_uL, gR_uL, if_neg (fun e => by rw [e.1, e.2, hp] at hab; cases hab)]
  exact ⟨h1, h2, h3⟩
theorem Sx.uR {P : Nat → Nat → Bool} {w w' : HW} (h : Sx P w w') {c f : Nat} {v : Nat} (hp : P c f = true) : Sx P w (uR w' c f v) := fun a b hab => by
  obtain ⟨h1, h2, h3⟩ := h a b hab
  rw [gI_uR, gL_uR, gR_uR, if_neg (fun e => by rw [e.1, e.2, hp] at hab; cases hab)]
  exact ⟨h1, h2, h3⟩
def Fr {α : Type} (P : Nat → Nat → Bool) (w : HW) (ρ : α → Option Value × HW) (X : Option α) : Prop := ∀ a, X = some a → Sx P w (ρ a).2
section FRS
variable {α β : Type} {P : Nat → Nat → Bool} {w w1 : HW} {ρ : α → Option Value × HW} {X Y : Option α}
theorem fr_none : Fr P w ρ none := fun _ h => by cases h
theorem fr_if {c : Prop} [Decidable c] (h1 : Fr P w ρ X) (h2 : Fr P w ρ Y) : Fr P w ρ (if c then X else Y) := by
  by_cases h : c
  · rw [if_pos h]; exact h1
  · rw [if_neg h]; exact h2
theorem fr_l {e : β} {k : β → Option α} (h : ∀ x, Fr P w ρ (k x)) : Fr P w ρ (lT e k) := h e
theorem fr_uI {c f : Nat} {v : Int32} {k : HW → Option α} (h : Sx P w w1) (hp : P c f = true) (hk : ∀ w2, Sx P w w2 → Fr P w ρ (k w2)) : Fr P w ρ (lT (uI w1 c f v) k) := hk _ (h.uI hp)
theorem fr_uL {c f : Nat} {v : Int64} {k : HW → Option α} (h : Sx P w w1) (hp : P c f = true) (hk : ∀ w2, Sx P w w2 → Fr P w ρ (k w2)) : Fr P w ρ (lT (uL w1 c f v) k) := hk _ (h.uL hp)
theorem fr_uR {c f : Nat} {v : Nat} {k : HW → Option α} (h : Sx P w w1) (hp : P c f = true) (hk : ∀ w2, Sx P w w2 → Fr P w ρ (k w2)) : Fr P w ρ (lT (uR w1 c f v) k) := hk _ (h.uR hp)
theorem fr_b {f : Option β} {k : β → Option α} (hk : ∀ r, Fr P w ρ (k r)) : Fr P w ρ (bI f k) := by
  cases f with
  | none => exact fr_none
  | some r => exact hk r
theorem fr_bw {f : Option HW} {k : HW → Option α} (hf : ∀ a, f = some a → Sx P w a) (hk : ∀ w2, Sx P w w2 → Fr P w ρ (k w2)) : Fr P w ρ (bI f k) := by
  cases f with
  | none => exact fr_none
  | some r => exact hk r (hf r rfl)
theorem fr_bW {f : Option (β × HW)} {k : β → HW → Option α} (hf : ∀ a, f = some a → Sx P w a.2) (hk : ∀ r w2, Sx P w w2 → Fr P w ρ (k r w2)) : Fr P w ρ (bW f k) := by
  cases f with
  | none => exact fr_none
  | some r => exact hk r.1 r.2 (hf r rfl)
theorem fr_retW {x : HW} (h : Sx P w x) : Fr P w ρW (some x) := fun a ha => by cases ha; exact h
end FRS
theorem fr_ret {P : Nat → Nat → Bool} {w w1 : HW} {r : Int32} (h : Sx P w w1) : Fr P w ρIW (some (r, w1)) := fun a ha => by cases ha; exact h
theorem fr_retL {P : Nat → Nat → Bool} {w w1 : HW} {r : Int64} (h : Sx P w w1) : Fr P w ρLW (some (r, w1)) := fun a ha => by cases ha; exact h
/-! X4_step -/
theorem rX4_step_172 {w0 w : HW} {K45 : HW → Int32 → Option HW} (hK45 : ∀ z0 z1, Sx sc w0 z0 → Fr sc w0 ρW (K45 z0 z1)) (hw : Sx sc w0 w) : Fr sc w0 ρW (fX4_step_172 w K45) := by
  unfold fX4_step_172
  refine fr_b (fun r_28 => ?_)
  refine fr_b (fun r_30 => ?_)
  refine fr_if ?_ ?_
  · exact hK45 _ _ hw
  · exact hK45 _ _ hw
theorem rX4_step_146 {w0 w : HW} {K45 : HW → Int32 → Option HW} (hK45 : ∀ z0 z1, Sx sc w0 z0 → Fr sc w0 ρW (K45 z0 z1)) (hw : Sx sc w0 w) : Fr sc w0 ρW (fX4_step_146 w K45) := by
  unfold fX4_step_146
  refine fr_uI hw rfl (fun w_25 hw_25 => ?_)
  refine fr_if ?_ ?_
  · refine fr_if ?_ ?_
    · exact rX4_step_172 hK45 hw_25
    · exact hK45 _ _ hw_25
  · exact rX4_step_172 hK45 hw_25
theorem rX4_step_91 {w0 : HW} : ∀ (n : Nat) (w : HW) (x1 : Int32), Sx sc w0 w → Fr sc w0 ρW (fX4_step_91 n w x1) := by
  intro n
  induction n with
  | zero => intro _ _ _; exact fr_none
  | succ n ih =>
    intro w x1 hw
    rw [fX4_step_91]
    refine fr_if ?_ ?_
    · refine fr_if ?_ ?_
      · refine fr_if ?_ ?_
        · refine fr_if ?_ ?_
          · refine fr_b (fun r_22 => ?_)
            refine fr_uI hw rfl (fun w_24 hw_24 => ?_)
            exact rX4_step_146 (fun _ _ hw => ih _ _ hw) hw_24
          · exact rX4_step_146 (fun _ _ hw => ih _ _ hw) hw
        · exact fr_retW hw
      · exact fr_none
    · exact fr_retW hw
theorem rX4_step_50 {w0 w : HW} (hw : Sx sc w0 w) : Fr sc w0 ρW (fX4_step_50 w) := by
  unfold fX4_step_50
  refine fr_uI hw rfl (fun w_10 hw_10 => ?_)
  refine fr_b (fun r_11 => ?_)
  refine fr_b (fun r_13 => ?_)
  refine fr_uI hw_10 rfl (fun w_15 hw_15 => ?_)
  refine fr_uI hw_15 rfl (fun w_16 hw_16 => ?_)
  refine fr_if ?_ ?_
  · exact rX4_step_91 _ _ _ hw_16
  · exact rX4_step_91 _ _ _ hw_16
theorem rX4_step_8 {w0 : HW} : ∀ (n : Nat) (w : HW), Sx sc w0 w → Fr sc w0 ρW (fX4_step_8 n w) := by
  intro n
  induction n with
  | zero => intro _ _; exact fr_none
  | succ n ih =>
    intro w hw
    rw [fX4_step_8]
    refine fr_if ?_ ?_
    · refine fr_if ?_ ?_
      · refine fr_b (fun r_4 => ?_)
        refine fr_b (fun r_6 => ?_)
        refine fr_if ?_ ?_
        · refine fr_uI hw rfl (fun w_9 hw_9 => ?_)
          exact ih _ hw_9
        · exact rX4_step_50 hw
      · exact rX4_step_50 hw
    · exact fr_none
theorem rX4_step {w0 w : HW} (hw : Sx sc w0 w) : Fr sc w0 ρW (fX4_step w) := by
  unfold fX4_step
  refine fr_uI hw rfl (fun w_1 hw_1 => ?_)
  exact rX4_step_8 _ _ hw_1
/-! X6_layOut -/
theorem rX6_layOut_86 {w0 : HW} {k1 : Nat} : ∀ (n : Nat) (w : HW) (x2 : Int32), Sx sc w0 w → Fr sc w0 ρW (fX6_layOut_86 k1 n w x2) := by
  intro n
  induction n with
  | zero => intro _ _ _; exact fr_none
  | succ n ih =>
    intro w x2 hw
    rw [fX6_layOut_86]
    refine fr_if ?_ ?_
    · refine fr_if ?_ ?_
      · refine fr_l (fun x3_22 => ?_)
        refine fr_if ?_ ?_
        · refine fr_if ?_ ?_
          · refine fr_if ?_ ?_
            · refine fr_uI hw rfl (fun w_26 hw_26 => ?_)
              exact ih _ _ hw_26
            · exact fr_none
          · refine fr_if ?_ ?_
            · refine fr_uI hw rfl (fun w_28 hw_28 => ?_)
              exact ih _ _ hw_28
            · exact fr_none
        · exact fr_none
      · exact fr_none
    · exact fr_retW hw
theorem rX6_layOut_51 {w0 : HW} {k1 : Nat} : ∀ (n : Nat) (w : HW) (x2 : Int32), Sx sc w0 w → Fr sc w0 ρW (fX6_layOut_51 k1 n w x2) := by
  intro n
  induction n with
  | zero => intro _ _ _; exact fr_none
  | succ n ih =>
    intro w x2 hw
    rw [fX6_layOut_51]
    refine fr_if ?_ ?_
    · refine fr_if ?_ ?_
      · refine fr_uI hw rfl (fun w_15 hw_15 => ?_)
        refine fr_if ?_ ?_
        · refine fr_uI hw_15 rfl (fun w_17 hw_17 => ?_)
          refine fr_if ?_ ?_
          · refine fr_uI hw_17 rfl (fun w_19 hw_19 => ?_)
            exact ih _ _ hw_19
          · exact fr_none
        · exact fr_none
      · exact fr_none
    · exact rX6_layOut_86 _ _ _ hw
theorem rX6_layOut_29 {w0 : HW} {k1 : Nat} : ∀ (n : Nat) (w : HW) (x2 : Int32), Sx sc w0 w → Fr sc w0 ρW (fX6_layOut_29 k1 n w x2) := by
  intro n
  induction n with
  | zero => intro _ _ _; exact fr_none
  | succ n ih =>
    intro w x2 hw
    rw [fX6_layOut_29]
    refine fr_if ?_ ?_
    · refine fr_if ?_ ?_
      · refine fr_uI hw rfl (fun w_12 hw_12 => ?_)
        exact ih _ _ hw_12
      · exact fr_none
    · exact rX6_layOut_51 _ _ _ hw
theorem rX6_layOut {w0 w : HW} (hw : Sx sc w0 w) (k1 : Nat) : Fr sc w0 ρW (fX6_layOut w k1) := by
  unfold fX6_layOut
  refine fr_uI hw rfl (fun w_1 hw_1 => ?_)
  refine fr_b (fun r_2 => ?_)
  refine fr_if ?_ ?_
  · refine fr_uI hw_1 rfl (fun w_5 hw_5 => ?_)
    refine fr_b (fun r_6 => ?_)
    refine fr_if ?_ ?_
    · refine fr_uI hw_5 rfl (fun w_9 hw_9 => ?_)
      exact rX6_layOut_29 _ _ _ hw_9
    · exact fr_none
  · exact fr_none
/-! X6_nextDraw -/
theorem rX6_nextDraw {w0 w : HW} (hw : Sx sc w0 w) : Fr sc w0 ρIW (fX6_nextDraw w) := by
  unfold fX6_nextDraw
  refine fr_uI hw rfl (fun w_1 hw_1 => ?_)
  refine fr_uL hw_1 rfl (fun w_2 hw_2 => ?_)
  exact fr_ret hw_2
/-! X6_settle -/
theorem rX6_settle {w0 w : HW} (hw : Sx sc w0 w) (k1 : Nat) (x2 : Int32) (x3 : Int32) (x4 : Int32) : Fr sc w0 ρW (fX6_settle w k1 x2 x3 x4) := by
  unfold fX6_settle
  refine fr_if ?_ ?_
  · refine fr_uI hw rfl (fun w_2 hw_2 => ?_)
    refine fr_b (fun r_3 => ?_)
    refine fr_if ?_ ?_
    · refine fr_uI hw_2 rfl (fun w_6 hw_6 => ?_)
      refine fr_if ?_ ?_
      · refine fr_if ?_ ?_
        · refine fr_if ?_ ?_
          · refine fr_uI hw_6 rfl (fun w_10 hw_10 => ?_)
            exact fr_retW hw_10
          · exact fr_none
        · exact fr_retW hw_6
      · exact fr_none
    · exact fr_none
  · exact fr_none
/-! X6_live -/
theorem rX6_live_97 {w0 w : HW} {K8 : HW → Int32 → Int32 → Option HW} {k1 : Nat} {x2 : Int32} {x3 : Int32} {x4 : Int32} {x5 : Int32} (hK8 : ∀ z0 z1 z2, Sx sc w0 z0 → Fr sc w0 ρW (K8 z0 z1 z2)) (hw : Sx sc w0 w) : Fr sc w0 ρW (fX6_live_97 w K8 k1 x2 x3 x4 x5) := by
  unfold fX6_live_97
  refine fr_if ?_ ?_
  · refine fr_l (fun x3_25 => ?_)
    exact hK8 _ _ _ hw
  · exact hK8 _ _ _ hw
theorem rX6_live_57 {w0 w : HW} {K8 : HW → Int32 → Int32 → Option HW} {k1 : Nat} {x2 : Int32} {x3 : Int32} {x4 : Int32} {x5 : Int32} {s0 : Int32} (hK8 : ∀ z0 z1 z2, Sx sc w0 z0 → Fr sc w0 ρW (K8 z0 z1 z2)) (hw : Sx sc w0 w) : Fr sc w0 ρW (fX6_live_57 w K8 k1 x2 x3 x4 x5 s0) := by
  unfold fX6_live_57
  refine fr_if ?_ ?_
  · refine fr_if ?_ ?_
    · refine fr_bW (fun a ha => rX6_nextDraw hw a ha) (fun r_13 w_14 hw_14 => ?_)
      refine fr_if ?_ ?_
      · refine fr_bw (fun a ha => rX6_settle hw_14 k1 x5 x4 1 a ha) (fun w_17 hw_17 => ?_)
        exact rX6_live_97 hK8 hw_17
      · refine fr_bw (fun a ha => rX6_settle hw_14 k1 x5 x4 0 a ha) (fun w_19 hw_19 => ?_)
        exact rX6_live_97 hK8 hw_19
    · refine fr_bw (fun a ha => rX6_settle hw k1 x5 x4 s0 a ha) (fun w_21 hw_21 => ?_)
      exact rX6_live_97 hK8 hw_21
  · refine fr_bw (fun a ha => rX6_settle hw k1 x5 x4 s0 a ha) (fun w_23 hw_23 => ?_)
    exact rX6_live_97 hK8 hw_23
theorem rX6_live_13 {w0 : HW} {k1 : Nat} {x2 : Int32} : ∀ (n : Nat) (w : HW) (x3 : Int32) (x4 : Int32), Sx sc w0 w → Fr sc w0 ρW (fX6_live_13 k1 x2 n w x3 x4) := by
  intro n
  induction n with
  | zero => intro _ _ _ _; exact fr_none
  | succ n ih =>
    intro w x3 x4 hw
    rw [fX6_live_13]
    refine fr_if ?_ ?_
    · refine fr_if ?_ ?_
      · refine fr_uI hw rfl (fun w_6 hw_6 => ?_)
        refine fr_if ?_ ?_
        · refine fr_l (fun x5_8 => ?_)
          refine fr_if ?_ ?_
          · refine fr_if ?_ ?_
            · exact rX6_live_57 (fun _ _ _ hw => ih _ _ _ hw) hw_6
            · exact rX6_live_57 (fun _ _ _ hw => ih _ _ _ hw) hw_6
          · exact rX6_live_97 (fun _ _ _ hw => ih _ _ _ hw) hw_6
        · exact fr_none
      · exact fr_none
    · exact fr_retW hw
theorem rX6_live {w0 w : HW} (hw : Sx sc w0 w) (k1 : Nat) (x2 : Int32) : Fr sc w0 ρW (fX6_live w k1 x2) := by
  unfold fX6_live
  refine fr_bw (fun a ha => rX6_layOut hw k1 a ha) (fun w_2 hw_2 => ?_)
  refine fr_l (fun x3_3 => ?_)
  exact rX6_live_13 _ _ _ _ hw_2
/-! X6_play -/
theorem rX6_play {w0 w : HW} (hw : Sx sc w0 w) (k1 : Nat) : Fr sc w0 ρW (fX6_play w k1) := by
  unfold fX6_play
  refine fr_bw (fun a ha => rX6_live hw k1 0 a ha) (fun w_2 hw_2 => ?_)
  exact fr_retW hw_2
/-! X9_hunger -/
theorem rX9_hunger {w0 w : HW} (hw : Sx sc w0 w) (x1 : Int32) : Fr sc w0 ρIW (fX9_hunger w x1) := by
  unfold fX9_hunger
  refine fr_l (fun j_1 => ?_)
  refine fr_if ?_ ?_
  · refine fr_b (fun r_2 => ?_)
    refine fr_if ?_ ?_
    · exact fr_ret hw
    · refine fr_l (fun j_5 => ?_)
      refine fr_if ?_ ?_
      · refine fr_bw (fun a ha => rX6_play hw j_5 a ha) (fun w_7 hw_7 => ?_)
        refine fr_if ?_ ?_
        · exact fr_ret hw_7
        · exact fr_none
      · exact fr_none
  · exact fr_none
/-! X9_eat -/
theorem rX9_eat_28 {w0 : HW} : ∀ (n : Nat) (w : HW) (x1 : Int32) (x2 : Int32), Sx sc w0 w → Fr sc w0 ρIW (fX9_eat_28 n w x1 x2) := by
  intro n
  induction n with
  | zero => intro _ _ _ _; exact fr_none
  | succ n ih =>
    intro w x1 x2 hw
    rw [fX9_eat_28]
    refine fr_l (fun j_8 => ?_)
    refine fr_if ?_ ?_
    · refine fr_if ?_ ?_
      · refine fr_if ?_ ?_
        · refine fr_l (fun j_11 => ?_)
          refine fr_if ?_ ?_
          · refine fr_if ?_ ?_
            · refine fr_l (fun x1_13 => ?_)
              exact ih _ _ _ hw
            · exact ih _ _ _ hw
          · exact fr_none
        · exact fr_none
      · exact fr_ret hw
    · exact fr_none
theorem rX9_eat {w0 w : HW} (hw : Sx sc w0 w) : Fr sc w0 ρIW (fX9_eat w) := by
  unfold fX9_eat
  refine fr_l (fun j_1 => ?_)
  refine fr_if ?_ ?_
  · refine fr_b (fun r_2 => ?_)
    refine fr_if ?_ ?_
    · exact fr_ret hw
    · refine fr_l (fun j_5 => ?_)
      refine fr_if ?_ ?_
      · refine fr_bw (fun a ha => rX6_play hw j_5 a ha) (fun w_7 hw_7 => ?_)
        exact rX9_eat_28 _ _ _ _ hw_7
      · exact fr_none
  · exact fr_none
/-! X9_open -/
theorem rX9_open_43 {w0 : HW} {K16 : HW → Int32 → Int32 → Option (Int32 × HW)} {x1 : Int32} {x3 : Int32} (hK16 : ∀ z0 z1 z2, Sx sc w0 z0 → Fr sc w0 ρIW (K16 z0 z1 z2)) : ∀ (n : Nat) (w : HW) (x2 : Int32) (x4 : Int32), Sx sc w0 w → Fr sc w0 ρIW (fX9_open_43 K16 x1 x3 n w x2 x4) := by
  intro n
  induction n with
  | zero => intro _ _ _ _; exact fr_none
  | succ n ih =>
    intro w x2 x4 hw
    rw [fX9_open_43]
    refine fr_l (fun j_10 => ?_)
    refine fr_if ?_ ?_
    · refine fr_if ?_ ?_
      · refine fr_l (fun j_12 => ?_)
        refine fr_if ?_ ?_
        · refine fr_if ?_ ?_
          · refine fr_if ?_ ?_
            · refine fr_l (fun j_15 => ?_)
              refine fr_if ?_ ?_
              · refine fr_b (fun r_16 => ?_)
                refine fr_if ?_ ?_
                · refine fr_l (fun x2_19 => ?_)
                  exact ih _ _ _ hw
                · exact ih _ _ _ hw
              · exact fr_none
            · exact ih _ _ _ hw
          · exact fr_none
        · exact fr_none
      · exact hK16 _ _ _ hw
    · exact fr_none
theorem rX9_open_29 {w0 : HW} {x1 : Int32} : ∀ (n : Nat) (w : HW) (x2 : Int32) (x3 : Int32), Sx sc w0 w → Fr sc w0 ρIW (fX9_open_29 x1 n w x2 x3) := by
  intro n
  induction n with
  | zero => intro _ _ _ _; exact fr_none
  | succ n ih =>
    intro w x2 x3 hw
    rw [fX9_open_29]
    refine fr_l (fun j_8 => ?_)
    refine fr_if ?_ ?_
    · refine fr_if ?_ ?_
      · exact rX9_open_43 (fun _ _ _ hw => ih _ _ _ hw) _ _ _ _ hw
      · exact fr_ret hw
    · exact fr_none
theorem rX9_open {w0 w : HW} (hw : Sx sc w0 w) (x1 : Int32) : Fr sc w0 ρIW (fX9_open w x1) := by
  unfold fX9_open
  refine fr_l (fun j_1 => ?_)
  refine fr_if ?_ ?_
  · refine fr_b (fun r_2 => ?_)
    refine fr_if ?_ ?_
    · exact fr_ret hw
    · refine fr_l (fun j_5 => ?_)
      refine fr_if ?_ ?_
      · refine fr_bw (fun a ha => rX6_play hw j_5 a ha) (fun w_7 hw_7 => ?_)
        exact rX9_open_29 _ _ _ _ hw_7
      · exact fr_none
  · exact fr_none
/-! X9_best -/
theorem rX9_best_32 {w0 : HW} {x1 : Int32} : ∀ (n : Nat) (w : HW) (x2 : Int32) (x3 : Int32) (x4 : Int32), Sx sc w0 w → Fr sc w0 ρIW (fX9_best_32 x1 n w x2 x3 x4) := by
  intro n
  induction n with
  | zero => intro _ _ _ _ _; exact fr_none
  | succ n ih =>
    intro w x2 x3 x4 hw
    rw [fX9_best_32]
    refine fr_l (fun j_8 => ?_)
    refine fr_if ?_ ?_
    · refine fr_if ?_ ?_
      · refine fr_l (fun j_10 => ?_)
        refine fr_if ?_ ?_
        · refine fr_if ?_ ?_
          · refine fr_if ?_ ?_
            · refine fr_l (fun j_13 => ?_)
              refine fr_if ?_ ?_
              · refine fr_b (fun r_14 => ?_)
                refine fr_if ?_ ?_
                · refine fr_l (fun j_17 => ?_)
                  refine fr_if ?_ ?_
                  · refine fr_if ?_ ?_
                    · refine fr_l (fun x3_19 => ?_)
                      exact ih _ _ _ _ hw
                    · exact fr_none
                  · exact fr_none
                · exact ih _ _ _ _ hw
              · exact fr_none
            · exact ih _ _ _ _ hw
          · exact fr_none
        · exact fr_none
      · exact fr_ret hw
    · exact fr_none
theorem rX9_best {w0 w : HW} (hw : Sx sc w0 w) (x1 : Int32) : Fr sc w0 ρIW (fX9_best w x1) := by
  unfold fX9_best
  refine fr_l (fun j_1 => ?_)
  refine fr_if ?_ ?_
  · refine fr_b (fun r_2 => ?_)
    refine fr_if ?_ ?_
    · exact fr_ret hw
    · refine fr_l (fun j_5 => ?_)
      refine fr_if ?_ ?_
      · refine fr_bw (fun a ha => rX6_play hw j_5 a ha) (fun w_7 hw_7 => ?_)
        exact rX9_best_32 _ _ _ _ _ hw_7
      · exact fr_none
  · exact fr_none
/-! X9_first -/
theorem rX9_first {w0 w : HW} (hw : Sx sc w0 w) (x1 : Int32) : Fr sc w0 ρIW (fX9_first w x1) := by
  unfold fX9_first
  refine fr_l (fun j_1 => ?_)
  refine fr_if ?_ ?_
  · refine fr_b (fun r_2 => ?_)
    refine fr_if ?_ ?_
    · exact fr_ret hw
    · refine fr_l (fun j_5 => ?_)
      refine fr_if ?_ ?_
      · refine fr_bw (fun a ha => rX6_play hw j_5 a ha) (fun w_7 hw_7 => ?_)
        refine fr_b (fun r_8 => ?_)
        refine fr_if ?_ ?_
        · refine fr_l (fun j_11 => ?_)
          refine fr_if ?_ ?_
          · exact fr_ret hw_7
          · exact fr_none
        · refine fr_l (fun j_12 => ?_)
          refine fr_if ?_ ?_
          · refine fr_if ?_ ?_
            · exact fr_ret hw_7
            · exact fr_ret hw_7
          · exact fr_none
      · exact fr_none
  · exact fr_none
/-! X9_passed -/
theorem rX9_passed {w0 w : HW} (hw : Sx sc w0 w) (x1 : Int32) : Fr sc w0 ρIW (fX9_passed w x1) := by
  unfold fX9_passed
  refine fr_l (fun j_1 => ?_)
  refine fr_if ?_ ?_
  · refine fr_b (fun r_2 => ?_)
    refine fr_if ?_ ?_
    · exact fr_ret hw
    · refine fr_l (fun j_5 => ?_)
      refine fr_if ?_ ?_
      · refine fr_bw (fun a ha => rX6_play hw j_5 a ha) (fun w_7 hw_7 => ?_)
        refine fr_l (fun j_8 => ?_)
        refine fr_if ?_ ?_
        · refine fr_b (fun r_9 => ?_)
          exact fr_ret hw_7
        · exact fr_none
      · exact fr_none
  · exact fr_none
/-! X9_when -/
theorem rX9_when {w0 w : HW} (hw : Sx sc w0 w) (x1 : Int32) : Fr sc w0 ρIW (fX9_when w x1) := by
  unfold fX9_when
  refine fr_l (fun j_1 => ?_)
  refine fr_if ?_ ?_
  · refine fr_b (fun r_2 => ?_)
    refine fr_if ?_ ?_
    · exact fr_ret hw
    · refine fr_l (fun j_5 => ?_)
      refine fr_if ?_ ?_
      · refine fr_bw (fun a ha => rX6_play hw j_5 a ha) (fun w_7 hw_7 => ?_)
        refine fr_if ?_ ?_
        · exact fr_ret hw_7
        · exact fr_none
      · exact fr_none
  · exact fr_none
/-! X9_why -/
theorem rX9_why {w0 w : HW} (hw : Sx sc w0 w) (x1 : Int32) : Fr sc w0 ρIW (fX9_why w x1) := by
  unfold fX9_why
  refine fr_l (fun j_1 => ?_)
  refine fr_if ?_ ?_
  · refine fr_b (fun r_2 => ?_)
    refine fr_if ?_ ?_
    · exact fr_ret hw
    · refine fr_l (fun j_5 => ?_)
      refine fr_if ?_ ?_
      · refine fr_bw (fun a ha => rX6_play hw j_5 a ha) (fun w_7 hw_7 => ?_)
        refine fr_if ?_ ?_
        · exact fr_ret hw_7
        · exact fr_none
      · exact fr_none
  · exact fr_none
/-! X9_worth -/
theorem rX9_worth {w0 w : HW} (hw : Sx sc w0 w) (x1 : Int32) : Fr sc w0 ρIW (fX9_worth w x1) := by
  unfold fX9_worth
  refine fr_l (fun j_1 => ?_)
  refine fr_if ?_ ?_
  · refine fr_b (fun r_2 => ?_)
    refine fr_if ?_ ?_
    · exact fr_ret hw
    · refine fr_l (fun j_5 => ?_)
      refine fr_if ?_ ?_
      · refine fr_bw (fun a ha => rX6_play hw j_5 a ha) (fun w_7 hw_7 => ?_)
        refine fr_l (fun j_8 => ?_)
        refine fr_if ?_ ?_
        · refine fr_l (fun j_9 => ?_)
          refine fr_if ?_ ?_
          · refine fr_b (fun r_10 => ?_)
            refine fr_l (fun j_12 => ?_)
            refine fr_if ?_ ?_
            · refine fr_b (fun r_13 => ?_)
              refine fr_b (fun r_15 => ?_)
              exact fr_ret hw_7
            · exact fr_none
          · exact fr_none
        · exact fr_none
      · exact fr_none
  · exact fr_none
/-! X3_billsByWorth -/
theorem rX3_billsByWorth_2 {w0 : HW} {k1 : Nat} : ∀ (n : Nat) (w : HW) (x2 : Int32), Sx sc w0 w → Fr sc w0 ρW (fX3_billsByWorth_2 k1 n w x2) := by
  intro n
  induction n with
  | zero => intro _ _ _; exact fr_none
  | succ n ih =>
    intro w x2 hw
    rw [fX3_billsByWorth_2]
    refine fr_if ?_ ?_
    · refine fr_if ?_ ?_
      · refine fr_if ?_ ?_
        · refine fr_uI hw rfl (fun w_4 hw_4 => ?_)
          exact ih _ _ hw_4
        · exact fr_none
      · exact fr_none
    · exact fr_retW hw
theorem rX3_billsByWorth {w0 w : HW} (hw : Sx sc w0 w) (k1 : Nat) : Fr sc w0 ρW (fX3_billsByWorth w k1) := by
  unfold fX3_billsByWorth
  exact rX3_billsByWorth_2 _ _ _ hw
/-! X3_openBill -/
theorem rX3_openBill_2 {w0 : HW} {x1 : Int32} {x2 : Int32} : ∀ (n : Nat) (w : HW) (x3 : Int32), Sx sc w0 w → Fr sc w0 ρW (fX3_openBill_2 x1 x2 n w x3) := by
  intro n
  induction n with
  | zero => intro _ _ _; exact fr_none
  | succ n ih =>
    intro w x3 hw
    rw [fX3_openBill_2]
    refine fr_if ?_ ?_
    · refine fr_b (fun r_2 => ?_)
      refine fr_if ?_ ?_
      · refine fr_if ?_ ?_
        · refine fr_if ?_ ?_
          · refine fr_uI hw rfl (fun w_7 hw_7 => ?_)
            exact ih _ _ hw_7
          · exact fr_none
        · exact fr_none
      · exact ih _ _ hw
    · exact fr_retW hw
theorem rX3_openBill {w0 w : HW} (hw : Sx sc w0 w) (x1 : Int32) (x2 : Int32) : Fr sc w0 ρW (fX3_openBill w x1 x2) := by
  unfold fX3_openBill
  exact rX3_openBill_2 _ _ _ hw
/-! X3_settle -/
theorem rX3_settle_172 {w0 w : HW} {x3 : Int32} {x5 : Int32} {x6 : Int32} (hw : Sx sc w0 w) : Fr sc w0 ρW (fX3_settle_172 w x3 x5 x6) := by
  unfold fX3_settle_172
  refine fr_if ?_ ?_
  · refine fr_uI hw rfl (fun w_23 hw_23 => ?_)
    refine fr_if ?_ ?_
    · refine fr_uI hw_23 rfl (fun w_25 hw_25 => ?_)
      exact fr_retW hw_25
    · exact fr_none
  · exact fr_none
theorem rX3_settle_147 {w0 w : HW} {K41 : HW → Int32 → Int32 → Int32 → Option HW} {x2 : Int32} {x3 : Int32} {x4 : Int32} {x5 : Int32} {x6 : Int32} {x7 : Int32} {x8 : Int32} {x9 : Int32} {x10 : Int32} (hK41 : ∀ z0 z1 z2 z3, Sx sc w0 z0 → Fr sc w0 ρW (K41 z0 z1 z2 z3)) (hw : Sx sc w0 w) : Fr sc w0 ρW (fX3_settle_147 w K41 x2 x3 x4 x5 x6 x7 x8 x9 x10) := by
  unfold fX3_settle_147
  refine fr_if ?_ ?_
  · refine fr_if ?_ ?_
    · refine fr_l (fun x6_21 => ?_)
      exact hK41 _ _ _ _ hw
    · exact fr_none
  · exact hK41 _ _ _ _ hw
theorem rX3_settle_66 {w0 : HW} {x2 : Int32} {x3 : Int32} {x4 : Int32} {x7 : Int32} : ∀ (n : Nat) (w : HW) (x5 : Int32) (x6 : Int32) (x8 : Int32), Sx sc w0 w → Fr sc w0 ρW (fX3_settle_66 x2 x3 x4 x7 n w x5 x6 x8) := by
  intro n
  induction n with
  | zero => intro _ _ _ _ _; exact fr_none
  | succ n ih =>
    intro w x5 x6 x8 hw
    rw [fX3_settle_66]
    refine fr_if ?_ ?_
    · refine fr_if ?_ ?_
      · refine fr_if ?_ ?_
        · refine fr_if ?_ ?_
          · refine fr_if ?_ ?_
            · exact ih _ _ _ _ hw
            · refine fr_l (fun x9_14 => ?_)
              refine fr_if ?_ ?_
              · refine fr_if ?_ ?_
                · refine fr_l (fun x10_17 => ?_)
                  refine fr_if ?_ ?_
                  · exact rX3_settle_147 (fun _ _ _ _ hw => ih _ _ _ _ hw) hw
                  · exact rX3_settle_147 (fun _ _ _ _ hw => ih _ _ _ _ hw) hw
                · exact fr_none
              · exact fr_none
          · exact fr_none
        · exact ih _ _ _ _ hw
      · exact rX3_settle_172 hw
    · exact rX3_settle_172 hw
theorem rX3_settle {w0 w : HW} (hw : Sx sc w0 w) (x1 : Int32) (x2 : Int32) : Fr sc w0 ρW (fX3_settle w x1 x2) := by
  unfold fX3_settle
  refine fr_l (fun x3_1 => ?_)
  refine fr_l (fun x4_2 => ?_)
  refine fr_if ?_ ?_
  · refine fr_l (fun x5_4 => ?_)
    refine fr_if ?_ ?_
    · refine fr_l (fun x6_6 => ?_)
      refine fr_if ?_ ?_
      · refine fr_l (fun x7_8 => ?_)
        exact rX3_settle_66 _ _ _ _ _ hw
      · exact fr_none
    · exact fr_none
  · exact fr_none
/-! X3_goBack -/
theorem rX3_goBack_64 {w0 : HW} {K32 : HW → Int32 → Option HW} {x1 : Int32} {x2 : Int32} (hK32 : ∀ z0 z1, Sx sc w0 z0 → Fr sc w0 ρW (K32 z0 z1)) : ∀ (n : Nat) (w : HW) (x3 : Int32), Sx sc w0 w → Fr sc w0 ρW (fX3_goBack_64 K32 x1 x2 n w x3) := by
  intro n
  induction n with
  | zero => intro _ _ _; exact fr_none
  | succ n ih =>
    intro w x3 hw
    rw [fX3_goBack_64]
    refine fr_if ?_ ?_
    · refine fr_if ?_ ?_
      · refine fr_b (fun r_10 => ?_)
        refine fr_if ?_ ?_
        · refine fr_bw (fun a ha => rX3_settle hw x2 x3 a ha) (fun w_14 hw_14 => ?_)
          exact ih _ _ hw_14
        · exact ih _ _ hw
      · exact ih _ _ hw
    · exact hK32 _ _ hw
theorem rX3_goBack_54 {w0 : HW} {x1 : Int32} : ∀ (n : Nat) (w : HW) (x2 : Int32), Sx sc w0 w → Fr sc w0 ρW (fX3_goBack_54 x1 n w x2) := by
  intro n
  induction n with
  | zero => intro _ _ _; exact fr_none
  | succ n ih =>
    intro w x2 hw
    rw [fX3_goBack_54]
    refine fr_if ?_ ?_
    · exact rX3_goBack_64 (fun _ _ hw => ih _ _ hw) _ _ _ hw
    · exact fr_retW hw
theorem rX3_goBack_2 {w0 : HW} {x1 : Int32} : ∀ (n : Nat) (w : HW) (x2 : Int32), Sx sc w0 w → Fr sc w0 ρW (fX3_goBack_2 x1 n w x2) := by
  intro n
  induction n with
  | zero => intro _ _ _; exact fr_none
  | succ n ih =>
    intro w x2 hw
    rw [fX3_goBack_2]
    refine fr_if ?_ ?_
    · refine fr_if ?_ ?_
      · refine fr_uI hw rfl (fun w_3 hw_3 => ?_)
        refine fr_if ?_ ?_
        · refine fr_uI hw_3 rfl (fun w_5 hw_5 => ?_)
          exact ih _ _ hw_5
        · exact fr_none
      · exact fr_none
    · refine fr_l (fun x2_6 => ?_)
      exact rX3_goBack_54 _ _ _ hw
theorem rX3_goBack {w0 w : HW} (hw : Sx sc w0 w) (x1 : Int32) : Fr sc w0 ρW (fX3_goBack w x1) := by
  unfold fX3_goBack
  exact rX3_goBack_2 _ _ _ hw
/-! X3_solve -/
theorem rX3_solve_155 {w0 w : HW} {x2 : Int32} (hw : Sx sc w0 w) : Fr sc w0 ρIW (fX3_solve_155 w x2) := by
  unfold fX3_solve_155
  refine fr_bw (fun a ha => rX3_goBack hw x2 a ha) (fun w_28 hw_28 => ?_)
  refine fr_if ?_ ?_
  · exact fr_ret hw_28
  · exact fr_none
theorem rX3_solve_93 {w0 w : HW} {K28 : HW → Int32 → Option (Int32 × HW)} {k1 : Nat} {x2 : Int32} {x3 : Int32} {x4 : Int32} {x5 : Int32} {x6 : Int32} {s0 : Int32} {s1 : Int32} (hK28 : ∀ z0 z1, Sx sc w0 z0 → Fr sc w0 ρIW (K28 z0 z1)) (hw : Sx sc w0 w) : Fr sc w0 ρIW (fX3_solve_93 w K28 k1 x2 x3 x4 x5 x6 s0 s1) := by
  unfold fX3_solve_93
  refine fr_if ?_ ?_
  · refine fr_uI hw rfl (fun w_14 hw_14 => ?_)
    refine fr_b (fun r_15 => ?_)
    refine fr_if ?_ ?_
    · refine fr_if ?_ ?_
      · refine fr_b (fun r_19 => ?_)
        refine fr_b (fun r_21 => ?_)
        refine fr_b (fun r_23 => ?_)
        refine fr_bw (fun a ha => rX3_openBill hw_14 x6 (((r_23 &&& (x3 ^^^ (-1))) &&& (r_21 ^^^ (-1))) &&& (x5 ^^^ (-1))) a ha) (fun w_26 hw_26 => ?_)
        exact hK28 _ _ hw_26
      · exact fr_none
    · exact hK28 _ _ hw_14
  · exact fr_none
theorem rX3_solve_55 {w0 : HW} {k1 : Nat} {x2 : Int32} {x3 : Int32} {x4 : Int32} {x5 : Int32} : ∀ (n : Nat) (w : HW) (x6 : Int32), Sx sc w0 w → Fr sc w0 ρIW (fX3_solve_55 k1 x2 x3 x4 x5 n w x6) := by
  intro n
  induction n with
  | zero => intro _ _ _; exact fr_none
  | succ n ih =>
    intro w x6 hw
    rw [fX3_solve_55]
    refine fr_if ?_ ?_
    · refine fr_if ?_ ?_
      · refine fr_l (fun x7_11 => ?_)
        refine fr_if ?_ ?_
        · exact rX3_solve_93 (fun _ _ hw => ih _ _ hw) hw
        · exact rX3_solve_93 (fun _ _ hw => ih _ _ hw) hw
      · exact fr_none
    · exact rX3_solve_155 hw
theorem rX3_solve_31 {w0 : HW} {k1 : Nat} {x2 : Int32} {x3 : Int32} {x4 : Int32} {x5 : Int32} : ∀ (n : Nat) (w : HW) (x6 : Int32), Sx sc w0 w → Fr sc w0 ρIW (fX3_solve_31 k1 x2 x3 x4 x5 n w x6) := by
  intro n
  induction n with
  | zero => intro _ _ _; exact fr_none
  | succ n ih =>
    intro w x6 hw
    rw [fX3_solve_31]
    refine fr_if ?_ ?_
    · refine fr_if ?_ ?_
      · refine fr_uI hw rfl (fun w_8 hw_8 => ?_)
        exact ih _ _ hw_8
      · exact fr_none
    · exact rX3_solve_55 _ _ _ hw
theorem rX3_solve {w0 w : HW} (hw : Sx sc w0 w) (k1 : Nat) (x2 : Int32) (x3 : Int32) (x4 : Int32) (x5 : Int32) : Fr sc w0 ρIW (fX3_solve w k1 x2 x3 x4 x5) := by
  unfold fX3_solve
  refine fr_b (fun r_1 => ?_)
  refine fr_uI hw rfl (fun w_3 hw_3 => ?_)
  refine fr_uI hw_3 rfl (fun w_4 hw_4 => ?_)
  refine fr_uI hw_4 rfl (fun w_5 hw_5 => ?_)
  exact rX3_solve_31 _ _ _ hw_5
/-! X9_worthOfPlans -/
theorem rX9_worthOfPlans {w0 w : HW} (hw : Sx sc w0 w) (x1 : Int32) (x2 : Int32) (x3 : Int32) (x4 : Int32) : Fr sc w0 ρIW (fX9_worthOfPlans w x1 x2 x3 x4) := by
  unfold fX9_worthOfPlans
  refine fr_l (fun j_1 => ?_)
  refine fr_if ?_ ?_
  · refine fr_bw (fun a ha => rX3_billsByWorth hw j_1 a ha) (fun w_3 hw_3 => ?_)
    refine fr_l (fun j_4 => ?_)
    refine fr_if ?_ ?_
    · refine fr_bW (fun a ha => rX3_solve hw_3 j_4 x1 x2 x3 x4 a ha) (fun r_5 w_6 hw_6 => ?_)
      exact fr_ret hw_6
    · exact fr_none
  · exact fr_none
/-! X9_worthOfPlan -/
theorem rX9_worthOfPlan {w0 w : HW} (hw : Sx sc w0 w) (x1 : Int32) : Fr sc w0 ρIW (fX9_worthOfPlan w x1) := by
  unfold fX9_worthOfPlan
  refine fr_l (fun j_1 => ?_)
  refine fr_if ?_ ?_
  · refine fr_b (fun r_2 => ?_)
    refine fr_l (fun j_4 => ?_)
    refine fr_if ?_ ?_
    · refine fr_bW (fun a ha => rX9_worthOfPlans hw r_2 (gI w j_4 5) 255 0 a ha) (fun r_5 w_6 hw_6 => ?_)
      exact fr_ret hw_6
    · exact fr_none
  · exact fr_none
/-! X9_plan -/
theorem rX9_plan {w0 w : HW} (hw : Sx sc w0 w) (x1 : Int32) : Fr sc w0 ρIW (fX9_plan w x1) := by
  unfold fX9_plan
  refine fr_l (fun j_1 => ?_)
  refine fr_if ?_ ?_
  · refine fr_b (fun r_2 => ?_)
    refine fr_if ?_ ?_
    · refine fr_bW (fun a ha => rX9_worthOfPlan hw x1 a ha) (fun r_5 w_6 hw_6 => ?_)
      exact fr_ret hw_6
    · exact fr_ret hw
  · exact fr_none
/-! X9_planned -/
theorem rX9_planned {w0 w : HW} (hw : Sx sc w0 w) (x1 : Int32) (x2 : Int32) : Fr sc w0 ρIW (fX9_planned w x1 x2) := by
  unfold fX9_planned
  refine fr_l (fun j_1 => ?_)
  refine fr_if ?_ ?_
  · refine fr_b (fun r_2 => ?_)
    refine fr_if ?_ ?_
    · refine fr_l (fun j_5 => ?_)
      refine fr_if ?_ ?_
      · refine fr_b (fun r_6 => ?_)
        refine fr_if ?_ ?_
        · exact fr_ret hw
        · refine fr_bW (fun a ha => rX9_worthOfPlan hw x1 a ha) (fun r_9 w_10 hw_10 => ?_)
          refine fr_b (fun r_11 => ?_)
          exact fr_ret hw_10
      · exact fr_none
    · exact fr_ret hw
  · exact fr_none
/-! X9_ways -/
theorem rX9_ways {w0 w : HW} (hw : Sx sc w0 w) (x1 : Int32) : Fr sc w0 ρIW (fX9_ways w x1) := by
  unfold fX9_ways
  refine fr_l (fun j_1 => ?_)
  refine fr_if ?_ ?_
  · refine fr_b (fun r_2 => ?_)
    refine fr_if ?_ ?_
    · exact fr_ret hw
    · refine fr_bW (fun a ha => rX9_worthOfPlan hw x1 a ha) (fun r_5 w_6 hw_6 => ?_)
      refine fr_b (fun r_7 => ?_)
      exact fr_ret hw_6
  · exact fr_none
/-! X3_billsAlike -/
theorem rX3_billsAlike_2 {w0 : HW} {k1 : Nat} : ∀ (n : Nat) (w : HW) (x2 : Int32), Sx sc w0 w → Fr sc w0 ρW (fX3_billsAlike_2 k1 n w x2) := by
  intro n
  induction n with
  | zero => intro _ _ _; exact fr_none
  | succ n ih =>
    intro w x2 hw
    rw [fX3_billsAlike_2]
    refine fr_if ?_ ?_
    · refine fr_if ?_ ?_
      · refine fr_uI hw rfl (fun w_3 hw_3 => ?_)
        exact ih _ _ hw_3
      · exact fr_none
    · exact fr_retW hw
theorem rX3_billsAlike {w0 w : HW} (hw : Sx sc w0 w) (k1 : Nat) : Fr sc w0 ρW (fX3_billsAlike w k1) := by
  unfold fX3_billsAlike
  exact rX3_billsAlike_2 _ _ _ hw
/-! X9_many -/
theorem rX9_many {w0 w : HW} (hw : Sx sc w0 w) (x1 : Int32) : Fr sc w0 ρIW (fX9_many w x1) := by
  unfold fX9_many
  refine fr_l (fun j_1 => ?_)
  refine fr_if ?_ ?_
  · refine fr_b (fun r_2 => ?_)
    refine fr_if ?_ ?_
    · exact fr_ret hw
    · refine fr_l (fun j_5 => ?_)
      refine fr_if ?_ ?_
      · refine fr_bw (fun a ha => rX3_billsAlike hw j_5 a ha) (fun w_7 hw_7 => ?_)
        refine fr_l (fun j_8 => ?_)
        refine fr_if ?_ ?_
        · refine fr_l (fun j_9 => ?_)
          refine fr_if ?_ ?_
          · refine fr_b (fun r_10 => ?_)
            refine fr_l (fun j_12 => ?_)
            refine fr_if ?_ ?_
            · refine fr_bW (fun a ha => rX3_solve hw_7 j_8 r_10 (gI w_7 j_12 5) 255 0 a ha) (fun r_13 w_14 hw_14 => ?_)
              exact fr_ret hw_14
            · exact fr_none
          · exact fr_none
        · exact fr_none
      · exact fr_none
  · exact fr_none
/-! X9_worthWithout -/
theorem rX9_worthWithout {w0 w : HW} (hw : Sx sc w0 w) (x1 : Int32) : Fr sc w0 ρIW (fX9_worthWithout w x1) := by
  unfold fX9_worthWithout
  refine fr_l (fun j_1 => ?_)
  refine fr_if ?_ ?_
  · refine fr_l (fun j_2 => ?_)
    refine fr_if ?_ ?_
    · refine fr_if ?_ ?_
      · refine fr_b (fun r_4 => ?_)
        refine fr_l (fun x2_6 => ?_)
        refine fr_l (fun j_7 => ?_)
        refine fr_if ?_ ?_
        · refine fr_bW (fun a ha => rX9_worthOfPlans hw x2_6 (gI w j_7 5) 255 0 a ha) (fun r_8 w_9 hw_9 => ?_)
          exact fr_ret hw_9
        · exact fr_none
      · exact fr_none
    · exact fr_none
  · exact fr_none
/-! X9_without -/
theorem rX9_without {w0 w : HW} (hw : Sx sc w0 w) (x1 : Int32) : Fr sc w0 ρIW (fX9_without w x1) := by
  unfold fX9_without
  refine fr_l (fun j_1 => ?_)
  refine fr_if ?_ ?_
  · refine fr_b (fun r_2 => ?_)
    refine fr_if ?_ ?_
    · refine fr_bW (fun a ha => rX9_worthWithout hw x1 a ha) (fun r_5 w_6 hw_6 => ?_)
      exact fr_ret hw_6
    · exact fr_ret hw
  · exact fr_none
/-! X9_value -/
theorem rX9_value {w0 w : HW} (hw : Sx sc w0 w) (x1 : Int32) : Fr sc w0 ρIW (fX9_value w x1) := by
  unfold fX9_value
  refine fr_l (fun j_1 => ?_)
  refine fr_if ?_ ?_
  · refine fr_b (fun r_2 => ?_)
    refine fr_if ?_ ?_
    · exact fr_ret hw
    · refine fr_l (fun j_5 => ?_)
      refine fr_if ?_ ?_
      · refine fr_if ?_ ?_
        · refine fr_bW (fun a ha => rX9_worthOfPlan hw (gI w (j_5 + 4) (ix x1)) a ha) (fun r_7 w_8 hw_8 => ?_)
          refine fr_bW (fun a ha => rX9_worthWithout hw_8 x1 a ha) (fun r_9 w_10 hw_10 => ?_)
          exact fr_ret hw_10
        · exact fr_none
      · exact fr_none
  · exact fr_none
/-! X9_together -/
theorem rX9_together {w0 w : HW} (hw : Sx sc w0 w) : Fr sc w0 ρIW (fX9_together w) := by
  unfold fX9_together
  refine fr_l (fun j_1 => ?_)
  refine fr_if ?_ ?_
  · refine fr_b (fun r_2 => ?_)
    refine fr_if ?_ ?_
    · refine fr_l (fun j_5 => ?_)
      refine fr_if ?_ ?_
      · refine fr_b (fun r_6 => ?_)
        refine fr_l (fun j_8 => ?_)
        refine fr_if ?_ ?_
        · refine fr_bW (fun a ha => rX9_worthOfPlans hw r_6 (gI w j_8 5) 255 0 a ha) (fun r_9 w_10 hw_10 => ?_)
          exact fr_ret hw_10
        · exact fr_none
      · exact fr_none
    · exact fr_ret hw
  · exact fr_none
/-! X1_leastCost -/
theorem rX1_leastCost_185 {w0 w : HW} {k1 : Nat} {x3 : Int32} (hw : Sx sc w0 w) : Fr sc w0 ρIW (fX1_leastCost_185 w k1 x3) := by
  unfold fX1_leastCost_185
  refine fr_b (fun r_24 => ?_)
  refine fr_if ?_ ?_
  · exact fr_ret hw
  · exact fr_none
theorem rX1_leastCost_161 {w0 w : HW} {K30 : HW → Int32 → Option (Int32 × HW)} {K50 : HW → Int32 → Option (Int32 × HW)} {k1 : Nat} {x3 : Int32} {x4 : Int32} {x5 : Int32} {x6 : Int32} {x7 : Int32} {x8 : Int32} (hK30 : ∀ z0 z1, Sx sc w0 z0 → Fr sc w0 ρIW (K30 z0 z1)) (hK50 : ∀ z0 z1, Sx sc w0 z0 → Fr sc w0 ρIW (K50 z0 z1)) (hw : Sx sc w0 w) : Fr sc w0 ρIW (fX1_leastCost_161 w K30 K50 k1 x3 x4 x5 x6 x7 x8) := by
  unfold fX1_leastCost_161
  refine fr_if ?_ ?_
  · refine fr_uI hw rfl (fun w_28 hw_28 => ?_)
    exact hK50 _ _ hw_28
  · exact fr_none
theorem rX1_leastCost_87 {w0 : HW} {K30 : HW → Int32 → Option (Int32 × HW)} {k1 : Nat} {x3 : Int32} {x4 : Int32} {x5 : Int32} {x6 : Int32} (hK30 : ∀ z0 z1, Sx sc w0 z0 → Fr sc w0 ρIW (K30 z0 z1)) : ∀ (n : Nat) (w : HW) (x7 : Int32), Sx sc w0 w → Fr sc w0 ρIW (fX1_leastCost_87 K30 k1 x3 x4 x5 x6 n w x7) := by
  intro n
  induction n with
  | zero => intro _ _ _; exact fr_none
  | succ n ih =>
    intro w x7 hw
    rw [fX1_leastCost_87]
    refine fr_if ?_ ?_
    · refine fr_if ?_ ?_
      · refine fr_l (fun x8_17 => ?_)
        refine fr_b (fun r_18 => ?_)
        refine fr_if ?_ ?_
        · refine fr_if ?_ ?_
          · refine fr_l (fun x9_22 => ?_)
            refine fr_l (fun x8_23 => ?_)
            exact rX1_leastCost_161 hK30 (fun _ _ hw => ih _ _ hw) hw
          · exact fr_none
        · exact rX1_leastCost_161 hK30 (fun _ _ hw => ih _ _ hw) hw
      · exact fr_none
    · exact hK30 _ _ hw
theorem rX1_leastCost_53 {w0 : HW} {k1 : Nat} {x3 : Int32} {x4 : Int32} : ∀ (n : Nat) (w : HW) (x5 : Int32), Sx sc w0 w → Fr sc w0 ρIW (fX1_leastCost_53 k1 x3 x4 n w x5) := by
  intro n
  induction n with
  | zero => intro _ _ _; exact fr_none
  | succ n ih =>
    intro w x5 hw
    rw [fX1_leastCost_53]
    refine fr_if ?_ ?_
    · refine fr_l (fun x6_11 => ?_)
      refine fr_if ?_ ?_
      · refine fr_uI hw rfl (fun w_13 hw_13 => ?_)
        refine fr_l (fun x7_14 => ?_)
        exact rX1_leastCost_87 (fun _ _ hw => ih _ _ hw) _ _ _ hw_13
      · exact fr_none
    · exact rX1_leastCost_185 hw
theorem rX1_leastCost_28 {w0 : HW} {k1 : Nat} {x3 : Int32} {x4 : Int32} : ∀ (n : Nat) (w : HW) (x5 : Int32), Sx sc w0 w → Fr sc w0 ρIW (fX1_leastCost_28 k1 x3 x4 n w x5) := by
  intro n
  induction n with
  | zero => intro _ _ _; exact fr_none
  | succ n ih =>
    intro w x5 hw
    rw [fX1_leastCost_28]
    refine fr_if ?_ ?_
    · refine fr_if ?_ ?_
      · refine fr_uI hw rfl (fun w_9 hw_9 => ?_)
        exact ih _ _ hw_9
      · exact fr_none
    · exact rX1_leastCost_53 _ _ _ hw
theorem rX1_leastCost {w0 w : HW} (hw : Sx sc w0 w) (k1 : Nat) (x2 : Int32) : Fr sc w0 ρIW (fX1_leastCost w k1 x2) := by
  unfold fX1_leastCost
  refine fr_b (fun r_1 => ?_)
  refine fr_if ?_ ?_
  · exact fr_ret hw
  · refine fr_if ?_ ?_
    · refine fr_b (fun r_5 => ?_)
      exact rX1_leastCost_28 _ _ _ hw
    · exact fr_none
/-! X1_fewestToStop -/
theorem rX1_fewestToStop {w0 w : HW} (hw : Sx sc w0 w) (k1 : Nat) (x2 : Int32) : Fr sc w0 ρIW (fX1_fewestToStop w k1 x2) := by
  unfold fX1_fewestToStop
  refine fr_bW (fun a ha => rX1_leastCost hw k1 x2 a ha) (fun r_1 w_2 hw_2 => ?_)
  exact fr_ret hw_2
/-! X9_stop -/
theorem rX9_stop {w0 w : HW} (hw : Sx sc w0 w) (x1 : Int32) : Fr sc w0 ρIW (fX9_stop w x1) := by
  unfold fX9_stop
  refine fr_l (fun j_1 => ?_)
  refine fr_if ?_ ?_
  · refine fr_b (fun r_2 => ?_)
    refine fr_if ?_ ?_
    · refine fr_l (fun j_5 => ?_)
      refine fr_if ?_ ?_
      · refine fr_bW (fun a ha => rX1_fewestToStop hw j_5 x1 a ha) (fun r_6 w_7 hw_7 => ?_)
        exact fr_ret hw_7
      · exact fr_none
    · exact fr_ret hw
  · exact fr_none
/-! X1_daysToStop -/
theorem rX1_daysToStop {w0 w : HW} (hw : Sx sc w0 w) (k1 : Nat) (x2 : Int32) : Fr sc w0 ρIW (fX1_daysToStop w k1 x2) := by
  unfold fX1_daysToStop
  refine fr_bW (fun a ha => rX1_leastCost hw k1 x2 a ha) (fun r_1 w_2 hw_2 => ?_)
  exact fr_ret hw_2
/-! X9_stops -/
theorem rX9_stops {w0 w : HW} (hw : Sx sc w0 w) (x1 : Int32) : Fr sc w0 ρIW (fX9_stops w x1) := by
  unfold fX9_stops
  refine fr_l (fun j_1 => ?_)
  refine fr_if ?_ ?_
  · refine fr_b (fun r_2 => ?_)
    refine fr_if ?_ ?_
    · refine fr_l (fun j_5 => ?_)
      refine fr_if ?_ ?_
      · refine fr_bW (fun a ha => rX1_daysToStop hw j_5 x1 a ha) (fun r_6 w_7 hw_7 => ?_)
        exact fr_ret hw_7
      · exact fr_none
    · exact fr_ret hw
  · exact fr_none
/-! X9_spoilingDay -/
theorem rX9_spoilingDay_20 {w0 : HW} {x1 : Int32} {x4 : Int32} : ∀ (n : Nat) (w : HW) (x2 : Int32) (x3 : Int32) (x5 : Int32), Sx sc w0 w → Fr sc w0 ρIW (fX9_spoilingDay_20 x1 x4 n w x2 x3 x5) := by
  intro n
  induction n with
  | zero => intro _ _ _ _ _; exact fr_none
  | succ n ih =>
    intro w x2 x3 x5 hw
    rw [fX9_spoilingDay_20]
    refine fr_l (fun j_5 => ?_)
    refine fr_if ?_ ?_
    · refine fr_if ?_ ?_
      · refine fr_b (fun r_7 => ?_)
        refine fr_if ?_ ?_
        · exact ih _ _ _ _ hw
        · refine fr_l (fun j_10 => ?_)
          refine fr_if ?_ ?_
          · refine fr_b (fun r_11 => ?_)
            refine fr_l (fun j_13 => ?_)
            refine fr_if ?_ ?_
            · refine fr_bW (fun a ha => rX9_worthOfPlans hw r_11 (gI w j_13 5) 255 (iSl 1 x5) a ha) (fun r_14 w_15 hw_15 => ?_)
              refine fr_if ?_ ?_
              · exact ih _ _ _ _ hw_15
              · exact ih _ _ _ _ hw_15
            · exact fr_none
          · exact fr_none
      · exact fr_ret hw
    · exact fr_none
theorem rX9_spoilingDay {w0 w : HW} (hw : Sx sc w0 w) (x1 : Int32) : Fr sc w0 ρIW (fX9_spoilingDay w x1) := by
  unfold fX9_spoilingDay
  refine fr_bW (fun a ha => rX9_worthOfPlan hw x1 a ha) (fun r_1 w_2 hw_2 => ?_)
  refine fr_b (fun r_3 => ?_)
  exact rX9_spoilingDay_20 _ _ _ _ _ hw_2
/-! X9_spoil -/
theorem rX9_spoil {w0 w : HW} (hw : Sx sc w0 w) (x1 : Int32) : Fr sc w0 ρIW (fX9_spoil w x1) := by
  unfold fX9_spoil
  refine fr_l (fun j_1 => ?_)
  refine fr_if ?_ ?_
  · refine fr_b (fun r_2 => ?_)
    refine fr_if ?_ ?_
    · refine fr_bW (fun a ha => rX9_spoilingDay hw x1 a ha) (fun r_5 w_6 hw_6 => ?_)
      exact fr_ret hw_6
    · exact fr_ret hw
  · exact fr_none
/-! X9_spoilt -/
theorem rX9_spoilt {w0 w : HW} (hw : Sx sc w0 w) (x1 : Int32) : Fr sc w0 ρIW (fX9_spoilt w x1) := by
  unfold fX9_spoilt
  refine fr_l (fun j_1 => ?_)
  refine fr_if ?_ ?_
  · refine fr_b (fun r_2 => ?_)
    refine fr_if ?_ ?_
    · exact fr_ret hw
    · refine fr_bW (fun a ha => rX9_spoilingDay hw x1 a ha) (fun r_5 w_6 hw_6 => ?_)
      refine fr_l (fun j_7 => ?_)
      refine fr_if ?_ ?_
      · refine fr_b (fun r_8 => ?_)
        refine fr_l (fun j_10 => ?_)
        refine fr_if ?_ ?_
        · refine fr_if ?_ ?_
          · refine fr_bW (fun a ha => rX9_worthOfPlans hw_6 r_8 (gI w_6 j_10 5) 255 0 a ha) (fun r_12 w_13 hw_13 => ?_)
            exact fr_ret hw_13
          · refine fr_bW (fun a ha => rX9_worthOfPlans hw_6 r_8 (gI w_6 j_10 5) 255 (iSl 1 r_5) a ha) (fun r_14 w_15 hw_15 => ?_)
            exact fr_ret hw_15
        · exact fr_none
      · exact fr_none
  · exact fr_none
/-! X9_bribe -/
theorem rX9_bribe_25 {w0 : HW} {x1 : Int32} : ∀ (n : Nat) (w : HW) (x2 : Int32) (x3 : Int32) (x4 : Int32), Sx sc w0 w → Fr sc w0 ρIW (fX9_bribe_25 x1 n w x2 x3 x4) := by
  intro n
  induction n with
  | zero => intro _ _ _ _ _; exact fr_none
  | succ n ih =>
    intro w x2 x3 x4 hw
    rw [fX9_bribe_25]
    refine fr_l (fun j_7 => ?_)
    refine fr_if ?_ ?_
    · refine fr_if ?_ ?_
      · refine fr_l (fun j_9 => ?_)
        refine fr_if ?_ ?_
        · refine fr_if ?_ ?_
          · refine fr_if ?_ ?_
            · exact ih _ _ _ _ hw
            · refine fr_l (fun j_12 => ?_)
              refine fr_if ?_ ?_
              · refine fr_b (fun r_13 => ?_)
                refine fr_l (fun j_15 => ?_)
                refine fr_if ?_ ?_
                · refine fr_bW (fun a ha => rX9_worthOfPlans hw r_13 (gI w j_15 5) (255 &&& ((iSl 1 x4) ^^^ (-1))) 0 a ha) (fun r_16 w_17 hw_17 => ?_)
                  refine fr_if ?_ ?_
                  · exact ih _ _ _ _ hw_17
                  · exact ih _ _ _ _ hw_17
                · exact fr_none
              · exact fr_none
          · exact fr_none
        · exact fr_none
      · exact fr_ret hw
    · exact fr_none
theorem rX9_bribe {w0 w : HW} (hw : Sx sc w0 w) (x1 : Int32) : Fr sc w0 ρIW (fX9_bribe w x1) := by
  unfold fX9_bribe
  refine fr_l (fun j_1 => ?_)
  refine fr_if ?_ ?_
  · refine fr_b (fun r_2 => ?_)
    refine fr_if ?_ ?_
    · exact fr_ret hw
    · refine fr_bW (fun a ha => rX9_worthOfPlan hw x1 a ha) (fun r_5 w_6 hw_6 => ?_)
      exact rX9_bribe_25 _ _ _ _ _ hw_6
  · exact fr_none
/-! X9_unmark -/
theorem rX9_unmark_25 {w0 : HW} {x1 : Int32} : ∀ (n : Nat) (w : HW) (x2 : Int32) (x3 : Int32) (x4 : Int32), Sx sc w0 w → Fr sc w0 ρIW (fX9_unmark_25 x1 n w x2 x3 x4) := by
  intro n
  induction n with
  | zero => intro _ _ _ _ _; exact fr_none
  | succ n ih =>
    intro w x2 x3 x4 hw
    rw [fX9_unmark_25]
    refine fr_l (fun j_7 => ?_)
    refine fr_if ?_ ?_
    · refine fr_if ?_ ?_
      · refine fr_l (fun j_9 => ?_)
        refine fr_if ?_ ?_
        · refine fr_b (fun r_10 => ?_)
          refine fr_if ?_ ?_
          · exact ih _ _ _ _ hw
          · refine fr_l (fun j_13 => ?_)
            refine fr_if ?_ ?_
            · refine fr_b (fun r_14 => ?_)
              refine fr_l (fun j_16 => ?_)
              refine fr_if ?_ ?_
              · refine fr_bW (fun a ha => rX9_worthOfPlans hw r_14 ((gI w j_16 5) &&& ((iSl 1 x4) ^^^ (-1))) 255 0 a ha) (fun r_17 w_18 hw_18 => ?_)
                refine fr_if ?_ ?_
                · exact ih _ _ _ _ hw_18
                · exact ih _ _ _ _ hw_18
              · exact fr_none
            · exact fr_none
        · exact fr_none
      · exact fr_ret hw
    · exact fr_none
theorem rX9_unmark {w0 w : HW} (hw : Sx sc w0 w) (x1 : Int32) : Fr sc w0 ρIW (fX9_unmark w x1) := by
  unfold fX9_unmark
  refine fr_l (fun j_1 => ?_)
  refine fr_if ?_ ?_
  · refine fr_b (fun r_2 => ?_)
    refine fr_if ?_ ?_
    · exact fr_ret hw
    · refine fr_bW (fun a ha => rX9_worthOfPlan hw x1 a ha) (fun r_5 w_6 hw_6 => ?_)
      exact rX9_unmark_25 _ _ _ _ _ hw_6
  · exact fr_none
/-! X9_falls -/
theorem rX9_falls {w0 w : HW} (hw : Sx sc w0 w) (x1 : Int32) : Fr sc w0 ρIW (fX9_falls w x1) := by
  unfold fX9_falls
  refine fr_l (fun j_1 => ?_)
  refine fr_if ?_ ?_
  · refine fr_b (fun r_2 => ?_)
    refine fr_if ?_ ?_
    · exact fr_ret hw
    · refine fr_l (fun j_5 => ?_)
      refine fr_if ?_ ?_
      · refine fr_bw (fun a ha => rX6_play hw j_5 a ha) (fun w_7 hw_7 => ?_)
        refine fr_b (fun r_8 => ?_)
        exact fr_ret hw_7
      · exact fr_none
  · exact fr_none
/-! X9_worst -/
theorem rX9_worst_30 {w0 : HW} : ∀ (n : Nat) (w : HW) (x1 : Int32) (x2 : Int32) (x3 : Int32), Sx sc w0 w → Fr sc w0 ρIW (fX9_worst_30 n w x1 x2 x3) := by
  intro n
  induction n with
  | zero => intro _ _ _ _ _; exact fr_none
  | succ n ih =>
    intro w x1 x2 x3 hw
    rw [fX9_worst_30]
    refine fr_l (fun j_8 => ?_)
    refine fr_if ?_ ?_
    · refine fr_if ?_ ?_
      · refine fr_l (fun j_10 => ?_)
        refine fr_if ?_ ?_
        · refine fr_b (fun r_11 => ?_)
          refine fr_b (fun r_13 => ?_)
          refine fr_if ?_ ?_
          · exact ih _ _ _ _ hw
          · exact ih _ _ _ _ hw
        · exact fr_none
      · exact fr_ret hw
    · exact fr_none
theorem rX9_worst {w0 w : HW} (hw : Sx sc w0 w) : Fr sc w0 ρIW (fX9_worst w) := by
  unfold fX9_worst
  refine fr_l (fun j_1 => ?_)
  refine fr_if ?_ ?_
  · refine fr_b (fun r_2 => ?_)
    refine fr_if ?_ ?_
    · exact fr_ret hw
    · refine fr_l (fun j_5 => ?_)
      refine fr_if ?_ ?_
      · refine fr_bw (fun a ha => rX6_play hw j_5 a ha) (fun w_7 hw_7 => ?_)
        exact rX9_worst_30 _ _ _ _ _ hw_7
      · exact fr_none
  · exact fr_none
/-! X2_readRow -/
theorem rX2_readRow_23 {w0 : HW} {k1 : Nat} {k2 : Nat} : ∀ (n : Nat) (w : HW) (x3 : Int32), Sx sc w0 w → Fr sc w0 ρIW (fX2_readRow_23 k1 k2 n w x3) := by
  intro n
  induction n with
  | zero => intro _ _ _; exact fr_none
  | succ n ih =>
    intro w x3 hw
    rw [fX2_readRow_23]
    refine fr_if ?_ ?_
    · refine fr_if ?_ ?_
      · refine fr_l (fun x4_6 => ?_)
        refine fr_if ?_ ?_
        · refine fr_l (fun x6_8 => ?_)
          refine fr_if ?_ ?_
          · refine fr_if ?_ ?_
            · refine fr_if ?_ ?_
              · refine fr_if ?_ ?_
                · exact fr_ret hw
                · refine fr_if ?_ ?_
                  · refine fr_uI hw rfl (fun w_14 hw_14 => ?_)
                    exact ih _ _ hw_14
                  · refine fr_uI hw rfl (fun w_15 hw_15 => ?_)
                    exact ih _ _ hw_15
              · exact fr_ret hw
            · exact fr_ret hw
          · exact fr_ret hw
        · exact fr_none
      · exact fr_none
    · exact fr_ret hw
theorem rX2_readRow {w0 w : HW} (hw : Sx sc w0 w) (k1 : Nat) (k2 : Nat) : Fr sc w0 ρIW (fX2_readRow w k1 k2) := by
  unfold fX2_readRow
  refine fr_uI hw rfl (fun w_1 hw_1 => ?_)
  refine fr_uI hw_1 rfl (fun w_2 hw_2 => ?_)
  refine fr_if ?_ ?_
  · exact fr_ret hw_2
  · exact rX2_readRow_23 _ _ _ hw_2
/-! X2_weigh -/
theorem rX2_weigh_84 {w0 : HW} {k1 : Nat} {x4 : Int32} : ∀ (n : Nat) (w : HW) (x5 : Int32), Sx sc w0 w → Fr sc w0 ρW (fX2_weigh_84 k1 x4 n w x5) := by
  intro n
  induction n with
  | zero => intro _ _ _; exact fr_none
  | succ n ih =>
    intro w x5 hw
    rw [fX2_weigh_84]
    refine fr_if ?_ ?_
    · refine fr_if ?_ ?_
      · refine fr_if ?_ ?_
        · refine fr_uI hw rfl (fun w_14 hw_14 => ?_)
          exact ih _ _ hw_14
        · exact fr_none
      · exact fr_none
    · exact fr_retW hw
theorem rX2_weigh_68 {w0 w : HW} {k1 : Nat} {x2 : Int32} {x4 : Int32} (hw : Sx sc w0 w) : Fr sc w0 ρW (fX2_weigh_68 w k1 x2 x4) := by
  unfold fX2_weigh_68
  refine fr_if ?_ ?_
  · refine fr_uI hw rfl (fun w_10 hw_10 => ?_)
    exact rX2_weigh_84 _ _ _ hw_10
  · exact rX2_weigh_84 _ _ _ hw
theorem rX2_weigh {w0 w : HW} (hw : Sx sc w0 w) (k1 : Nat) (x2 : Int32) (x3 : Int32) : Fr sc w0 ρW (fX2_weigh w k1 x2 x3) := by
  unfold fX2_weigh
  refine fr_b (fun r_1 => ?_)
  refine fr_if ?_ ?_
  · refine fr_if ?_ ?_
    · exact fr_retW hw
    · refine fr_uI hw rfl (fun w_5 hw_5 => ?_)
      refine fr_if ?_ ?_
      · refine fr_uI hw_5 rfl (fun w_7 hw_7 => ?_)
        exact rX2_weigh_68 hw_7
      · refine fr_uI hw_5 rfl (fun w_8 hw_8 => ?_)
        exact rX2_weigh_68 hw_8
  · exact fr_retW hw
/-! X2_look -/
theorem rX2_look_63 {w0 : HW} {K33 : HW → Int32 → Option (Int32 × HW)} {k1 : Nat} {x3 : Int32} (hK33 : ∀ z0 z1, Sx sc w0 z0 → Fr sc w0 ρIW (K33 z0 z1)) : ∀ (n : Nat) (w : HW) (x4 : Int32), Sx sc w0 w → Fr sc w0 ρIW (fX2_look_63 K33 k1 x3 n w x4) := by
  intro n
  induction n with
  | zero => intro _ _ _; exact fr_none
  | succ n ih =>
    intro w x4 hw
    rw [fX2_look_63]
    refine fr_if ?_ ?_
    · refine fr_bw (fun a ha => rX2_weigh hw k1 x3 x4 a ha) (fun w_14 hw_14 => ?_)
      exact ih _ _ hw_14
    · exact hK33 _ _ hw
theorem rX2_look_54 {w0 : HW} {k1 : Nat} : ∀ (n : Nat) (w : HW) (x3 : Int32), Sx sc w0 w → Fr sc w0 ρIW (fX2_look_54 k1 n w x3) := by
  intro n
  induction n with
  | zero => intro _ _ _; exact fr_none
  | succ n ih =>
    intro w x3 hw
    rw [fX2_look_54]
    refine fr_if ?_ ?_
    · exact rX2_look_63 (fun _ _ hw => ih _ _ hw) _ _ _ hw
    · exact fr_ret hw
theorem rX2_look_33 {w0 : HW} {k1 : Nat} : ∀ (n : Nat) (w : HW) (x3 : Int32), Sx sc w0 w → Fr sc w0 ρIW (fX2_look_33 k1 n w x3) := by
  intro n
  induction n with
  | zero => intro _ _ _; exact fr_none
  | succ n ih =>
    intro w x3 hw
    rw [fX2_look_33]
    refine fr_if ?_ ?_
    · refine fr_if ?_ ?_
      · refine fr_uI hw rfl (fun w_10 hw_10 => ?_)
        exact ih _ _ hw_10
      · exact fr_none
    · exact rX2_look_54 _ _ _ hw
theorem rX2_look {w0 w : HW} (hw : Sx sc w0 w) (k1 : Nat) (k2 : Nat) : Fr sc w0 ρIW (fX2_look w k1 k2) := by
  unfold fX2_look
  refine fr_bW (fun a ha => rX2_readRow hw k1 k2 a ha) (fun r_1 w_2 hw_2 => ?_)
  refine fr_if ?_ ?_
  · exact fr_ret hw_2
  · refine fr_uI hw_2 rfl (fun w_4 hw_4 => ?_)
    refine fr_uI hw_4 rfl (fun w_5 hw_5 => ?_)
    refine fr_uI hw_5 rfl (fun w_6 hw_6 => ?_)
    refine fr_uI hw_6 rfl (fun w_7 hw_7 => ?_)
    exact rX2_look_33 _ _ _ hw_7
/-! X9_lookAtSeen -/
theorem rX9_lookAtSeen {w0 w : HW} (hw : Sx sc w0 w) (x1 : Int32) : Fr sc w0 ρIW (fX9_lookAtSeen w x1) := by
  unfold fX9_lookAtSeen
  refine fr_b (fun r_1 => ?_)
  refine fr_if ?_ ?_
  · refine fr_l (fun j_4 => ?_)
    refine fr_if ?_ ?_
    · refine fr_b (fun r_5 => ?_)
      refine fr_if ?_ ?_
      · exact fr_ret hw
      · refine fr_if ?_ ?_
        · refine fr_b (fun r_9 => ?_)
          refine fr_if ?_ ?_
          · exact fr_ret hw
          · refine fr_l (fun j_12 => ?_)
            refine fr_if ?_ ?_
            · refine fr_if ?_ ?_
              · refine fr_bW (fun a ha => rX2_look hw j_12 (44 + 2 * ix x1) a ha) (fun r_14 w_15 hw_15 => ?_)
                refine fr_if ?_ ?_
                · exact fr_ret hw_15
                · exact fr_ret hw_15
              · exact fr_none
            · exact fr_none
        · exact fr_none
    · exact fr_none
  · exact fr_ret hw
/-! X9_fits -/
theorem rX9_fits {w0 w : HW} (hw : Sx sc w0 w) (x1 : Int32) : Fr sc w0 ρIW (fX9_fits w x1) := by
  unfold fX9_fits
  refine fr_bW (fun a ha => rX9_lookAtSeen hw x1 a ha) (fun r_1 w_2 hw_2 => ?_)
  refine fr_if ?_ ?_
  · exact fr_ret hw_2
  · exact fr_ret hw_2
/-! X9_fed -/
theorem rX9_fed {w0 w : HW} (hw : Sx sc w0 w) (x1 : Int32) : Fr sc w0 ρIW (fX9_fed w x1) := by
  unfold fX9_fed
  refine fr_bW (fun a ha => rX9_lookAtSeen hw x1 a ha) (fun r_1 w_2 hw_2 => ?_)
  refine fr_if ?_ ?_
  · exact fr_ret hw_2
  · exact fr_ret hw_2
/-! X9_starved -/
theorem rX9_starved {w0 w : HW} (hw : Sx sc w0 w) (x1 : Int32) : Fr sc w0 ρIW (fX9_starved w x1) := by
  unfold fX9_starved
  refine fr_bW (fun a ha => rX9_lookAtSeen hw x1 a ha) (fun r_1 w_2 hw_2 => ?_)
  refine fr_if ?_ ?_
  · exact fr_ret hw_2
  · exact fr_ret hw_2
/-! X9_least -/
theorem rX9_least {w0 w : HW} (hw : Sx sc w0 w) (x1 : Int32) : Fr sc w0 ρIW (fX9_least w x1) := by
  unfold fX9_least
  refine fr_bW (fun a ha => rX9_lookAtSeen hw x1 a ha) (fun r_1 w_2 hw_2 => ?_)
  refine fr_if ?_ ?_
  · exact fr_ret hw_2
  · exact fr_ret hw_2
/-! X9_ask -/
theorem rX9_ask {w0 w : HW} (hw : Sx sc w0 w) (x1 : Int32) : Fr sc w0 ρIW (fX9_ask w x1) := by
  unfold fX9_ask
  refine fr_bW (fun a ha => rX9_lookAtSeen hw x1 a ha) (fun r_1 w_2 hw_2 => ?_)
  refine fr_if ?_ ?_
  · exact fr_ret hw_2
  · refine fr_l (fun j_4 => ?_)
    refine fr_if ?_ ?_
    · refine fr_b (fun r_5 => ?_)
      exact fr_ret hw_2
    · exact fr_none
/-! X9_leaves -/
theorem rX9_leaves {w0 w : HW} (hw : Sx sc w0 w) (x1 : Int32) : Fr sc w0 ρIW (fX9_leaves w x1) := by
  unfold fX9_leaves
  refine fr_bW (fun a ha => rX9_lookAtSeen hw x1 a ha) (fun r_1 w_2 hw_2 => ?_)
  refine fr_if ?_ ?_
  · exact fr_ret hw_2
  · refine fr_l (fun j_4 => ?_)
    refine fr_if ?_ ?_
    · refine fr_b (fun r_5 => ?_)
      refine fr_if ?_ ?_
      · exact fr_ret hw_2
      · refine fr_b (fun r_8 => ?_)
        exact fr_ret hw_2
    · exact fr_none
/-! X7_look -/
theorem rX7_look_33 {w0 : HW} {k1 : Nat} : ∀ (n : Nat) (w : HW) (x2 : Int32), Sx sc w0 w → Fr sc w0 ρIW (fX7_look_33 k1 n w x2) := by
  intro n
  induction n with
  | zero => intro _ _ _; exact fr_none
  | succ n ih =>
    intro w x2 hw
    rw [fX7_look_33]
    refine fr_if ?_ ?_
    · refine fr_if ?_ ?_
      · refine fr_l (fun x3_7 => ?_)
        refine fr_if ?_ ?_
        · refine fr_l (fun x5_9 => ?_)
          refine fr_if ?_ ?_
          · refine fr_if ?_ ?_
            · refine fr_if ?_ ?_
              · refine fr_if ?_ ?_
                · exact fr_ret hw
                · refine fr_if ?_ ?_
                  · refine fr_if ?_ ?_
                    · refine fr_uI hw rfl (fun w_16 hw_16 => ?_)
                      exact ih _ _ hw_16
                    · exact fr_none
                  · exact fr_none
              · exact fr_ret hw
            · exact fr_ret hw
          · exact fr_ret hw
        · exact fr_none
      · exact fr_none
    · exact fr_ret hw
theorem rX7_look_20 {w0 w : HW} {k1 : Nat} (hw : Sx sc w0 w) : Fr sc w0 ρIW (fX7_look_20 w k1) := by
  unfold fX7_look_20
  refine fr_if ?_ ?_
  · exact fr_ret hw
  · exact rX7_look_33 _ _ _ hw
theorem rX7_look_2 {w0 : HW} {k1 : Nat} : ∀ (n : Nat) (w : HW) (x2 : Int32), Sx sc w0 w → Fr sc w0 ρIW (fX7_look_2 k1 n w x2) := by
  intro n
  induction n with
  | zero => intro _ _ _; exact fr_none
  | succ n ih =>
    intro w x2 hw
    rw [fX7_look_2]
    refine fr_if ?_ ?_
    · refine fr_if ?_ ?_
      · refine fr_uI hw rfl (fun w_3 hw_3 => ?_)
        exact ih _ _ hw_3
      · exact fr_none
    · exact rX7_look_20 hw
theorem rX7_look {w0 w : HW} (hw : Sx sc w0 w) (k1 : Nat) : Fr sc w0 ρIW (fX7_look w k1) := by
  unfold fX7_look
  exact rX7_look_2 _ _ _ hw
/-! X9_lookAtList -/
theorem rX9_lookAtList {w0 w : HW} (hw : Sx sc w0 w) (x1 : Int32) : Fr sc w0 ρIW (fX9_lookAtList w x1) := by
  unfold fX9_lookAtList
  refine fr_b (fun r_1 => ?_)
  refine fr_if ?_ ?_
  · refine fr_l (fun j_4 => ?_)
    refine fr_if ?_ ?_
    · refine fr_b (fun r_5 => ?_)
      refine fr_if ?_ ?_
      · exact fr_ret hw
      · refine fr_if ?_ ?_
        · refine fr_b (fun r_9 => ?_)
          refine fr_if ?_ ?_
          · exact fr_ret hw
          · refine fr_if ?_ ?_
            · refine fr_bW (fun a ha => rX7_look hw (44 + 2 * ix x1) a ha) (fun r_13 w_14 hw_14 => ?_)
              refine fr_if ?_ ?_
              · exact fr_ret hw_14
              · exact fr_ret hw_14
            · exact fr_none
        · exact fr_none
    · exact fr_none
  · exact fr_ret hw
/-! X9_tally -/
theorem rX9_tally {w0 w : HW} (hw : Sx sc w0 w) (x1 : Int32) (x2 : Int32) (x3 : Int32) : Fr sc w0 ρIW (fX9_tally w x1 x2 x3) := by
  unfold fX9_tally
  refine fr_b (fun r_1 => ?_)
  refine fr_if ?_ ?_
  · refine fr_b (fun r_4 => ?_)
    refine fr_if ?_ ?_
    · exact fr_ret hw
    · refine fr_bW (fun a ha => rX9_lookAtList hw x1 a ha) (fun r_7 w_8 hw_8 => ?_)
      refine fr_if ?_ ?_
      · exact fr_ret hw_8
      · refine fr_b (fun r_10 => ?_)
        exact fr_ret hw_8
  · exact fr_ret hw
/-! X9_doubt -/
theorem rX9_doubt {w0 w : HW} (hw : Sx sc w0 w) (x1 : Int32) (x2 : Int32) : Fr sc w0 ρLW (fX9_doubt w x1 x2) := by
  unfold fX9_doubt
  refine fr_b (fun r_1 => ?_)
  refine fr_if ?_ ?_
  · exact fr_retL hw
  · refine fr_bW (fun a ha => rX9_lookAtList hw x1 a ha) (fun r_4 w_5 hw_5 => ?_)
    refine fr_if ?_ ?_
    · exact fr_retL hw_5
    · refine fr_b (fun r_7 => ?_)
      refine fr_b (fun r_9 => ?_)
      refine fr_b (fun r_11 => ?_)
      exact fr_retL hw_5
/-! X9_share -/
theorem rX9_share {w0 w : HW} (hw : Sx sc w0 w) (x1 : Int32) (x2 : Int32) (x3 : Int32) : Fr sc w0 ρIW (fX9_share w x1 x2 x3) := by
  unfold fX9_share
  refine fr_b (fun r_1 => ?_)
  refine fr_if ?_ ?_
  · refine fr_b (fun r_4 => ?_)
    refine fr_if ?_ ?_
    · exact fr_ret hw
    · refine fr_bW (fun a ha => rX9_lookAtList hw x1 a ha) (fun r_7 w_8 hw_8 => ?_)
      refine fr_if ?_ ?_
      · exact fr_ret hw_8
      · refine fr_b (fun r_10 => ?_)
        refine fr_if ?_ ?_
        · exact fr_ret hw_8
        · refine fr_b (fun r_13 => ?_)
          refine fr_b (fun r_15 => ?_)
          exact fr_ret hw_8
  · exact fr_ret hw
/-! X9_leans -/
theorem rX9_leans {w0 w : HW} (hw : Sx sc w0 w) (x1 : Int32) : Fr sc w0 ρIW (fX9_leans w x1) := by
  unfold fX9_leans
  refine fr_bW (fun a ha => rX9_lookAtList hw x1 a ha) (fun r_1 w_2 hw_2 => ?_)
  refine fr_if ?_ ?_
  · exact fr_ret hw_2
  · refine fr_b (fun r_4 => ?_)
    refine fr_b (fun r_6 => ?_)
    refine fr_l (fun x3_8 => ?_)
    refine fr_b (fun r_9 => ?_)
    refine fr_b (fun r_11 => ?_)
    refine fr_l (fun x4_13 => ?_)
    refine fr_b (fun r_14 => ?_)
    exact fr_ret hw_2
/-! X9_chance -/
theorem rX9_chance_55 {w0 : HW} {x1 : Int32} {x2 : Int32} : ∀ (n : Nat) (w : HW) (x3 : Int64) (x5 : Int64) (x7 : Int32), Sx sc w0 w → Fr sc w0 ρLW (fX9_chance_55 x1 x2 n w x3 x5 x7) := by
  intro n
  induction n with
  | zero => intro _ _ _ _ _; exact fr_none
  | succ n ih =>
    intro w x3 x5 x7 hw
    rw [fX9_chance_55]
    refine fr_if ?_ ?_
    · refine fr_l (fun j_17 => ?_)
      refine fr_if ?_ ?_
      · refine fr_l (fun x3_18 => ?_)
        refine fr_l (fun x5_19 => ?_)
        exact ih _ _ _ _ hw
      · exact fr_none
    · refine fr_b (fun r_20 => ?_)
      exact fr_retL hw
theorem rX9_chance {w0 w : HW} (hw : Sx sc w0 w) (x1 : Int32) : Fr sc w0 ρLW (fX9_chance w x1) := by
  unfold fX9_chance
  refine fr_b (fun r_1 => ?_)
  refine fr_if ?_ ?_
  · refine fr_l (fun j_4 => ?_)
    refine fr_if ?_ ?_
    · refine fr_b (fun r_5 => ?_)
      refine fr_if ?_ ?_
      · exact fr_retL hw
      · refine fr_l (fun j_8 => ?_)
        refine fr_if ?_ ?_
        · refine fr_bw (fun a ha => rX6_play hw j_8 a ha) (fun w_10 hw_10 => ?_)
          refine fr_l (fun j_11 => ?_)
          refine fr_if ?_ ?_
          · refine fr_b (fun r_12 => ?_)
            refine fr_b (fun r_14 => ?_)
            exact rX9_chance_55 _ _ _ _ _ hw_10
          · exact fr_none
        · exact fr_none
    · exact fr_none
  · exact fr_retL hw
/-! X6_draw -/
theorem rX6_draw {w0 w : HW} (hw : Sx sc w0 w) (k1 : Nat) (x2 : Int32) : Fr sc w0 ρW (fX6_draw w k1 x2) := by
  unfold fX6_draw
  refine fr_uL hw rfl (fun w_1 hw_1 => ?_)
  refine fr_bw (fun a ha => rX6_live hw_1 k1 1 a ha) (fun w_3 hw_3 => ?_)
  exact fr_retW hw_3
/-! X9_drawn -/
theorem rX9_drawn {w0 w : HW} (hw : Sx sc w0 w) (x1 : Int32) (x2 : Int32) : Fr sc w0 ρIW (fX9_drawn w x1 x2) := by
  unfold fX9_drawn
  refine fr_b (fun r_1 => ?_)
  refine fr_if ?_ ?_
  · refine fr_b (fun r_4 => ?_)
    refine fr_if ?_ ?_
    · refine fr_l (fun j_7 => ?_)
      refine fr_if ?_ ?_
      · refine fr_b (fun r_8 => ?_)
        refine fr_if ?_ ?_
        · exact fr_ret hw
        · refine fr_l (fun j_11 => ?_)
          refine fr_if ?_ ?_
          · refine fr_bw (fun a ha => rX6_draw hw j_11 x1 a ha) (fun w_13 hw_13 => ?_)
            refine fr_if ?_ ?_
            · refine fr_l (fun j_15 => ?_)
              refine fr_if ?_ ?_
              · refine fr_b (fun r_16 => ?_)
                exact fr_ret hw_13
              · exact fr_none
            · exact fr_ret hw_13
          · exact fr_none
      · exact fr_none
    · exact fr_ret hw
  · exact fr_ret hw
/-! X9_luck -/
theorem rX9_luck_38 {w0 : HW} {x1 : Int32} {x2 : Int32} {x3 : Int32} : ∀ (n : Nat) (w : HW) (x4 : Int32) (x5 : Int32), Sx sc w0 w → Fr sc w0 ρIW (fX9_luck_38 x1 x2 x3 n w x4 x5) := by
  intro n
  induction n with
  | zero => intro _ _ _ _; exact fr_none
  | succ n ih =>
    intro w x4 x5 hw
    rw [fX9_luck_38]
    refine fr_if ?_ ?_
    · refine fr_l (fun j_11 => ?_)
      refine fr_if ?_ ?_
      · refine fr_bw (fun a ha => rX6_draw hw j_11 (x1 + x5) a ha) (fun w_13 hw_13 => ?_)
        refine fr_if ?_ ?_
        · refine fr_if ?_ ?_
          · exact ih _ _ _ hw_13
          · exact ih _ _ _ hw_13
        · exact fr_none
      · exact fr_none
    · exact fr_ret hw
theorem rX9_luck {w0 w : HW} (hw : Sx sc w0 w) (x1 : Int32) (x2 : Int32) (x3 : Int32) : Fr sc w0 ρIW (fX9_luck w x1 x2 x3) := by
  unfold fX9_luck
  refine fr_b (fun r_1 => ?_)
  refine fr_if ?_ ?_
  · refine fr_if ?_ ?_
    · refine fr_if ?_ ?_
      · refine fr_l (fun j_6 => ?_)
        refine fr_if ?_ ?_
        · refine fr_b (fun r_7 => ?_)
          refine fr_if ?_ ?_
          · exact fr_ret hw
          · exact rX9_luck_38 _ _ _ _ hw
        · exact fr_none
      · exact fr_ret hw
    · exact fr_ret hw
  · exact fr_ret hw
/-! X10_advance -/
theorem rX10_advance_144 {w0 : HW} : ∀ (n : Nat) (w : HW), Sx sc w0 w → Fr sc w0 ρW (fX10_advance_144 n w) := by
  intro n
  induction n with
  | zero => intro _ _; exact fr_none
  | succ n ih =>
    intro w hw
    rw [fX10_advance_144]
    refine fr_b (fun r_33 => ?_)
    refine fr_b (fun r_35 => ?_)
    refine fr_if ?_ ?_
    · refine fr_b (fun r_38 => ?_)
      refine fr_uI hw rfl (fun w_40 hw_40 => ?_)
      refine fr_uI hw_40 rfl (fun w_41 hw_41 => ?_)
      exact ih _ hw_41
    · refine fr_uI hw rfl (fun w_42 hw_42 => ?_)
      exact fr_retW hw_42
theorem rX10_advance_83 {w0 : HW} : ∀ (n : Nat) (w : HW), Sx sc w0 w → Fr sc w0 ρW (fX10_advance_83 n w) := by
  intro n
  induction n with
  | zero => intro _ _; exact fr_none
  | succ n ih =>
    intro w hw
    rw [fX10_advance_83]
    refine fr_b (fun r_26 => ?_)
    refine fr_b (fun r_28 => ?_)
    refine fr_if ?_ ?_
    · refine fr_uI hw rfl (fun w_31 hw_31 => ?_)
      exact ih _ hw_31
    · refine fr_uI hw rfl (fun w_32 hw_32 => ?_)
      exact fr_retW hw_32
theorem rX10_advance_39 {w0 w : HW} (hw : Sx sc w0 w) : Fr sc w0 ρW (fX10_advance_39 w) := by
  unfold fX10_advance_39
  refine fr_uI hw rfl (fun w_9 hw_9 => ?_)
  refine fr_b (fun r_10 => ?_)
  refine fr_if ?_ ?_
  · refine fr_uI hw_9 rfl (fun w_13 hw_13 => ?_)
    exact fr_retW hw_13
  · refine fr_b (fun r_14 => ?_)
    refine fr_if ?_ ?_
    · exact rX10_advance_83 _ _ hw_9
    · refine fr_b (fun r_17 => ?_)
      refine fr_if ?_ ?_
      · refine fr_uI hw_9 rfl (fun w_20 hw_20 => ?_)
        exact rX10_advance_144 _ _ hw_20
      · refine fr_if ?_ ?_
        · refine fr_uI hw_9 rfl (fun w_22 hw_22 => ?_)
          refine fr_uI hw_22 rfl (fun w_23 hw_23 => ?_)
          exact fr_retW hw_23
        · refine fr_uI hw_9 rfl (fun w_24 hw_24 => ?_)
          refine fr_uI hw_24 rfl (fun w_25 hw_25 => ?_)
          exact fr_retW hw_25
theorem rX10_advance_0 {w0 : HW} : ∀ (n : Nat) (w : HW), Sx sc w0 w → Fr sc w0 ρW (fX10_advance_0 n w) := by
  intro n
  induction n with
  | zero => intro _ _; exact fr_none
  | succ n ih =>
    intro w hw
    rw [fX10_advance_0]
    refine fr_b (fun r_1 => ?_)
    refine fr_if ?_ ?_
    · refine fr_b (fun r_4 => ?_)
      refine fr_if ?_ ?_
      · refine fr_uI hw rfl (fun w_7 hw_7 => ?_)
        exact ih _ hw_7
      · exact rX10_advance_39 hw
    · refine fr_uI hw rfl (fun w_8 hw_8 => ?_)
      exact ih _ hw_8
theorem rX10_advance {w0 w : HW} (hw : Sx sc w0 w) : Fr sc w0 ρW (fX10_advance w) := by
  unfold fX10_advance
  exact rX10_advance_0 _ _ hw
/-! X10_takes -/
theorem rX10_takes {w0 w : HW} (hw : Sx sc w0 w) (q1 : Nat) : Fr sc w0 ρIW (fX10_takes w q1) := by
  unfold fX10_takes
  refine fr_b (fun r_1 => ?_)
  refine fr_if ?_ ?_
  · refine fr_bw (fun a ha => rX10_advance hw a ha) (fun w_5 hw_5 => ?_)
    refine fr_if ?_ ?_
    · exact fr_ret hw_5
    · exact fr_none
  · refine fr_if ?_ ?_
    · exact fr_ret hw
    · exact fr_none
/-! X10_layAsked -/
theorem rX10_layAsked_44 {w0 : HW} : ∀ (n : Nat) (w : HW) (x1 : Int32), Sx sc w0 w → Fr sc w0 ρW (fX10_layAsked_44 n w x1) := by
  intro n
  induction n with
  | zero => intro _ _ _; exact fr_none
  | succ n ih =>
    intro w x1 hw
    rw [fX10_layAsked_44]
    refine fr_if ?_ ?_
    · refine fr_if ?_ ?_
      · refine fr_if ?_ ?_
        · refine fr_l (fun x2_10 => ?_)
          refine fr_if ?_ ?_
          · refine fr_if ?_ ?_
            · refine fr_uI hw rfl (fun w_13 hw_13 => ?_)
              exact ih _ _ hw_13
            · exact fr_none
          · refine fr_if ?_ ?_
            · refine fr_uI hw rfl (fun w_15 hw_15 => ?_)
              refine fr_if ?_ ?_
              · refine fr_uI hw_15 rfl (fun w_17 hw_17 => ?_)
                exact ih _ _ hw_17
              · exact fr_none
            · exact fr_none
        · exact fr_none
      · exact fr_retW hw
    · exact fr_none
theorem rX10_layAsked_23 {w0 : HW} : ∀ (n : Nat) (w : HW) (x1 : Int32), Sx sc w0 w → Fr sc w0 ρW (fX10_layAsked_23 n w x1) := by
  intro n
  induction n with
  | zero => intro _ _ _; exact fr_none
  | succ n ih =>
    intro w x1 hw
    rw [fX10_layAsked_23]
    refine fr_if ?_ ?_
    · refine fr_if ?_ ?_
      · refine fr_uI hw rfl (fun w_6 hw_6 => ?_)
        exact ih _ _ hw_6
      · exact fr_none
    · exact rX10_layAsked_44 _ _ _ hw
theorem rX10_layAsked_2 {w0 : HW} : ∀ (n : Nat) (w : HW) (x1 : Int32), Sx sc w0 w → Fr sc w0 ρW (fX10_layAsked_2 n w x1) := by
  intro n
  induction n with
  | zero => intro _ _ _; exact fr_none
  | succ n ih =>
    intro w x1 hw
    rw [fX10_layAsked_2]
    refine fr_if ?_ ?_
    · refine fr_if ?_ ?_
      · refine fr_uI hw rfl (fun w_3 hw_3 => ?_)
        exact ih _ _ hw_3
      · exact fr_none
    · exact rX10_layAsked_23 _ _ _ hw
theorem rX10_layAsked {w0 w : HW} (hw : Sx sc w0 w) : Fr sc w0 ρW (fX10_layAsked w) := by
  unfold fX10_layAsked
  exact rX10_layAsked_2 _ _ _ hw
/-! X10_drawsWell -/
theorem rX10_drawsWell {w0 w : HW} (hw : Sx sc w0 w) : Fr sc w0 ρIW (fX10_drawsWell w) := by
  unfold fX10_drawsWell
  refine fr_if ?_ ?_
  · exact fr_ret hw
  · refine fr_uL hw rfl (fun w_2 hw_2 => ?_)
    refine fr_uI hw_2 rfl (fun w_3 hw_3 => ?_)
    refine fr_if ?_ ?_
    · refine fr_if ?_ ?_
      · exact fr_ret hw_3
      · exact fr_ret hw_3
    · exact fr_none
/-! X10_goDays -/
theorem rX10_goDays_119 {w0 w : HW} {K14 : HW → Int32 → Option HW} {x1 : Int32} {x2 : Int32} {s0 : Int32} (hK14 : ∀ z0 z1, Sx sc w0 z0 → Fr sc w0 ρW (K14 z0 z1)) (hw : Sx sc w0 w) : Fr sc w0 ρW (fX10_goDays_119 w K14 x1 x2 s0) := by
  unfold fX10_goDays_119
  refine fr_b (fun r_24 => ?_)
  refine fr_if ?_ ?_
  · exact hK14 _ _ hw
  · refine fr_if ?_ ?_
    · refine fr_uI hw rfl (fun w_28 hw_28 => ?_)
      refine fr_if ?_ ?_
      · refine fr_uI hw_28 rfl (fun w_30 hw_30 => ?_)
        exact hK14 _ _ hw_30
      · exact fr_none
    · exact fr_none
theorem rX10_goDays_77 {w0 w : HW} {K14 : HW → Int32 → Option HW} {x1 : Int32} {s0 : Int32} {s1 : Int32} (hK14 : ∀ z0 z1, Sx sc w0 z0 → Fr sc w0 ρW (K14 z0 z1)) (hw : Sx sc w0 w) : Fr sc w0 ρW (fX10_goDays_77 w K14 x1 s0 s1) := by
  unfold fX10_goDays_77
  refine fr_if ?_ ?_
  · refine fr_uI hw rfl (fun w_12 hw_12 => ?_)
    refine fr_if ?_ ?_
    · refine fr_uI hw_12 rfl (fun w_14 hw_14 => ?_)
      refine fr_if ?_ ?_
      · refine fr_l (fun x2_16 => ?_)
        refine fr_if ?_ ?_
        · exact hK14 _ _ hw_14
        · refine fr_b (fun r_18 => ?_)
          refine fr_if ?_ ?_
          · refine fr_bW (fun a ha => rX10_drawsWell hw_14 a ha) (fun r_21 w_22 hw_22 => ?_)
            refine fr_if ?_ ?_
            · exact rX10_goDays_119 hK14 hw_22
            · exact rX10_goDays_119 hK14 hw_22
          · exact rX10_goDays_119 hK14 hw_14
      · exact fr_none
    · exact fr_none
  · exact fr_none
theorem rX10_goDays_23 {w0 : HW} : ∀ (n : Nat) (w : HW) (x1 : Int32), Sx sc w0 w → Fr sc w0 ρW (fX10_goDays_23 n w x1) := by
  intro n
  induction n with
  | zero => intro _ _ _; exact fr_none
  | succ n ih =>
    intro w x1 hw
    rw [fX10_goDays_23]
    refine fr_if ?_ ?_
    · refine fr_if ?_ ?_
      · refine fr_if ?_ ?_
        · refine fr_if ?_ ?_
          · exact rX10_goDays_77 (fun _ _ hw => ih _ _ hw) hw
          · exact fr_none
        · refine fr_if ?_ ?_
          · refine fr_if ?_ ?_
            · exact rX10_goDays_77 (fun _ _ hw => ih _ _ hw) hw
            · refine fr_if ?_ ?_
              · exact rX10_goDays_77 (fun _ _ hw => ih _ _ hw) hw
              · exact fr_none
          · exact fr_none
      · exact fr_retW hw
    · exact fr_none
theorem rX10_goDays_2 {w0 : HW} : ∀ (n : Nat) (w : HW) (x1 : Int32), Sx sc w0 w → Fr sc w0 ρW (fX10_goDays_2 n w x1) := by
  intro n
  induction n with
  | zero => intro _ _ _; exact fr_none
  | succ n ih =>
    intro w x1 hw
    rw [fX10_goDays_2]
    refine fr_if ?_ ?_
    · refine fr_if ?_ ?_
      · refine fr_uI hw rfl (fun w_3 hw_3 => ?_)
        exact ih _ _ hw_3
      · exact fr_none
    · exact rX10_goDays_23 _ _ _ hw
theorem rX10_goDays {w0 w : HW} (hw : Sx sc w0 w) : Fr sc w0 ρW (fX10_goDays w) := by
  unfold fX10_goDays
  exact rX10_goDays_2 _ _ _ hw
/-! X10_asksCamp -/
theorem rX10_asksCamp {w0 w : HW} (hw : Sx sc w0 w) : Fr sc w0 ρIW (fX10_asksCamp w) := by
  unfold fX10_asksCamp
  refine fr_bw (fun a ha => rX10_layAsked hw a ha) (fun w_2 hw_2 => ?_)
  refine fr_bw (fun a ha => rX10_goDays hw_2 a ha) (fun w_4 hw_4 => ?_)
  refine fr_b (fun r_5 => ?_)
  refine fr_if ?_ ?_
  · exact fr_ret hw_4
  · exact fr_none
/-! X10_asksDay -/
theorem rX10_asksDay {w0 w : HW} (hw : Sx sc w0 w) (x1 : Int32) : Fr sc w0 ρIW (fX10_asksDay w x1) := by
  unfold fX10_asksDay
  refine fr_bW (fun a ha => rX10_asksCamp hw a ha) (fun r_1 w_2 hw_2 => ?_)
  refine fr_b (fun r_3 => ?_)
  refine fr_if ?_ ?_
  · exact fr_ret hw_2
  · exact fr_none
/-! X10_asksBill -/
theorem rX10_asksBill {w0 w : HW} (hw : Sx sc w0 w) (x1 : Int32) : Fr sc w0 ρIW (fX10_asksBill w x1) := by
  unfold fX10_asksBill
  refine fr_bW (fun a ha => rX10_asksCamp hw a ha) (fun r_1 w_2 hw_2 => ?_)
  refine fr_b (fun r_3 => ?_)
  refine fr_if ?_ ?_
  · exact fr_ret hw_2
  · exact fr_none
/-! X10_hunger -/
theorem rX10_hunger {w0 w : HW} (hw : Sx sc w0 w) (x1 : Int32) : Fr sc w0 ρIW (fX10_hunger w x1) := by
  unfold fX10_hunger
  refine fr_bW (fun a ha => rX10_asksDay hw x1 a ha) (fun r_1 w_2 hw_2 => ?_)
  refine fr_if ?_ ?_
  · refine fr_if ?_ ?_
    · exact fr_ret hw_2
    · exact fr_none
  · exact fr_ret hw_2
/-! X10_eat -/
theorem rX10_eat_14 {w0 : HW} : ∀ (n : Nat) (w : HW) (x1 : Int32) (x2 : Int32), Sx sc w0 w → Fr sc w0 ρIW (fX10_eat_14 n w x1 x2) := by
  intro n
  induction n with
  | zero => intro _ _ _ _; exact fr_none
  | succ n ih =>
    intro w x1 x2 hw
    rw [fX10_eat_14]
    refine fr_if ?_ ?_
    · refine fr_if ?_ ?_
      · refine fr_b (fun r_6 => ?_)
        refine fr_if ?_ ?_
        · refine fr_l (fun x1_9 => ?_)
          exact ih _ _ _ hw
        · refine fr_l (fun x1_10 => ?_)
          exact ih _ _ _ hw
      · exact fr_ret hw
    · exact fr_none
theorem rX10_eat {w0 w : HW} (hw : Sx sc w0 w) : Fr sc w0 ρIW (fX10_eat w) := by
  unfold fX10_eat
  refine fr_bW (fun a ha => rX10_asksCamp hw a ha) (fun r_1 w_2 hw_2 => ?_)
  refine fr_if ?_ ?_
  · exact fr_ret hw_2
  · exact rX10_eat_14 _ _ _ _ hw_2
/-! X10_open -/
theorem rX10_open_84 {w0 w : HW} {K13 : HW → Int32 → Int32 → Option (Int32 × HW)} {K21 : HW → Int32 → Int32 → Option (Int32 × HW)} {x1 : Int32} {x2 : Int32} {x3 : Int32} {x4 : Int32} {s0 : Int32} (hK13 : ∀ z0 z1 z2, Sx sc w0 z0 → Fr sc w0 ρIW (K13 z0 z1 z2)) (hK21 : ∀ z0 z1 z2, Sx sc w0 z0 → Fr sc w0 ρIW (K21 z0 z1 z2)) (hw : Sx sc w0 w) : Fr sc w0 ρIW (fX10_open_84 w K13 K21 x1 x2 x3 x4 s0) := by
  unfold fX10_open_84
  refine fr_if ?_ ?_
  · refine fr_b (fun r_19 => ?_)
    refine fr_b (fun r_21 => ?_)
    refine fr_if ?_ ?_
    · refine fr_l (fun x2_24 => ?_)
      exact hK21 _ _ _ hw
    · refine fr_l (fun x2_25 => ?_)
      exact hK21 _ _ _ hw
  · refine fr_l (fun x2_26 => ?_)
    exact hK21 _ _ _ hw
theorem rX10_open_35 {w0 : HW} {K13 : HW → Int32 → Int32 → Option (Int32 × HW)} {x1 : Int32} {x3 : Int32} (hK13 : ∀ z0 z1 z2, Sx sc w0 z0 → Fr sc w0 ρIW (K13 z0 z1 z2)) : ∀ (n : Nat) (w : HW) (x2 : Int32) (x4 : Int32), Sx sc w0 w → Fr sc w0 ρIW (fX10_open_35 K13 x1 x3 n w x2 x4) := by
  intro n
  induction n with
  | zero => intro _ _ _ _; exact fr_none
  | succ n ih =>
    intro w x2 x4 hw
    rw [fX10_open_35]
    refine fr_if ?_ ?_
    · refine fr_if ?_ ?_
      · refine fr_b (fun r_11 => ?_)
        refine fr_if ?_ ?_
        · refine fr_if ?_ ?_
          · refine fr_if ?_ ?_
            · refine fr_if ?_ ?_
              · refine fr_if ?_ ?_
                · exact rX10_open_84 hK13 (fun _ _ _ hw => ih _ _ _ hw) hw
                · exact rX10_open_84 hK13 (fun _ _ _ hw => ih _ _ _ hw) hw
              · exact fr_none
            · exact rX10_open_84 hK13 (fun _ _ _ hw => ih _ _ _ hw) hw
          · exact fr_none
        · exact rX10_open_84 hK13 (fun _ _ _ hw => ih _ _ _ hw) hw
      · exact hK13 _ _ _ hw
    · exact fr_none
theorem rX10_open_22 {w0 : HW} {x1 : Int32} : ∀ (n : Nat) (w : HW) (x2 : Int32) (x3 : Int32), Sx sc w0 w → Fr sc w0 ρIW (fX10_open_22 x1 n w x2 x3) := by
  intro n
  induction n with
  | zero => intro _ _ _ _; exact fr_none
  | succ n ih =>
    intro w x2 x3 hw
    rw [fX10_open_22]
    refine fr_if ?_ ?_
    · refine fr_if ?_ ?_
      · exact rX10_open_35 (fun _ _ _ hw => ih _ _ _ hw) _ _ _ _ hw
      · exact fr_ret hw
    · exact fr_none
theorem rX10_open {w0 w : HW} (hw : Sx sc w0 w) (x1 : Int32) : Fr sc w0 ρIW (fX10_open w x1) := by
  unfold fX10_open
  refine fr_bW (fun a ha => rX10_asksCamp hw a ha) (fun r_1 w_2 hw_2 => ?_)
  refine fr_if ?_ ?_
  · refine fr_b (fun r_4 => ?_)
    refine fr_if ?_ ?_
    · exact fr_ret hw_2
    · exact rX10_open_22 _ _ _ _ hw_2
  · exact fr_ret hw_2
/-! X10_best -/
theorem rX10_best_64 {w0 w : HW} {K10 : HW → Int32 → Int32 → Option (Int32 × HW)} {x1 : Int32} {x2 : Int32} {x3 : Int32} {s0 : Int32} (hK10 : ∀ z0 z1 z2, Sx sc w0 z0 → Fr sc w0 ρIW (K10 z0 z1 z2)) (hw : Sx sc w0 w) : Fr sc w0 ρIW (fX10_best_64 w K10 x1 x2 x3 s0) := by
  unfold fX10_best_64
  refine fr_if ?_ ?_
  · refine fr_if ?_ ?_
    · refine fr_b (fun r_17 => ?_)
      refine fr_b (fun r_19 => ?_)
      refine fr_if ?_ ?_
      · exact hK10 _ _ _ hw
      · exact hK10 _ _ _ hw
    · exact hK10 _ _ _ hw
  · exact hK10 _ _ _ hw
theorem rX10_best_45 {w0 w : HW} {K10 : HW → Int32 → Int32 → Option (Int32 × HW)} {x1 : Int32} {x2 : Int32} {x3 : Int32} (hK10 : ∀ z0 z1 z2, Sx sc w0 z0 → Fr sc w0 ρIW (K10 z0 z1 z2)) (hw : Sx sc w0 w) : Fr sc w0 ρIW (fX10_best_45 w K10 x1 x2 x3) := by
  unfold fX10_best_45
  refine fr_b (fun r_10 => ?_)
  refine fr_b (fun r_12 => ?_)
  refine fr_if ?_ ?_
  · exact rX10_best_64 hK10 hw
  · exact rX10_best_64 hK10 hw
theorem rX10_best_15 {w0 : HW} {x1 : Int32} : ∀ (n : Nat) (w : HW) (x2 : Int32) (x3 : Int32), Sx sc w0 w → Fr sc w0 ρIW (fX10_best_15 x1 n w x2 x3) := by
  intro n
  induction n with
  | zero => intro _ _ _ _; exact fr_none
  | succ n ih =>
    intro w x2 x3 hw
    rw [fX10_best_15]
    refine fr_if ?_ ?_
    · refine fr_if ?_ ?_
      · refine fr_if ?_ ?_
        · refine fr_if ?_ ?_
          · refine fr_if ?_ ?_
            · refine fr_if ?_ ?_
              · exact rX10_best_45 (fun _ _ _ hw => ih _ _ _ hw) hw
              · exact rX10_best_64 (fun _ _ _ hw => ih _ _ _ hw) hw
            · exact fr_none
          · exact rX10_best_45 (fun _ _ _ hw => ih _ _ _ hw) hw
        · exact fr_none
      · exact fr_ret hw
    · exact fr_none
theorem rX10_best {w0 w : HW} (hw : Sx sc w0 w) (x1 : Int32) : Fr sc w0 ρIW (fX10_best w x1) := by
  unfold fX10_best
  refine fr_bW (fun a ha => rX10_asksDay hw x1 a ha) (fun r_1 w_2 hw_2 => ?_)
  refine fr_if ?_ ?_
  · exact fr_ret hw_2
  · exact rX10_best_15 _ _ _ _ hw_2
/-! X10_asked -/
theorem rX10_asked {w0 w : HW} (hw : Sx sc w0 w) : Fr sc w0 ρIW (fX10_asked w) := by
  unfold fX10_asked
  refine fr_bW (fun a ha => rX10_asksCamp hw a ha) (fun r_1 w_2 hw_2 => ?_)
  refine fr_if ?_ ?_
  · refine fr_b (fun r_4 => ?_)
    exact fr_ret hw_2
  · exact fr_ret hw_2
/-! X10_fattened -/
theorem rX10_fattened {w0 w : HW} (hw : Sx sc w0 w) : Fr sc w0 ρIW (fX10_fattened w) := by
  unfold fX10_fattened
  refine fr_bW (fun a ha => rX10_asksCamp hw a ha) (fun r_1 w_2 hw_2 => ?_)
  refine fr_if ?_ ?_
  · refine fr_b (fun r_4 => ?_)
    exact fr_ret hw_2
  · exact fr_ret hw_2
/-! X10_fast -/
theorem rX10_fast {w0 w : HW} (hw : Sx sc w0 w) : Fr sc w0 ρIW (fX10_fast w) := by
  unfold fX10_fast
  refine fr_bW (fun a ha => rX10_asksCamp hw a ha) (fun r_1 w_2 hw_2 => ?_)
  refine fr_if ?_ ?_
  · refine fr_b (fun r_4 => ?_)
    refine fr_b (fun r_6 => ?_)
    refine fr_b (fun r_8 => ?_)
    refine fr_b (fun r_10 => ?_)
    exact fr_ret hw_2
  · exact fr_ret hw_2
/-! X10_first -/
theorem rX10_first_36 {w0 w : HW} {x1 : Int32} {s0 : Int32} (hw : Sx sc w0 w) : Fr sc w0 ρIW (fX10_first_36 w x1 s0) := by
  unfold fX10_first_36
  refine fr_if ?_ ?_
  · refine fr_if ?_ ?_
    · exact fr_ret hw
    · exact fr_none
  · refine fr_b (fun r_11 => ?_)
    refine fr_if ?_ ?_
    · exact fr_ret hw
    · exact fr_ret hw
theorem rX10_first {w0 w : HW} (hw : Sx sc w0 w) (x1 : Int32) : Fr sc w0 ρIW (fX10_first w x1) := by
  unfold fX10_first
  refine fr_bW (fun a ha => rX10_asksDay hw x1 a ha) (fun r_1 w_2 hw_2 => ?_)
  refine fr_if ?_ ?_
  · exact fr_ret hw_2
  · refine fr_b (fun r_4 => ?_)
    refine fr_b (fun r_6 => ?_)
    refine fr_if ?_ ?_
    · exact rX10_first_36 hw_2
    · exact rX10_first_36 hw_2
/-! X10_passed -/
theorem rX10_passed {w0 w : HW} (hw : Sx sc w0 w) (x1 : Int32) : Fr sc w0 ρIW (fX10_passed w x1) := by
  unfold fX10_passed
  refine fr_bW (fun a ha => rX10_asksDay hw x1 a ha) (fun r_1 w_2 hw_2 => ?_)
  refine fr_if ?_ ?_
  · refine fr_if ?_ ?_
    · exact fr_ret hw_2
    · exact fr_none
  · exact fr_ret hw_2
/-! X10_when -/
theorem rX10_when {w0 w : HW} (hw : Sx sc w0 w) (x1 : Int32) : Fr sc w0 ρIW (fX10_when w x1) := by
  unfold fX10_when
  refine fr_bW (fun a ha => rX10_asksBill hw x1 a ha) (fun r_1 w_2 hw_2 => ?_)
  refine fr_if ?_ ?_
  · refine fr_if ?_ ?_
    · exact fr_ret hw_2
    · exact fr_none
  · exact fr_ret hw_2
/-! X10_why -/
theorem rX10_why {w0 w : HW} (hw : Sx sc w0 w) (x1 : Int32) : Fr sc w0 ρIW (fX10_why w x1) := by
  unfold fX10_why
  refine fr_bW (fun a ha => rX10_asksBill hw x1 a ha) (fun r_1 w_2 hw_2 => ?_)
  refine fr_if ?_ ?_
  · exact fr_ret hw_2
  · refine fr_if ?_ ?_
    · refine fr_if ?_ ?_
      · exact fr_ret hw_2
      · refine fr_if ?_ ?_
        · refine fr_if ?_ ?_
          · refine fr_b (fun r_8 => ?_)
            refine fr_b (fun r_10 => ?_)
            exact fr_ret hw_2
          · exact fr_none
        · exact fr_none
    · exact fr_none
/-! X10_worth -/
theorem rX10_worth_22 {w0 : HW} {x1 : Int32} : ∀ (n : Nat) (w : HW) (x2 : Int32) (x3 : Int32), Sx sc w0 w → Fr sc w0 ρIW (fX10_worth_22 x1 n w x2 x3) := by
  intro n
  induction n with
  | zero => intro _ _ _ _; exact fr_none
  | succ n ih =>
    intro w x2 x3 hw
    rw [fX10_worth_22]
    refine fr_if ?_ ?_
    · refine fr_if ?_ ?_
      · refine fr_b (fun r_9 => ?_)
        refine fr_if ?_ ?_
        · refine fr_if ?_ ?_
          · refine fr_if ?_ ?_
            · refine fr_b (fun r_14 => ?_)
              refine fr_l (fun x2_16 => ?_)
              exact ih _ _ _ hw
            · refine fr_l (fun x2_17 => ?_)
              exact ih _ _ _ hw
          · exact fr_none
        · refine fr_l (fun x2_18 => ?_)
          exact ih _ _ _ hw
      · exact fr_ret hw
    · exact fr_none
theorem rX10_worth {w0 w : HW} (hw : Sx sc w0 w) (x1 : Int32) : Fr sc w0 ρIW (fX10_worth w x1) := by
  unfold fX10_worth
  refine fr_bW (fun a ha => rX10_asksCamp hw a ha) (fun r_1 w_2 hw_2 => ?_)
  refine fr_if ?_ ?_
  · refine fr_b (fun r_4 => ?_)
    refine fr_if ?_ ?_
    · exact fr_ret hw_2
    · exact rX10_worth_22 _ _ _ _ hw_2
  · exact fr_ret hw_2
/-! X10_layOwn -/
theorem rX10_layOwn_32 {w0 w : HW} {K5 : HW → Int32 → Option HW} {x1 : Int32} {x2 : Int32} (hK5 : ∀ z0 z1, Sx sc w0 z0 → Fr sc w0 ρW (K5 z0 z1)) (hw : Sx sc w0 w) : Fr sc w0 ρW (fX10_layOwn_32 w K5 x1 x2) := by
  unfold fX10_layOwn_32
  refine fr_if ?_ ?_
  · exact hK5 _ _ hw
  · refine fr_b (fun r_9 => ?_)
    refine fr_b (fun r_11 => ?_)
    refine fr_if ?_ ?_
    · refine fr_uI hw rfl (fun w_14 hw_14 => ?_)
      refine fr_if ?_ ?_
      · refine fr_uI hw_14 rfl (fun w_16 hw_16 => ?_)
        refine fr_uI hw_16 rfl (fun w_17 hw_17 => ?_)
        exact hK5 _ _ hw_17
      · exact fr_none
    · exact fr_none
theorem rX10_layOwn_7 {w0 : HW} {x1 : Int32} : ∀ (n : Nat) (w : HW) (x2 : Int32), Sx sc w0 w → Fr sc w0 ρW (fX10_layOwn_7 x1 n w x2) := by
  intro n
  induction n with
  | zero => intro _ _ _; exact fr_none
  | succ n ih =>
    intro w x2 hw
    rw [fX10_layOwn_7]
    refine fr_if ?_ ?_
    · refine fr_if ?_ ?_
      · refine fr_if ?_ ?_
        · refine fr_b (fun r_5 => ?_)
          refine fr_if ?_ ?_
          · exact rX10_layOwn_32 (fun _ _ hw => ih _ _ hw) hw
          · exact ih _ _ hw
        · exact rX10_layOwn_32 (fun _ _ hw => ih _ _ hw) hw
      · exact fr_retW hw
    · exact fr_none
theorem rX10_layOwn {w0 w : HW} (hw : Sx sc w0 w) (x1 : Int32) : Fr sc w0 ρW (fX10_layOwn w x1) := by
  unfold fX10_layOwn
  refine fr_uI hw rfl (fun w_1 hw_1 => ?_)
  exact rX10_layOwn_7 _ _ _ hw_1
/-! X10_layState -/
theorem rX10_layState_221 {w0 w : HW} {K47 : HW → Int32 → Option HW} {x1 : Int32} {x3 : Int32} {x4 : Int32} {x6 : Int32} {x7 : Int32} {s0 : Int32} {s1 : Int32} {s2 : Int32} (hK47 : ∀ z0 z1, Sx sc w0 z0 → Fr sc w0 ρW (K47 z0 z1)) (hw : Sx sc w0 w) : Fr sc w0 ρW (fX10_layState_221 w K47 x1 x3 x4 x6 x7 s0 s1 s2) := by
  unfold fX10_layState_221
  refine fr_if ?_ ?_
  · refine fr_uI hw rfl (fun w_45 hw_45 => ?_)
    refine fr_if ?_ ?_
    · refine fr_if ?_ ?_
      · refine fr_if ?_ ?_
        · refine fr_uI hw_45 rfl (fun w_49 hw_49 => ?_)
          exact hK47 _ _ hw_49
        · exact fr_none
      · exact fr_none
    · exact fr_none
  · exact fr_none
theorem rX10_layState_171 {w0 w : HW} {K47 : HW → Int32 → Option HW} {x1 : Int32} {x3 : Int32} {x4 : Int32} {x6 : Int32} {x7 : Int32} {x8 : Int32} (hK47 : ∀ z0 z1, Sx sc w0 z0 → Fr sc w0 ρW (K47 z0 z1)) (hw : Sx sc w0 w) : Fr sc w0 ρW (fX10_layState_171 w K47 x1 x3 x4 x6 x7 x8) := by
  unfold fX10_layState_171
  refine fr_if ?_ ?_
  · refine fr_if ?_ ?_
    · refine fr_uI hw rfl (fun w_39 hw_39 => ?_)
      refine fr_if ?_ ?_
      · refine fr_if ?_ ?_
        · refine fr_if ?_ ?_
          · refine fr_if ?_ ?_
            · exact rX10_layState_221 hK47 hw_39
            · exact fr_none
          · exact rX10_layState_221 hK47 hw_39
        · exact fr_none
      · exact fr_none
    · exact fr_none
  · exact fr_none
theorem rX10_layState_78 {w0 : HW} {x1 : Int32} {x3 : Int32} {x4 : Int32} : ∀ (n : Nat) (w : HW) (x6 : Int32), Sx sc w0 w → Fr sc w0 ρW (fX10_layState_78 x1 x3 x4 n w x6) := by
  intro n
  induction n with
  | zero => intro _ _ _; exact fr_none
  | succ n ih =>
    intro w x6 hw
    rw [fX10_layState_78]
    refine fr_if ?_ ?_
    · refine fr_if ?_ ?_
      · refine fr_b (fun r_20 => ?_)
        refine fr_if ?_ ?_
        · refine fr_b (fun r_23 => ?_)
          refine fr_if ?_ ?_
          · exact ih _ _ hw
          · refine fr_b (fun r_26 => ?_)
            refine fr_if ?_ ?_
            · refine fr_b (fun r_29 => ?_)
              refine fr_if ?_ ?_
              · refine fr_l (fun x8_32 => ?_)
                refine fr_if ?_ ?_
                · refine fr_if ?_ ?_
                  · refine fr_if ?_ ?_
                    · refine fr_uI hw rfl (fun w_36 hw_36 => ?_)
                      exact rX10_layState_171 (fun _ _ hw => ih _ _ hw) hw_36
                    · exact fr_none
                  · exact rX10_layState_171 (fun _ _ hw => ih _ _ hw) hw
                · exact fr_none
              · exact fr_none
            · exact fr_none
        · exact ih _ _ hw
      · exact fr_none
    · exact fr_retW hw
theorem rX10_layState {w0 w : HW} (hw : Sx sc w0 w) (x1 : Int32) (x2 : Int32) (x3 : Int32) : Fr sc w0 ρW (fX10_layState w x1 x2 x3) := by
  unfold fX10_layState
  refine fr_b (fun r_1 => ?_)
  refine fr_b (fun r_3 => ?_)
  refine fr_b (fun r_5 => ?_)
  refine fr_if ?_ ?_
  · refine fr_if ?_ ?_
    · refine fr_uI hw rfl (fun w_9 hw_9 => ?_)
      refine fr_if ?_ ?_
      · refine fr_if ?_ ?_
        · refine fr_uI hw_9 rfl (fun w_12 hw_12 => ?_)
          refine fr_if ?_ ?_
          · refine fr_if ?_ ?_
            · refine fr_uI hw_12 rfl (fun w_15 hw_15 => ?_)
              refine fr_if ?_ ?_
              · refine fr_if ?_ ?_
                · exact fr_retW hw_15
                · exact rX10_layState_78 _ _ _ hw_15
              · exact fr_none
            · exact fr_none
          · exact fr_none
        · exact fr_none
      · exact fr_none
    · exact fr_none
  · exact fr_none
/-! X10_layPlans -/
theorem rX10_layPlans_31 {w0 : HW} {K8 : HW → Int32 → Option (Int32 × HW)} {K12 : HW → Int32 → Option (Int32 × HW)} {x2 : Int32} {x3 : Int32} (hK8 : ∀ z0 z1, Sx sc w0 z0 → Fr sc w0 ρIW (K8 z0 z1)) (hK12 : ∀ z0 z1, Sx sc w0 z0 → Fr sc w0 ρIW (K12 z0 z1)) : ∀ (n : Nat) (w : HW) (x4 : Int32), Sx sc w0 w → Fr sc w0 ρIW (fX10_layPlans_31 K8 K12 x2 x3 n w x4) := by
  intro n
  induction n with
  | zero => intro _ _ _; exact fr_none
  | succ n ih =>
    intro w x4 hw
    rw [fX10_layPlans_31]
    refine fr_if ?_ ?_
    · refine fr_if ?_ ?_
      · refine fr_if ?_ ?_
        · refine fr_bw (fun a ha => rX10_layState hw x2 x3 x4 a ha) (fun w_15 hw_15 => ?_)
          exact ih _ _ hw_15
        · refine fr_b (fun r_16 => ?_)
          refine fr_if ?_ ?_
          · refine fr_uI hw rfl (fun w_19 hw_19 => ?_)
            refine fr_b (fun r_20 => ?_)
            refine fr_if ?_ ?_
            · refine fr_uI hw_19 rfl (fun w_23 hw_23 => ?_)
              refine fr_b (fun r_24 => ?_)
              refine fr_if ?_ ?_
              · refine fr_uI hw_23 rfl (fun w_27 hw_27 => ?_)
                exact ih _ _ hw_27
              · exact fr_none
            · exact fr_none
          · exact fr_none
      · exact fr_none
    · exact hK12 _ _ hw
theorem rX10_layPlans_18 {w0 : HW} {K8 : HW → Int32 → Option (Int32 × HW)} {x2 : Int32} (hK8 : ∀ z0 z1, Sx sc w0 z0 → Fr sc w0 ρIW (K8 z0 z1)) : ∀ (n : Nat) (w : HW) (x3 : Int32), Sx sc w0 w → Fr sc w0 ρIW (fX10_layPlans_18 K8 x2 n w x3) := by
  intro n
  induction n with
  | zero => intro _ _ _; exact fr_none
  | succ n ih =>
    intro w x3 hw
    rw [fX10_layPlans_18]
    refine fr_if ?_ ?_
    · refine fr_if ?_ ?_
      · exact rX10_layPlans_31 hK8 (fun _ _ hw => ih _ _ hw) _ _ _ hw
      · exact hK8 _ _ hw
    · exact fr_none
theorem rX10_layPlans_12 {w0 : HW} : ∀ (n : Nat) (w : HW) (x2 : Int32), Sx sc w0 w → Fr sc w0 ρIW (fX10_layPlans_12 n w x2) := by
  intro n
  induction n with
  | zero => intro _ _ _; exact fr_none
  | succ n ih =>
    intro w x2 hw
    rw [fX10_layPlans_12]
    refine fr_if ?_ ?_
    · exact rX10_layPlans_18 (fun _ _ hw => ih _ _ hw) _ _ _ hw
    · refine fr_b (fun r_6 => ?_)
      refine fr_if ?_ ?_
      · exact fr_ret hw
      · exact fr_none
theorem rX10_layPlans {w0 w : HW} (hw : Sx sc w0 w) (x1 : Int32) : Fr sc w0 ρIW (fX10_layPlans w x1) := by
  unfold fX10_layPlans
  refine fr_bw (fun a ha => rX10_layOwn hw x1 a ha) (fun w_2 hw_2 => ?_)
  refine fr_if ?_ ?_
  · refine fr_l (fun x2_4 => ?_)
    exact rX10_layPlans_12 _ _ _ hw_2
  · exact fr_none
/-! X10_plan -/
theorem rX10_plan {w0 w : HW} (hw : Sx sc w0 w) (x1 : Int32) : Fr sc w0 ρIW (fX10_plan w x1) := by
  unfold fX10_plan
  refine fr_b (fun r_1 => ?_)
  refine fr_if ?_ ?_
  · refine fr_bW (fun a ha => rX10_layPlans hw x1 a ha) (fun r_4 w_5 hw_5 => ?_)
    exact fr_ret hw_5
  · exact fr_ret hw
/-! X10_ways -/
theorem rX10_ways {w0 w : HW} (hw : Sx sc w0 w) (x1 : Int32) : Fr sc w0 ρIW (fX10_ways w x1) := by
  unfold fX10_ways
  refine fr_b (fun r_1 => ?_)
  refine fr_if ?_ ?_
  · exact fr_ret hw
  · refine fr_bW (fun a ha => rX10_layPlans hw x1 a ha) (fun r_4 w_5 hw_5 => ?_)
    refine fr_b (fun r_6 => ?_)
    refine fr_if ?_ ?_
    · exact fr_ret hw_5
    · exact fr_none
/-! X10_many -/
theorem rX10_many {w0 w : HW} (hw : Sx sc w0 w) (x1 : Int32) : Fr sc w0 ρIW (fX10_many w x1) := by
  unfold fX10_many
  refine fr_b (fun r_1 => ?_)
  refine fr_if ?_ ?_
  · exact fr_ret hw
  · refine fr_bW (fun a ha => rX10_layPlans hw x1 a ha) (fun r_4 w_5 hw_5 => ?_)
    refine fr_b (fun r_6 => ?_)
    refine fr_if ?_ ?_
    · exact fr_ret hw_5
    · exact fr_none
/-! X10_planned -/
theorem rX10_planned_218 {w0 w : HW} {x5 : Int32} (hw : Sx sc w0 w) : Fr sc w0 ρIW (fX10_planned_218 w x5) := by
  unfold fX10_planned_218
  refine fr_if ?_ ?_
  · exact fr_ret hw
  · refine fr_if ?_ ?_
    · exact fr_ret hw
    · exact fr_none
theorem rX10_planned_192 {w0 w : HW} {K31 : HW → Int32 → Int32 → Int32 → Int32 → Option (Int32 × HW)} {x2 : Int32} {x4 : Int32} {x5 : Int32} {x6 : Int32} {s0 : Int32} (hK31 : ∀ z0 z1 z2 z3 z4, Sx sc w0 z0 → Fr sc w0 ρIW (K31 z0 z1 z2 z3 z4)) (hw : Sx sc w0 w) : Fr sc w0 ρIW (fX10_planned_192 w K31 x2 x4 x5 x6 s0) := by
  unfold fX10_planned_192
  refine fr_if ?_ ?_
  · refine fr_l (fun x4_44 => ?_)
    exact hK31 _ _ _ _ _ hw
  · refine fr_l (fun x4_45 => ?_)
    exact hK31 _ _ _ _ _ hw
theorem rX10_planned_102 {w0 : HW} {K31 : HW → Int32 → Int32 → Int32 → Int32 → Option (Int32 × HW)} {x2 : Int32} {x3 : Int32} {x4 : Int32} {x6 : Int32} {x7 : Int32} (hK31 : ∀ z0 z1 z2 z3 z4, Sx sc w0 z0 → Fr sc w0 ρIW (K31 z0 z1 z2 z3 z4)) : ∀ (n : Nat) (w : HW) (x5 : Int32), Sx sc w0 w → Fr sc w0 ρIW (fX10_planned_102 K31 x2 x3 x4 x6 x7 n w x5) := by
  intro n
  induction n with
  | zero => intro _ _ _; exact fr_none
  | succ n ih =>
    intro w x5 hw
    rw [fX10_planned_102]
    refine fr_if ?_ ?_
    · refine fr_b (fun r_26 => ?_)
      refine fr_if ?_ ?_
      · refine fr_b (fun r_29 => ?_)
        refine fr_if ?_ ?_
        · refine fr_if ?_ ?_
          · refine fr_b (fun r_33 => ?_)
            refine fr_b (fun r_35 => ?_)
            refine fr_if ?_ ?_
            · refine fr_if ?_ ?_
              · refine fr_if ?_ ?_
                · exact ih _ _ hw
                · refine fr_if ?_ ?_
                  · refine fr_b (fun r_41 => ?_)
                    exact rX10_planned_192 hK31 hw
                  · exact rX10_planned_192 hK31 hw
              · exact fr_none
            · exact fr_none
          · exact fr_none
        · exact ih _ _ hw
      · exact ih _ _ hw
    · exact fr_none
theorem rX10_planned_51 {w0 : HW} {x2 : Int32} : ∀ (n : Nat) (w : HW) (x3 : Int32) (x4 : Int32) (x5 : Int32) (x6 : Int32), Sx sc w0 w → Fr sc w0 ρIW (fX10_planned_51 x2 n w x3 x4 x5 x6) := by
  intro n
  induction n with
  | zero => intro _ _ _ _ _ _; exact fr_none
  | succ n ih =>
    intro w x3 x4 x5 x6 hw
    rw [fX10_planned_51]
    refine fr_if ?_ ?_
    · refine fr_b (fun r_13 => ?_)
      refine fr_b (fun r_15 => ?_)
      refine fr_b (fun r_17 => ?_)
      refine fr_if ?_ ?_
      · refine fr_if ?_ ?_
        · refine fr_if ?_ ?_
          · exact rX10_planned_102 (fun _ _ _ _ _ hw => ih _ _ _ _ _ hw) _ _ _ hw
          · refine fr_if ?_ ?_
            · refine fr_b (fun r_23 => ?_)
              exact rX10_planned_192 (fun _ _ _ _ _ hw => ih _ _ _ _ _ hw) hw
            · exact rX10_planned_192 (fun _ _ _ _ _ hw => ih _ _ _ _ _ hw) hw
        · exact fr_none
      · exact fr_none
    · exact rX10_planned_218 hw
theorem rX10_planned {w0 w : HW} (hw : Sx sc w0 w) (x1 : Int32) (x2 : Int32) : Fr sc w0 ρIW (fX10_planned w x1 x2) := by
  unfold fX10_planned
  refine fr_b (fun r_1 => ?_)
  refine fr_if ?_ ?_
  · refine fr_b (fun r_4 => ?_)
    refine fr_if ?_ ?_
    · exact fr_ret hw
    · refine fr_bW (fun a ha => rX10_layPlans hw x1 a ha) (fun r_7 w_8 hw_8 => ?_)
      refine fr_if ?_ ?_
      · refine fr_if ?_ ?_
        · refine fr_l (fun x3_11 => ?_)
          exact rX10_planned_51 _ _ _ _ _ _ hw_8
        · exact fr_none
      · exact fr_none
  · exact fr_ret hw
/-! X10_together -/
theorem rX10_together {w0 w : HW} (hw : Sx sc w0 w) : Fr sc w0 ρIW (fX10_together w) := by
  unfold fX10_together
  refine fr_b (fun r_1 => ?_)
  refine fr_if ?_ ?_
  · refine fr_bW (fun a ha => rX10_layPlans hw 2 a ha) (fun r_4 w_5 hw_5 => ?_)
    exact fr_ret hw_5
  · exact fr_ret hw
/-! X10_falls -/
theorem rX10_falls {w0 w : HW} (hw : Sx sc w0 w) (x1 : Int32) : Fr sc w0 ρIW (fX10_falls w x1) := by
  unfold fX10_falls
  refine fr_bW (fun a ha => rX10_asksDay hw x1 a ha) (fun r_1 w_2 hw_2 => ?_)
  refine fr_if ?_ ?_
  · refine fr_b (fun r_4 => ?_)
    exact fr_ret hw_2
  · exact fr_ret hw_2
/-! X10_worst -/
theorem rX10_worst_16 {w0 : HW} : ∀ (n : Nat) (w : HW) (x1 : Int32) (x2 : Int32) (x3 : Int32), Sx sc w0 w → Fr sc w0 ρIW (fX10_worst_16 n w x1 x2 x3) := by
  intro n
  induction n with
  | zero => intro _ _ _ _ _; exact fr_none
  | succ n ih =>
    intro w x1 x2 x3 hw
    rw [fX10_worst_16]
    refine fr_if ?_ ?_
    · refine fr_if ?_ ?_
      · refine fr_b (fun r_6 => ?_)
        refine fr_b (fun r_8 => ?_)
        refine fr_if ?_ ?_
        · exact ih _ _ _ _ hw
        · exact ih _ _ _ _ hw
      · exact fr_ret hw
    · exact fr_none
theorem rX10_worst {w0 w : HW} (hw : Sx sc w0 w) : Fr sc w0 ρIW (fX10_worst w) := by
  unfold fX10_worst
  refine fr_bW (fun a ha => rX10_asksCamp hw a ha) (fun r_1 w_2 hw_2 => ?_)
  refine fr_if ?_ ?_
  · exact fr_ret hw_2
  · exact rX10_worst_16 _ _ _ _ _ hw_2
/-! X10_layPairs -/
theorem rX10_layPairs_198 {w0 w : HW} {K59 : HW → Int32 → Option (Int32 × HW)} {K64 : HW → Int32 → Option (Int32 × HW)} {x1 : Int32} {x2 : Int32} {x3 : Int32} {x4 : Int32} {x5 : Int32} (hK59 : ∀ z0 z1, Sx sc w0 z0 → Fr sc w0 ρIW (K59 z0 z1)) (hK64 : ∀ z0 z1, Sx sc w0 z0 → Fr sc w0 ρIW (K64 z0 z1)) (hw : Sx sc w0 w) : Fr sc w0 ρIW (fX10_layPairs_198 w K59 K64 x1 x2 x3 x4 x5) := by
  unfold fX10_layPairs_198
  refine fr_if ?_ ?_
  · exact hK64 _ _ hw
  · refine fr_if ?_ ?_
    · refine fr_uI hw rfl (fun w_41 hw_41 => ?_)
      refine fr_uI hw_41 rfl (fun w_42 hw_42 => ?_)
      exact hK64 _ _ hw_42
    · exact fr_none
theorem rX10_layPairs_182 {w0 w : HW} {K59 : HW → Int32 → Option (Int32 × HW)} {K64 : HW → Int32 → Option (Int32 × HW)} {K80 : HW → Int32 → Int32 → Option (Int32 × HW)} {x1 : Int32} {x2 : Int32} {x3 : Int32} {x4 : Int32} {x6 : Int32} {s0 : Int32} {s1 : Int32} (hK59 : ∀ z0 z1, Sx sc w0 z0 → Fr sc w0 ρIW (K59 z0 z1)) (hK64 : ∀ z0 z1, Sx sc w0 z0 → Fr sc w0 ρIW (K64 z0 z1)) (hK80 : ∀ z0 z1 z2, Sx sc w0 z0 → Fr sc w0 ρIW (K80 z0 z1 z2)) (hw : Sx sc w0 w) : Fr sc w0 ρIW (fX10_layPairs_182 w K59 K64 K80 x1 x2 x3 x4 x6 s0 s1) := by
  unfold fX10_layPairs_182
  refine fr_if ?_ ?_
  · exact hK80 _ _ _ hw
  · exact hK80 _ _ _ hw
theorem rX10_layPairs_133 {w0 : HW} {K59 : HW → Int32 → Option (Int32 × HW)} {K64 : HW → Int32 → Option (Int32 × HW)} {x1 : Int32} {x2 : Int32} {x3 : Int32} {x4 : Int32} (hK59 : ∀ z0 z1, Sx sc w0 z0 → Fr sc w0 ρIW (K59 z0 z1)) (hK64 : ∀ z0 z1, Sx sc w0 z0 → Fr sc w0 ρIW (K64 z0 z1)) : ∀ (n : Nat) (w : HW) (x5 : Int32) (x6 : Int32), Sx sc w0 w → Fr sc w0 ρIW (fX10_layPairs_133 K59 K64 x1 x2 x3 x4 n w x5 x6) := by
  intro n
  induction n with
  | zero => intro _ _ _ _; exact fr_none
  | succ n ih =>
    intro w x5 x6 hw
    rw [fX10_layPairs_133]
    refine fr_if ?_ ?_
    · refine fr_if ?_ ?_
      · refine fr_if ?_ ?_
        · refine fr_b (fun r_31 => ?_)
          refine fr_b (fun r_33 => ?_)
          refine fr_b (fun r_35 => ?_)
          refine fr_if ?_ ?_
          · exact rX10_layPairs_182 hK59 hK64 (fun _ _ _ hw => ih _ _ _ hw) hw
          · exact rX10_layPairs_182 hK59 hK64 (fun _ _ _ hw => ih _ _ _ hw) hw
        · exact ih _ _ _ hw
      · exact rX10_layPairs_198 hK59 hK64 hw
    · exact fr_none
theorem rX10_layPairs_109 {w0 : HW} {K59 : HW → Int32 → Option (Int32 × HW)} {x1 : Int32} {x2 : Int32} (hK59 : ∀ z0 z1, Sx sc w0 z0 → Fr sc w0 ρIW (K59 z0 z1)) : ∀ (n : Nat) (w : HW) (x3 : Int32), Sx sc w0 w → Fr sc w0 ρIW (fX10_layPairs_109 K59 x1 x2 n w x3) := by
  intro n
  induction n with
  | zero => intro _ _ _; exact fr_none
  | succ n ih =>
    intro w x3 hw
    rw [fX10_layPairs_109]
    refine fr_if ?_ ?_
    · refine fr_if ?_ ?_
      · refine fr_l (fun x4_27 => ?_)
        exact rX10_layPairs_133 hK59 (fun _ _ hw => ih _ _ hw) _ _ _ _ hw
      · exact hK59 _ _ hw
    · exact fr_none
theorem rX10_layPairs_101 {w0 : HW} {x1 : Int32} : ∀ (n : Nat) (w : HW) (x2 : Int32), Sx sc w0 w → Fr sc w0 ρIW (fX10_layPairs_101 x1 n w x2) := by
  intro n
  induction n with
  | zero => intro _ _ _; exact fr_none
  | succ n ih =>
    intro w x2 hw
    rw [fX10_layPairs_101]
    refine fr_if ?_ ?_
    · exact rX10_layPairs_109 (fun _ _ hw => ih _ _ hw) _ _ _ hw
    · exact fr_ret hw
theorem rX10_layPairs_46 {w0 : HW} {x1 : Int32} : ∀ (n : Nat) (w : HW) (x2 : Int32), Sx sc w0 w → Fr sc w0 ρIW (fX10_layPairs_46 x1 n w x2) := by
  intro n
  induction n with
  | zero => intro _ _ _; exact fr_none
  | succ n ih =>
    intro w x2 hw
    rw [fX10_layPairs_46]
    refine fr_if ?_ ?_
    · refine fr_if ?_ ?_
      · refine fr_b (fun r_13 => ?_)
        refine fr_b (fun r_15 => ?_)
        refine fr_if ?_ ?_
        · refine fr_b (fun r_18 => ?_)
          refine fr_b (fun r_20 => ?_)
          refine fr_if ?_ ?_
          · exact fr_ret hw
          · exact ih _ _ hw
        · exact fr_ret hw
      · refine fr_uI hw rfl (fun w_23 hw_23 => ?_)
        exact rX10_layPairs_101 _ _ _ hw_23
    · exact fr_none
theorem rX10_layPairs {w0 w : HW} (hw : Sx sc w0 w) (x1 : Int32) : Fr sc w0 ρIW (fX10_layPairs w x1) := by
  unfold fX10_layPairs
  refine fr_b (fun r_1 => ?_)
  refine fr_if ?_ ?_
  · refine fr_b (fun r_4 => ?_)
    refine fr_if ?_ ?_
    · exact fr_ret hw
    · refine fr_if ?_ ?_
      · refine fr_if ?_ ?_
        · exact fr_ret hw
        · refine fr_if ?_ ?_
          · refine fr_if ?_ ?_
            · exact fr_ret hw
            · exact rX10_layPairs_46 _ _ _ hw
          · exact fr_none
      · exact fr_none
  · exact fr_ret hw
/-! X10_fits -/
theorem rX10_fits {w0 w : HW} (hw : Sx sc w0 w) (x1 : Int32) : Fr sc w0 ρIW (fX10_fits w x1) := by
  unfold fX10_fits
  refine fr_bW (fun a ha => rX10_layPairs hw x1 a ha) (fun r_1 w_2 hw_2 => ?_)
  refine fr_if ?_ ?_
  · exact fr_ret hw_2
  · exact fr_ret hw_2
/-! X10_fed -/
theorem rX10_fed {w0 w : HW} (hw : Sx sc w0 w) (x1 : Int32) : Fr sc w0 ρIW (fX10_fed w x1) := by
  unfold fX10_fed
  refine fr_bW (fun a ha => rX10_layPairs hw x1 a ha) (fun r_1 w_2 hw_2 => ?_)
  refine fr_if ?_ ?_
  · exact fr_ret hw_2
  · refine fr_b (fun r_4 => ?_)
    refine fr_if ?_ ?_
    · exact fr_ret hw_2
    · exact fr_none
/-! X10_starved -/
theorem rX10_starved {w0 w : HW} (hw : Sx sc w0 w) (x1 : Int32) : Fr sc w0 ρIW (fX10_starved w x1) := by
  unfold fX10_starved
  refine fr_bW (fun a ha => rX10_layPairs hw x1 a ha) (fun r_1 w_2 hw_2 => ?_)
  refine fr_if ?_ ?_
  · exact fr_ret hw_2
  · refine fr_b (fun r_4 => ?_)
    refine fr_if ?_ ?_
    · refine fr_b (fun r_7 => ?_)
      exact fr_ret hw_2
    · exact fr_none
/-! X10_least -/
theorem rX10_least {w0 w : HW} (hw : Sx sc w0 w) (x1 : Int32) : Fr sc w0 ρIW (fX10_least w x1) := by
  unfold fX10_least
  refine fr_bW (fun a ha => rX10_layPairs hw x1 a ha) (fun r_1 w_2 hw_2 => ?_)
  refine fr_if ?_ ?_
  · exact fr_ret hw_2
  · refine fr_if ?_ ?_
    · exact fr_ret hw_2
    · refine fr_if ?_ ?_
      · exact fr_ret hw_2
      · exact fr_none
/-! X10_askOf -/
theorem rX10_askOf_65 {w0 w : HW} {K8 : HW → Int32 → Int32 → Option (Int32 × HW)} {x1 : Int32} {x2 : Int32} {x3 : Int32} (hK8 : ∀ z0 z1 z2, Sx sc w0 z0 → Fr sc w0 ρIW (K8 z0 z1 z2)) (hw : Sx sc w0 w) : Fr sc w0 ρIW (fX10_askOf_65 w K8 x1 x2 x3) := by
  unfold fX10_askOf_65
  refine fr_l (fun x4_11 => ?_)
  refine fr_if ?_ ?_
  · exact hK8 _ _ _ hw
  · refine fr_uI hw rfl (fun w_13 hw_13 => ?_)
    exact hK8 _ _ _ hw_13
theorem rX10_askOf_27 {w0 : HW} {K8 : HW → Int32 → Int32 → Option (Int32 × HW)} {x1 : Int32} {x2 : Int32} (hK8 : ∀ z0 z1 z2, Sx sc w0 z0 → Fr sc w0 ρIW (K8 z0 z1 z2)) : ∀ (n : Nat) (w : HW) (x3 : Int32) (x4 : Int32), Sx sc w0 w → Fr sc w0 ρIW (fX10_askOf_27 K8 x1 x2 n w x3 x4) := by
  intro n
  induction n with
  | zero => intro _ _ _ _; exact fr_none
  | succ n ih =>
    intro w x3 x4 hw
    rw [fX10_askOf_27]
    refine fr_if ?_ ?_
    · refine fr_if ?_ ?_
      · refine fr_b (fun r_6 => ?_)
        refine fr_if ?_ ?_
        · refine fr_l (fun x3_9 => ?_)
          exact ih _ _ _ hw
        · refine fr_l (fun x3_10 => ?_)
          exact ih _ _ _ hw
      · exact fr_none
    · exact rX10_askOf_65 hK8 hw
theorem rX10_askOf_12 {w0 : HW} : ∀ (n : Nat) (w : HW) (x1 : Int32) (x2 : Int32), Sx sc w0 w → Fr sc w0 ρIW (fX10_askOf_12 n w x1 x2) := by
  intro n
  induction n with
  | zero => intro _ _ _ _; exact fr_none
  | succ n ih =>
    intro w x1 x2 hw
    rw [fX10_askOf_12]
    refine fr_if ?_ ?_
    · refine fr_if ?_ ?_
      · exact rX10_askOf_27 (fun _ _ _ hw => ih _ _ _ hw) _ _ _ _ hw
      · exact fr_ret hw
    · exact fr_none
theorem rX10_askOf {w0 w : HW} (hw : Sx sc w0 w) : Fr sc w0 ρIW (fX10_askOf w) := by
  unfold fX10_askOf
  refine fr_uI hw rfl (fun w_1 hw_1 => ?_)
  exact rX10_askOf_12 _ _ _ _ hw_1
/-! X10_ask -/
theorem rX10_ask {w0 w : HW} (hw : Sx sc w0 w) (x1 : Int32) : Fr sc w0 ρIW (fX10_ask w x1) := by
  unfold fX10_ask
  refine fr_bW (fun a ha => rX10_layPairs hw x1 a ha) (fun r_1 w_2 hw_2 => ?_)
  refine fr_if ?_ ?_
  · exact fr_ret hw_2
  · refine fr_bW (fun a ha => rX10_askOf hw_2 a ha) (fun r_4 w_5 hw_5 => ?_)
    exact fr_ret hw_5
/-! X10_leaves -/
theorem rX10_leaves {w0 w : HW} (hw : Sx sc w0 w) (x1 : Int32) : Fr sc w0 ρIW (fX10_leaves w x1) := by
  unfold fX10_leaves
  refine fr_bW (fun a ha => rX10_layPairs hw x1 a ha) (fun r_1 w_2 hw_2 => ?_)
  refine fr_if ?_ ?_
  · exact fr_ret hw_2
  · refine fr_bW (fun a ha => rX10_askOf hw_2 a ha) (fun r_4 w_5 hw_5 => ?_)
    exact fr_ret hw_5
/-! X10_layList -/
theorem rX10_layList_70 {w0 : HW} {x1 : Int32} : ∀ (n : Nat) (w : HW) (x3 : Int32), Sx sc w0 w → Fr sc w0 ρIW (fX10_layList_70 x1 n w x3) := by
  intro n
  induction n with
  | zero => intro _ _ _; exact fr_none
  | succ n ih =>
    intro w x3 hw
    rw [fX10_layList_70]
    refine fr_if ?_ ?_
    · refine fr_if ?_ ?_
      · refine fr_b (fun r_17 => ?_)
        refine fr_b (fun r_19 => ?_)
        refine fr_if ?_ ?_
        · refine fr_b (fun r_22 => ?_)
          refine fr_b (fun r_24 => ?_)
          refine fr_if ?_ ?_
          · exact fr_ret hw
          · refine fr_b (fun r_27 => ?_)
            refine fr_b (fun r_29 => ?_)
            refine fr_if ?_ ?_
            · refine fr_if ?_ ?_
              · refine fr_uI hw rfl (fun w_33 hw_33 => ?_)
                exact ih _ _ hw_33
              · exact fr_none
            · exact fr_none
        · exact fr_ret hw
      · exact fr_ret hw
    · exact fr_none
theorem rX10_layList_50 {w0 : HW} {x1 : Int32} : ∀ (n : Nat) (w : HW) (x3 : Int32), Sx sc w0 w → Fr sc w0 ρIW (fX10_layList_50 x1 n w x3) := by
  intro n
  induction n with
  | zero => intro _ _ _; exact fr_none
  | succ n ih =>
    intro w x3 hw
    rw [fX10_layList_50]
    refine fr_if ?_ ?_
    · refine fr_if ?_ ?_
      · refine fr_uI hw rfl (fun w_14 hw_14 => ?_)
        exact ih _ _ hw_14
      · exact fr_none
    · exact rX10_layList_70 _ _ _ hw
theorem rX10_layList {w0 w : HW} (hw : Sx sc w0 w) (x1 : Int32) (x2 : Int32) : Fr sc w0 ρIW (fX10_layList w x1 x2) := by
  unfold fX10_layList
  refine fr_b (fun r_1 => ?_)
  refine fr_if ?_ ?_
  · refine fr_b (fun r_4 => ?_)
    refine fr_if ?_ ?_
    · refine fr_if ?_ ?_
      · exact fr_ret hw
      · refine fr_if ?_ ?_
        · refine fr_if ?_ ?_
          · exact fr_ret hw
          · refine fr_if ?_ ?_
            · refine fr_if ?_ ?_
              · exact fr_ret hw
              · exact rX10_layList_50 _ _ _ hw
            · exact fr_none
        · exact fr_none
    · exact fr_ret hw
  · exact fr_ret hw
/-! X10_tally -/
theorem rX10_tally_27 {w0 w : HW} {x2 : Int32} {x3 : Int32} {s0 : Int32} {s1 : Int32} (hw : Sx sc w0 w) : Fr sc w0 ρIW (fX10_tally_27 w x2 x3 s0 s1) := by
  unfold fX10_tally_27
  refine fr_bW (fun a ha => rX10_layList hw s1 s0 a ha) (fun r_7 w_8 hw_8 => ?_)
  refine fr_if ?_ ?_
  · exact fr_ret hw_8
  · refine fr_if ?_ ?_
    · exact fr_ret hw_8
    · exact fr_none
theorem rX10_tally {w0 w : HW} (hw : Sx sc w0 w) (x1 : Int32) (x2 : Int32) (x3 : Int32) : Fr sc w0 ρIW (fX10_tally w x1 x2 x3) := by
  unfold fX10_tally
  refine fr_b (fun r_1 => ?_)
  refine fr_if ?_ ?_
  · refine fr_b (fun r_4 => ?_)
    refine fr_if ?_ ?_
    · exact rX10_tally_27 hw
    · exact rX10_tally_27 hw
  · exact rX10_tally_27 hw
/-! X10_doubt -/
theorem rX10_doubt_112 {w0 w : HW} {x2 : Int32} {x4 : Int32} {x5 : Int32} {x6 : Int32} {x7 : Int64} (hw : Sx sc w0 w) : Fr sc w0 ρLW (fX10_doubt_112 w x2 x4 x5 x6 x7) := by
  unfold fX10_doubt_112
  refine fr_b (fun r_23 => ?_)
  refine fr_b (fun r_25 => ?_)
  exact fr_retL hw
theorem rX10_doubt_76 {w0 : HW} {x2 : Int32} {x4 : Int32} {x5 : Int32} {x6 : Int32} : ∀ (n : Nat) (w : HW) (x7 : Int64) (x9 : Int32), Sx sc w0 w → Fr sc w0 ρLW (fX10_doubt_76 x2 x4 x5 x6 n w x7 x9) := by
  intro n
  induction n with
  | zero => intro _ _ _ _; exact fr_none
  | succ n ih =>
    intro w x7 x9 hw
    rw [fX10_doubt_76]
    refine fr_if ?_ ?_
    · refine fr_b (fun r_18 => ?_)
      refine fr_b (fun r_20 => ?_)
      refine fr_l (fun x7_22 => ?_)
      exact ih _ _ _ hw
    · exact rX10_doubt_112 hw
theorem rX10_doubt {w0 w : HW} (hw : Sx sc w0 w) (x1 : Int32) (x2 : Int32) : Fr sc w0 ρLW (fX10_doubt w x1 x2) := by
  unfold fX10_doubt
  refine fr_b (fun r_1 => ?_)
  refine fr_bW (fun a ha => rX10_layList hw x1 r_1 a ha) (fun r_3 w_4 hw_4 => ?_)
  refine fr_if ?_ ?_
  · exact fr_retL hw_4
  · refine fr_if ?_ ?_
    · refine fr_if ?_ ?_
      · refine fr_l (fun x4_8 => ?_)
        refine fr_if ?_ ?_
        · refine fr_if ?_ ?_
          · refine fr_l (fun x5_11 => ?_)
            refine fr_if ?_ ?_
            · refine fr_if ?_ ?_
              · refine fr_l (fun x6_14 => ?_)
                refine fr_if ?_ ?_
                · refine fr_l (fun x9_16 => ?_)
                  exact rX10_doubt_76 _ _ _ _ hw_4
                · exact fr_none
              · exact fr_none
            · exact fr_none
          · exact fr_none
        · exact fr_none
      · exact fr_none
    · exact fr_none
/-! X10_share -/
theorem rX10_share_27 {w0 w : HW} {x2 : Int32} {x3 : Int32} {s0 : Int32} {s1 : Int32} (hw : Sx sc w0 w) : Fr sc w0 ρIW (fX10_share_27 w x2 x3 s0 s1) := by
  unfold fX10_share_27
  refine fr_bW (fun a ha => rX10_layList hw s1 s0 a ha) (fun r_7 w_8 hw_8 => ?_)
  refine fr_if ?_ ?_
  · exact fr_ret hw_8
  · refine fr_if ?_ ?_
    · refine fr_if ?_ ?_
      · refine fr_l (fun x5_12 => ?_)
        refine fr_if ?_ ?_
        · exact fr_ret hw_8
        · refine fr_if ?_ ?_
          · refine fr_b (fun r_15 => ?_)
            exact fr_ret hw_8
          · exact fr_none
      · exact fr_none
    · exact fr_none
theorem rX10_share {w0 w : HW} (hw : Sx sc w0 w) (x1 : Int32) (x2 : Int32) (x3 : Int32) : Fr sc w0 ρIW (fX10_share w x1 x2 x3) := by
  unfold fX10_share
  refine fr_b (fun r_1 => ?_)
  refine fr_if ?_ ?_
  · refine fr_b (fun r_4 => ?_)
    refine fr_if ?_ ?_
    · exact rX10_share_27 hw
    · exact rX10_share_27 hw
  · exact rX10_share_27 hw
/-! X10_leans -/
theorem rX10_leans {w0 w : HW} (hw : Sx sc w0 w) (x1 : Int32) : Fr sc w0 ρIW (fX10_leans w x1) := by
  unfold fX10_leans
  refine fr_bW (fun a ha => rX10_layList hw x1 1 a ha) (fun r_1 w_2 hw_2 => ?_)
  refine fr_if ?_ ?_
  · exact fr_ret hw_2
  · refine fr_if ?_ ?_
    · refine fr_if ?_ ?_
      · refine fr_l (fun x3_6 => ?_)
        refine fr_if ?_ ?_
        · refine fr_if ?_ ?_
          · refine fr_l (fun x4_9 => ?_)
            refine fr_if ?_ ?_
            · refine fr_if ?_ ?_
              · exact fr_ret hw_2
              · refine fr_if ?_ ?_
                · refine fr_if ?_ ?_
                  · refine fr_b (fun r_14 => ?_)
                    exact fr_ret hw_2
                  · exact fr_none
                · exact fr_none
            · exact fr_ret hw_2
          · exact fr_none
        · exact fr_none
      · exact fr_none
    · exact fr_none
/-! X10_chance -/
theorem rX10_chance_29 {w0 : HW} {x1 : Int32} : ∀ (n : Nat) (w : HW) (x2 : Int64) (x4 : Int64) (x6 : Int32), Sx sc w0 w → Fr sc w0 ρLW (fX10_chance_29 x1 n w x2 x4 x6) := by
  intro n
  induction n with
  | zero => intro _ _ _ _ _; exact fr_none
  | succ n ih =>
    intro w x2 x4 x6 hw
    rw [fX10_chance_29]
    refine fr_if ?_ ?_
    · refine fr_if ?_ ?_
      · refine fr_if ?_ ?_
        · refine fr_if ?_ ?_
          · exact ih _ _ _ _ hw
          · refine fr_if ?_ ?_
            · refine fr_l (fun x2_12 => ?_)
              refine fr_l (fun x4_13 => ?_)
              exact ih _ _ _ _ hw
            · exact fr_none
        · exact fr_none
      · refine fr_b (fun r_14 => ?_)
        exact fr_retL hw
    · exact fr_none
theorem rX10_chance {w0 w : HW} (hw : Sx sc w0 w) (x1 : Int32) : Fr sc w0 ρLW (fX10_chance w x1) := by
  unfold fX10_chance
  refine fr_bW (fun a ha => rX10_asksCamp hw a ha) (fun r_1 w_2 hw_2 => ?_)
  refine fr_if ?_ ?_
  · refine fr_b (fun r_4 => ?_)
    refine fr_if ?_ ?_
    · exact fr_retL hw_2
    · exact rX10_chance_29 _ _ _ _ _ hw_2
  · exact fr_retL hw_2
