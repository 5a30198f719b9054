/-! PLANS, the reference's own bills -/
/-- b is one of those planned with: of the side s (2: of either), and not the one left out (bn, one more) -/
def ow (K : Nat → Nat) (s bn b : Nat) : Bool := decide (b < K 5) && ((decide (s = 2) || decide (K (33 + 3 * b) = s)) && decide (bn ≠ b + 1))
/-- free days of a side, with one day taken, augurs away, one day's mark away -/
def fdS (K : Nat → Nat) (t28 t29 t30 s : Nat) : Nat := nd (nd (nd (2 ^ K 0 - 1) (nd (K 8) t30)) (skF K (fun a => (nd 255 t29 &&& sA K (1 - s)).testBit a) (K 4))) t28
theorem fdS_opD (K : Nat → Nat) (t28 t29 t30 b : Nat) : fdS K t28 t29 t30 (K (33 + 3 * b)) = opD K (nd (K 8) t30) (nd 255 t29) t28 b := rfl
theorem fdS_lt (K : Nat → Nat) (t28 t29 t30 s : Nat) : fdS K t28 t29 t30 s < 2 ^ K 0 := nd_lt (nd_lt (nd_lt (by have := Nat.two_pow_pos (K 0); omega)))
section OWN
variable {w : HW} {K : Nat → Nat} {t28 t29 t30 : Nat}
/-- what the reference plans with: one day taken, augurs away, a mark away, a bill left out -/
def RP (w : HW) (t28 t29 t30 bn : Nat) : Prop := gI w 79 28 = nI t28 ∧ gI w 79 29 = nI t29 ∧ gI w 79 30 = nI t30 ∧ gI w 79 32 = aI bn
theorem freeDays_gen (H : RC w K) (W : WF K) {bn : Nat} (R : RP w t28 t29 t30 bn) {s : Nat} (hs : s ≤ 1) : fX10_freeDays w (nI s) = some (nI (fdS K t28 t29 t30 s)) := by
  have hb := W.b
  unfold fX10_freeDays
  have hl : nd (2 ^ K 4 - 1) t29 < 2 ^ 31 := Nat.lt_of_lt_of_le (nd_lt (n := K 4) (by have := Nat.two_pow_pos (K 4); omega)) (Nat.pow_le_pow_right (by omega) (by omega))
  rw [X10_allAugurs_ok H W, bI_some, one_sub hs, R.1, R.2.1, R.2.2.1, nI_nd, X10_skyBy_ok H W (by omega) hl, bI_some, nI_or, lT_eq, if_pos (show inB 0 77 = true from rfl), if_pos (show inB 8 77 = true from rfl), ix_8, ix_0, H.r0, H.r8, iSl_1 (by omega), show nI (2 ^ K 0) - 1 = nI (2 ^ K 0 - 1) from nI_subI Nat.one_le_two_pow, nI_nd, nI_nd, nI_nd]
  refine congrArg (fun z => some (nI z)) ?_
  have e : skF K (fun a => K (9 + 3 * a) == 1 - s && (nd (2 ^ K 4 - 1) t29).testBit a) (K 4) = skF K (fun a => (nd 255 t29 &&& sA K (1 - s)).testBit a) (K 4) := by
    refine skF_congr _ (fun i hi => ?_)
    unfold sA
    rw [nd_bit, Nat.testBit_and, nd_bit, bS_bit, Nat.testBit_two_pow_sub_one, show (255 : Nat) = 2 ^ 8 - 1 from rfl, Nat.testBit_two_pow_sub_one, decide_eq_true hi, decide_eq_true (show i < 8 by omega), Bool.true_and, Bool.true_and, Bool.and_comm]
  rw [e]
  apply Nat.eq_of_testBit_eq
  intro i
  unfold fdS
  simp only [nd_bit, Nat.testBit_or]
  cases (2 ^ K 0 - 1).testBit i <;> cases (skF K (fun a => (nd 255 t29 &&& sA K (1 - s)).testBit a) (K 4)).testBit i <;> cases (K 8).testBit i <;> cases t30.testBit i <;> cases t28.testBit i <;> rfl
/-- the own bills below b are laid -/
def OL (K : Nat → Nat) (t28 t29 t30 s bn : Nat) (w : HW) (b : Nat) : Prop := gI w 79 27 = nI (cN (ow K s bn) b) ∧ ∀ c, c < b → ow K s bn c = true → gI w 94 (cN (ow K s bn) c) = nI c ∧ gI w 95 (cN (ow K s bn) c) = nI (fdS K t28 t29 t30 (K (33 + 3 * c)))
theorem cN_lt {p : Nat → Bool} {a b : Nat} (h : a < b) (hp : p a = true) : cN p a < cN p b := by
  have L : ∀ m, cN p a + 1 ≤ cN p (a + 1 + m) := by
    intro m
    induction m with
    | zero => rw [Nat.add_zero, cN_s, if_pos hp]; exact Nat.le_refl _
    | succ m ih => rw [← Nat.add_assoc, cN_s]; omega
  obtain ⟨m, rfl⟩ : ∃ m, b = a + 1 + m := ⟨b - (a + 1), by omega⟩
  have := L m
  omega
theorem own7_L (W : WF K) {bn s : Nat} (hs : s ≤ 2) : ∀ F b (w : HW), b ≤ K 5 → K 5 - b < F → RC w K → RP w t28 t29 t30 bn → OL K t28 t29 t30 s bn w b → bn < 100 → ∃ w', fX10_layOwn_7 (nI s) F w (nI b) = some w' ∧ OL K t28 t29 t30 s bn w' (K 5) ∧ RC w' K ∧ RP w' t28 t29 t30 bn := by
  have hb := W.b
  intro F
  induction F with
  | zero => intro b w h1 h2; omega
  | succ F ih =>
    intro b w h1 h2 HR R O hbn
    rw [fX10_layOwn_7, if_pos (show inB 5 77 = true from rfl), ix_5, HR.r5]
    by_cases hbl : b < K 5
    · have hB := W.bil hbl
      have hcb := cN_le (ow K s bn) b
      have no : ow K s bn b = false → ∃ w', fX10_layOwn_7 (nI s) F w (nI (b + 1)) = some w' ∧ OL K t28 t29 t30 s bn w' (K 5) ∧ RC w' K ∧ RP w' t28 t29 t30 bn := fun hn => by
        refine ih (b + 1) w (by omega) (by omega) HR R ⟨?_, fun c hc ho => ?_⟩ hbn
        · rw [cN_s, hn, if_neg (by decide), Nat.add_zero]; exact O.1
        · by_cases e : c = b
          · subst e; rw [hn] at ho; cases ho
          · exact O.2 c (by omega) ho
      have h32 : (decide (s = 2) || decide (K (33 + 3 * b) = s)) = true → ∃ w', fX10_layOwn_32 w (fun w x2 => fX10_layOwn_7 (nI s) F w x2) (nI s) (nI b) = some w' ∧ OL K t28 t29 t30 s bn w' (K 5) ∧ RC w' K ∧ RP w' t28 t29 t30 bn := fun hside => by
        unfold fX10_layOwn_32
        rw [R.2.2.2, nI_1]
        by_cases q : bn = b + 1
        · rw [if_pos (by rw [q, aI_s])]
          exact no (by unfold ow; rw [decide_eq_false (show ¬ bn ≠ b + 1 from fun z => z q), Bool.and_false, Bool.and_false])
        · have ho : ow K s bn b = true := by unfold ow; rw [decide_eq_true hbl, hside, decide_eq_true q]; rfl
          rw [if_neg (fun z => q ((aI_nI (by omega) (by omega)).mp z)), X10_of_0 HR W hbl, bI_some, freeDays_gen HR W R (by omega), bI_some, O.1, if_pos (inB_nI (by omega) (by omega)), ix_nI (by omega), lT_eq, gI_uI_ne (by omega), O.1, if_pos (inB_nI (by omega) (by omega)), ix_nI (by omega), lT_eq, gI_uI_ne (by omega), gI_uI_ne (by omega), O.1, nI_1, lT_eq]
          refine ih (b + 1) _ (by omega) (by omega) (HR.cell (fun f => by rw [gI_uI_ne (by omega), gI_uI_ne (by omega), gI_uI_ne (by omega)])) ⟨?_, ?_, ?_, ?_⟩ ⟨?_, fun c hc hoc => ?_⟩ hbn
          · rw [gI_uI_nf (by omega), gI_uI_ne (by omega), gI_uI_ne (by omega)]; exact R.1
          · rw [gI_uI_nf (by omega), gI_uI_ne (by omega), gI_uI_ne (by omega)]; exact R.2.1
          · rw [gI_uI_nf (by omega), gI_uI_ne (by omega), gI_uI_ne (by omega)]; exact R.2.2.1
          · rw [gI_uI_nf (by omega), gI_uI_ne (by omega), gI_uI_ne (by omega)]; exact R.2.2.2
          · rw [gI_uI_at, cN_s, ho, if_pos rfl]
          · rw [gI_uI_ne (show 94 ≠ 79 by omega), gI_uI_ne (show 95 ≠ 79 by omega), gI_uI_ne (show 95 ≠ 94 by omega)]
            by_cases e : c = b
            · subst e; exact ⟨gI_uI_at, gI_uI_at⟩
            · have := cN_lt (p := ow K s bn) (show c < b by omega) hoc
              rw [gI_uI_nf (by omega), gI_uI_ne (show 94 ≠ 95 by omega), gI_uI_nf (by omega)]
              exact O.2 c (by omega) hoc
      rw [if_pos (nI_lt hbl (by omega))]
      by_cases c2 : s = 2
      · rw [if_neg (fun z => z (by rw [c2]; rfl))]
        exact h32 (by rw [decide_eq_true c2]; rfl)
      · rw [if_pos (show ¬ nI s = 2 from fun z => c2 ((nI_eqv (b := 2) (by omega) (by omega)).mp z)), X10_of_0 HR W hbl, bI_some, nI_1]
        by_cases c3 : K (33 + 3 * b) = s
        · rw [if_pos (congrArg nI c3)]
          exact h32 (by rw [decide_eq_true c3, Bool.or_true])
        · rw [if_neg (fun z => c3 ((nI_eqv (by omega) (by omega)).mp z))]
          exact no (by unfold ow; rw [decide_eq_false c2, decide_eq_false c3]; simp)
    · have e : b = K 5 := by omega
      subst e
      rw [if_neg (nI_nlt (by omega) (by omega))]
      exact ⟨w, rfl, O, HR, R⟩
theorem layOwn_ok (W : WF K) {bn s : Nat} (hs : s ≤ 2) (HR : RC w K) (R : RP w t28 t29 t30 bn) (hbn : bn < 100) : ∃ w', fX10_layOwn w (nI s) = some w' ∧ OL K t28 t29 t30 s bn w' (K 5) ∧ RC w' K ∧ RP w' t28 t29 t30 bn := by
  unfold fX10_layOwn
  rw [lT_eq]
  refine own7_L W hs FU 0 _ (Nat.zero_le _) (by have := W.b; rw [FU_eq]; omega) (HR.cell (fun f => gI_uI_ne (by omega))) ⟨?_, ?_, ?_, ?_⟩ ⟨gI_uI_at, fun c hc => by omega⟩ hbn
  · rw [gI_uI_nf (by omega)]; exact R.1
  · rw [gI_uI_nf (by omega)]; exact R.2.1
  · rw [gI_uI_nf (by omega)]; exact R.2.2.1
  · rw [gI_uI_nf (by omega)]; exact R.2.2.2
end OWN
