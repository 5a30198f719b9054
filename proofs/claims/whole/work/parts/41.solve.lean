/-! PLANS, the class's table -/
theorem p256 (x s : Nat) : nI x * 256 + nI s = nI (x * 256 + s) := by rw [show (256 : Int32) = nI 256 from rfl, pk_mul, nI_add]
theorem m256 (x : Nat) : nI x * 256 = nI (x * 256) := by rw [show (256 : Int32) = nI 256 from rfl, pk_mul]
theorem lt256 {s b : Nat} (hs : s < 256) (hb : b < 8) : s ||| 2 ^ b < 256 := or_lt (n := 8) hs (Nat.pow_lt_pow_right (by omega) hb)
section SOL
variable {w : HW} {p : PL} {fr : Nat}
theorem nd_one {s a : Nat} : (nd (2 ^ a) s = 0) ↔ s.testBit a = true := by
  constructor
  · intro h
    have := congrArg (fun z => z.testBit a) h
    simpa [nd_bit] using this
  · intro h
    apply Nat.eq_of_testBit_eq
    intro i
    rw [nd_bit, Nat.testBit_two_pow, Nat.zero_testBit]
    by_cases e : a = i
    · subst e; simp [h]
    · simp [e]
theorem pre_ok (P : PX p fr w) (hp : ∀ b, p.pre b ≤ 8) {x s b : Nat} (hx : x < p.N) (ho : p.op b x = true) : (gI w 15 b &&& (nI s ^^^ (-1)) = 0) ↔ ((decide (p.pre b = 0) || s.testBit (p.pre b - 1)) = true) := by
  rw [(P.2.2.2.2 b x hx ho).2.1, nI_nd]
  have h8 := hp b
  by_cases c : p.pre b = 0
  · rw [if_pos c, decide_eq_true c, Bool.true_or]
    refine ⟨fun _ => rfl, fun _ => ?_⟩
    rw [show nd 0 s = 0 by unfold nd; simp]; rfl
  · rw [if_neg c, decide_eq_false c, Bool.false_or, ← nd_one (s := s)]
    have hl : nd (2 ^ (p.pre b - 1)) s < 2 ^ 31 := nd_lt (Nat.pow_lt_pow_right (by omega) (by omega))
    exact ⟨fun z => (nI_eqv (b := 0) hl (by omega)).mp z, fun z => congrArg nI z⟩
theorem settle66_L (P : PX p fr w) (hN : p.N ≤ 14) (hp : ∀ b, p.pre b ≤ 8) (hu : ∀ b, b < 8 → p.u b ≤ 99) {x s : Nat} (hx : x < p.N) (hs : s < 256) {i3 : Nat} (hB : ∀ b, b < 8 → p.can x s b = true → gI w 12 (min p.N (x + p.G) * 256 + (s ||| 2 ^ b)) = nI (p.W (x + p.G) (s ||| 2 ^ b)).1 ∧ gI w 13 (min p.N (x + p.G) * 256 + (s ||| 2 ^ b)) = (p.W (x + p.G) (s ||| 2 ^ b)).2) (acc : Nat × Int32) (ha : acc.1 ≤ 2000) : ∀ F b, b ≤ 8 → 8 - b < F → fX3_settle_66 (nI s) (nI i3) (nI (min p.N (x + p.G) * 256)) (nI (nd (bS (fun b => p.op b x) 8) s)) F w (nI (fdW (p.can x s) (fun b => p.W (x + p.G) (s ||| 2 ^ b)) p.u acc b).1) (fdW (p.can x s) (fun b => p.W (x + p.G) (s ||| 2 ^ b)) p.u acc b).2 (nI b) = fX3_settle_172 w (nI i3) (nI (fdW (p.can x s) (fun b => p.W (x + p.G) (s ||| 2 ^ b)) p.u acc 8).1) (fdW (p.can x s) (fun b => p.W (x + p.G) (s ||| 2 ^ b)) p.u acc 8).2 := by
  have hW : ∀ x s, (p.W x s).1 ≤ 99 * 14 := fun x s => Nat.le_trans (p.W_le hu p.N x s) (Nat.mul_le_mul (Nat.le_refl _) hN)
  have hb' : ∀ b, b ≤ 8 → (fdW (p.can x s) (fun b => p.W (x + p.G) (s ||| 2 ^ b)) p.u acc b).1 ≤ 2000 := by
    intro b
    induction b with
    | zero => intro _; exact ha
    | succ b ih =>
      intro h
      have h1 := ih (by omega)
      rw [fdW_s]
      split
      · have h2 := (stW_le (p.u b) (fdW (p.can x s) (fun b => p.W (x + p.G) (s ||| 2 ^ b)) p.u acc b) (p.W (x + p.G) (s ||| 2 ^ b))).2
        have h3 := hW (x + p.G) (s ||| 2 ^ b)
        have h4 := hu b (by omega)
        exact Nat.le_trans h2 (Nat.max_le.mpr ⟨h1, by omega⟩)
      · exact h1
  have h7 : nd (bS (fun b => p.op b x) 8) s < 2 ^ 8 := nd_lt (bS_lt _ _)
  intro F
  induction F with
  | zero => intro b h1 h2; omega
  | succ F ih =>
    intro b h1 h2
    rw [fX3_settle_66]
    by_cases hb : b < 8
    · have hbb := hb' b (by omega)
      rw [if_pos (show nI b < 8 from nI_lt (b := 8) hb (by omega))]
      by_cases z7 : nd (bS (fun b => p.op b x) 8) s = 0
      · rw [if_neg (show ¬ ¬ nI (nd (bS (fun b => p.op b x) 8) s) = 0 from fun z => z (congrArg nI z7))]
        have hc : ∀ b, b < 8 → p.can x s b = false := by
          intro b hb
          have := congrArg (fun z => z.testBit b) z7
          simp only [nd_bit, bS_bit, decide_eq_true hb, Bool.true_and, Nat.zero_testBit] at this
          unfold PL.can
          rw [← Bool.and_assoc, this, Bool.false_and]
        have L : ∀ n, n ≤ 8 → fdW (p.can x s) (fun b => p.W (x + p.G) (s ||| 2 ^ b)) p.u acc n = acc := by
          intro n
          induction n with
          | zero => intro _; rfl
          | succ n ihn => intro hn; rw [fdW_s, if_neg (by rw [hc n (by omega)]; decide)]; exact ihn (by omega)
        rw [L b h1, L 8 (Nat.le_refl _)]
      · rw [if_pos (show ¬ nI (nd (bS (fun b => p.op b x) 8) s) = 0 from fun z => z7 ((nI_eqv (b := 0) (by omega) (by omega)).mp z)), iSr_bit (by omega) (by omega)]
        have i1 := ih (b + 1) (by omega) (by omega)
        rw [fdW_s] at i1
        have eb : (nd (bS (fun b => p.op b x) 8) s).testBit b = (p.op b x && !s.testBit b) := by rw [nd_bit, bS_bit, decide_eq_true hb, Bool.true_and]
        by_cases c1 : (p.op b x && !s.testBit b) = true
        · have ho : p.op b x = true := by
            cases q : p.op b x with
            | true => rfl
            | false => rw [q] at c1; cases c1
          rw [if_pos (show ¬ nI (tB (nd (bS (fun b => p.op b x) 8) s) b) = 0 by rw [tB_eq1.mpr (eb.trans c1)]; decide), if_pos (inB_nI hb (by omega)), ix_nI (by omega)]
          have hpre := pre_ok P hp (s := s) hx ho
          have ec : p.can x s b = (decide (p.pre b = 0) || s.testBit (p.pre b - 1)) := by
            unfold PL.can
            rw [← Bool.and_assoc, c1, Bool.true_and]
          by_cases c2 : (decide (p.pre b = 0) || s.testBit (p.pre b - 1)) = true
          · have hcan : p.can x s b = true := ec.trans c2
            obtain ⟨e12, e13⟩ := hB b hb hcan
            have hl := lt256 hs hb
            have hWb := hW (x + p.G) (s ||| 2 ^ b)
            have hub := hu b hb
            rw [if_pos hcan] at i1
            rw [if_neg (show ¬ ¬ gI w 15 b &&& (nI s ^^^ (-1)) = 0 from fun z => z (hpre.mpr c2)), iSl_1 (by omega), nI_or, nI_add, lT_eq, if_pos (inB_nI (by omega) (by omega)), ix_nI (by omega), e12, (P.2.2.2.2 b x hx ho).2.2, nI_add, lT_eq, if_pos (inB_nI (by omega) (by omega))]
            unfold fX3_settle_147
            unfold stW at i1
            by_cases c3 : (fdW (p.can x s) (fun b => p.W (x + p.G) (s ||| 2 ^ b)) p.u acc b).1 < p.u b + (p.W (x + p.G) (s ||| 2 ^ b)).1
            · rw [if_pos c3] at i1
              rw [if_pos (nI_lt c3 (by omega)), if_pos rfl, if_pos (inB_nI (by omega) (by omega)), ix_nI (by omega), e13, lT_eq, nI_1]
              exact i1
            · rw [if_neg c3] at i1
              rw [if_neg (nI_nlt (by omega) (by omega))]
              by_cases c4 : p.u b + (p.W (x + p.G) (s ||| 2 ^ b)).1 = (fdW (p.can x s) (fun b => p.W (x + p.G) (s ||| 2 ^ b)) p.u acc b).1
              · rw [if_pos c4] at i1
                rw [if_pos (congrArg nI c4), if_pos (inB_nI (by omega) (by omega)), ix_nI (by omega), e13, lT_eq, nI_1]
                exact i1
              · rw [if_neg c4] at i1
                rw [if_neg (fun z => c4 ((nI_eqv (by omega) (by omega)).mp z)), nI_1]
                exact i1
          · rw [if_neg (by rw [ec]; exact c2)] at i1
            rw [if_pos (show ¬ gI w 15 b &&& (nI s ^^^ (-1)) = 0 from fun z => c2 (hpre.mp z)), nI_1]
            exact i1
        · have hcan : ¬ p.can x s b = true := by
            unfold PL.can
            rw [← Bool.and_assoc, show (p.op b x && !s.testBit b) = false by simpa using c1]
            simp
          rw [if_neg hcan] at i1
          rw [if_neg (show ¬ ¬ nI (tB (nd (bS (fun b => p.op b x) 8) s) b) = 0 from fun z => z (by rw [tB_eq0.mpr (eb.trans (by simpa using c1))]; rfl)), nI_1]
          exact i1
    · have e : b = 8 := by omega
      subst e
      rw [if_neg (show ¬ nI 8 < 8 from nI_nlt (b := 8) (by omega) (by omega))]
theorem settleP_ok (P : PX p fr w) (hN : p.N ≤ 14) (hG : 1 ≤ p.G) (hG9 : p.G ≤ 9) (hp : ∀ b, p.pre b ≤ 8) (hu : ∀ b, b < 8 → p.u b ≤ 99) {x s : Nat} (hx : x < p.N) (hs : s < 256) (hA : gI w 12 ((x + 1) * 256 + s) = nI (p.W (x + 1) s).1 ∧ gI w 13 ((x + 1) * 256 + s) = (p.W (x + 1) s).2) (hB : ∀ b, b < 8 → p.can x s b = true → gI w 12 (min p.N (x + p.G) * 256 + (s ||| 2 ^ b)) = nI (p.W (x + p.G) (s ||| 2 ^ b)).1 ∧ gI w 13 (min p.N (x + p.G) * 256 + (s ||| 2 ^ b)) = (p.W (x + p.G) (s ||| 2 ^ b)).2) : fX3_settle w (nI x) (nI s) = some (uI (uI w 12 (x * 256 + s) (nI (p.W x s).1)) 13 (x * 256 + s) (p.W x s).2) := by
  have hW : (p.W (x + 1) s).1 ≤ 2000 := Nat.le_trans (Nat.le_trans (p.W_le hu p.N (x + 1) s) (Nat.mul_le_mul (Nat.le_refl _) hN)) (by omega)
  have hb8 : bS (fun b => p.op b x) 8 < 2 ^ 31 := bS_lt31 _ (by omega)
  unfold fX3_settle
  rw [p256, lT_eq, P.2.1, P.2.2.1, nI_add, iMn_nI (by omega) (by omega), m256, lT_eq, show nI (x * 256 + s) + 256 = nI ((x + 1) * 256 + s) from by rw [show (256 : Int32) = nI 256 from rfl, nI_add]; exact congrArg nI (by omega), if_pos (inB_nI (by omega) (by omega)), ix_nI (by omega), hA.1, lT_eq, if_pos (inB_nI (by omega) (by omega)), ix_nI (by omega), hA.2, lT_eq, if_pos (inB_nI (by omega) (by omega)), P.2.2.2.1 x hx, nI_nd, lT_eq]
  have e := settle66_L P hN hp hu hx hs (i3 := x * 256 + s) hB (p.W (x + 1) s) hW FU 0 (by omega) (by rw [FU_eq]; omega)
  rw [← p.W_at hG hx] at e
  refine Eq.trans e ?_
  unfold fX3_settle_172
  rw [if_pos (inB_nI (by omega) (by omega)), ix_nI (by omega), lT_eq, if_pos (inB_nI (by omega) (by omega)), lT_eq]
end SOL
