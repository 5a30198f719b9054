/-! PLANS, the class's table -/
theorem p256 (x s : Nat) : nI x * 256 + nI s = nI (x * 256 + s) := by rw [show (256 : Int32) = nI 256 from rfl, pk_mul, nI_add]
theorem m256 (x : Nat) : nI x * 256 = nI (x * 256) := by rw [show (256 : Int32) = nI 256 from rfl, pk_mul]
theorem lt256 {s b : Nat} (hs : s < 256) (hb : b < 8) : s ||| 2 ^ b < 256 := or_lt (n := 8) hs (Nat.pow_lt_pow_right (by omega) hb)
section SOL
variable {w : HW} {p : PL} {fr : Nat}
theorem nd_one {s a : Nat} : (nd (2 ^ a) s = 0) ↔ s.testBit a = true := by
  constructor
  · intro h
    have := congrArg (fun z => z.testBit a) h
    simpa [nd_bit] using this
  · intro h
    apply Nat.eq_of_testBit_eq
    intro i
    rw [nd_bit, Nat.testBit_two_pow, Nat.zero_testBit]
    by_cases e : a = i
    · subst e; simp [h]
    · simp [e]
theorem pre_ok (P : PX p fr w) (hp : ∀ b, p.pre b ≤ 8) {x s b : Nat} (hx : x < p.N) (ho : p.op b x = true) : (gI w 15 b &&& (nI s ^^^ (-1)) = 0) ↔ ((decide (p.pre b = 0) || s.testBit (p.pre b - 1)) = true) := by
  rw [(P.2.2.2.2 b x hx ho).2.1, nI_nd]
  have h8 := hp b
  by_cases c : p.pre b = 0
  · rw [if_pos c, decide_eq_true c, Bool.true_or]
    refine ⟨fun _ => rfl, fun _ => ?_⟩
    rw [show nd 0 s = 0 by unfold nd; simp]; rfl
  · rw [if_neg c, decide_eq_false c, Bool.false_or, ← nd_one (s := s)]
    have hl : nd (2 ^ (p.pre b - 1)) s < 2 ^ 31 := nd_lt (Nat.pow_lt_pow_right (by omega) (by omega))
    exact ⟨fun z => (nI_eqv (b := 0) hl (by omega)).mp z, fun z => congrArg nI z⟩
theorem settle66_L (P : PX p fr w) (hN : p.N ≤ 14) (hp : ∀ b, p.pre b ≤ 8) (hu : ∀ b, b < 8 → p.u b ≤ 99) {x s : Nat} (hx : x < p.N) (hs : s < 256) {i3 : Nat} (hB : ∀ b, b < 8 → p.can x s b = true → gI w 12 (min p.N (x + p.G) * 256 + (s ||| 2 ^ b)) = nI (p.W (x + p.G) (s ||| 2 ^ b)).1 ∧ gI w 13 (min p.N (x + p.G) * 256 + (s ||| 2 ^ b)) = (p.W (x + p.G) (s ||| 2 ^ b)).2) (acc : Nat × Int32) (ha : acc.1 ≤ 2000) : ∀ F b, b ≤ 8 → 8 - b < F → fX3_settle_66 (nI s) (nI i3) (nI (min p.N (x + p.G) * 256)) (nI (nd (bS (fun b => p.op b x) 8) s)) F w (nI (fdW (p.can x s) (fun b => p.W (x + p.G) (s ||| 2 ^ b)) p.u acc b).1) (fdW (p.can x s) (fun b => p.W (x + p.G) (s ||| 2 ^ b)) p.u acc b).2 (nI b) = fX3_settle_172 w (nI i3) (nI (fdW (p.can x s) (fun b => p.W (x + p.G) (s ||| 2 ^ b)) p.u acc 8).1) (fdW (p.can x s) (fun b => p.W (x + p.G) (s ||| 2 ^ b)) p.u acc 8).2 := by
  have hW : ∀ x s, (p.W x s).1 ≤ 99 * 14 := fun x s => Nat.le_trans (p.W_le hu p.N x s) (Nat.mul_le_mul (Nat.le_refl _) hN)
  have hb' : ∀ b, b ≤ 8 → (fdW (p.can x s) (fun b => p.W (x + p.G) (s ||| 2 ^ b)) p.u acc b).1 ≤ 2000 := by
    intro b
    induction b with
    | zero => intro _; exact ha
    | succ b ih =>
      intro h
      have h1 := ih (by omega)
      rw [fdW_s]
      split
      · have h2 := (stW_le (p.u b) (fdW (p.can x s) (fun b => p.W (x + p.G) (s ||| 2 ^ b)) p.u acc b) (p.W (x + p.G) (s ||| 2 ^ b))).2
        have h3 := hW (x + p.G) (s ||| 2 ^ b)
        have h4 := hu b (by omega)
        exact Nat.le_trans h2 (Nat.max_le.mpr ⟨h1, by omega⟩)
      · exact h1
  have h7 : nd (bS (fun b => p.op b x) 8) s < 2 ^ 8 := nd_lt (bS_lt _ _)
  intro F
  induction F with
  | zero => intro b h1 h2; omega
  | succ F ih =>
    intro b h1 h2
    rw [fX3_settle_66]
    by_cases hb : b < 8
    · have hbb := hb' b (by omega)
      rw [if_pos (show nI b < 8 from nI_lt (b := 8) hb (by omega))]
      by_cases z7 : nd (bS (fun b => p.op b x) 8) s = 0
      · rw [if_neg (show ¬ ¬ nI (nd (bS (fun b => p.op b x) 8) s) = 0 from fun z => z (congrArg nI z7))]
        have hc : ∀ b, b < 8 → p.can x s b = false := by
          intro b hb
          have := congrArg (fun z => z.testBit b) z7
          simp only [nd_bit, bS_bit, decide_eq_true hb, Bool.true_and, Nat.zero_testBit] at this
          unfold PL.can
          rw [← Bool.and_assoc, this, Bool.false_and]
        have L : ∀ n, n ≤ 8 → fdW (p.can x s) (fun b => p.W (x + p.G) (s ||| 2 ^ b)) p.u acc n = acc := by
          intro n
          induction n with
          | zero => intro _; rfl
          | succ n ihn => intro hn; rw [fdW_s, if_neg (by rw [hc n (by omega)]; decide)]; exact ihn (by omega)
        rw [L b h1, L 8 (Nat.le_refl _)]
      · rw [if_pos (show ¬ nI (nd (bS (fun b => p.op b x) 8) s) = 0 from fun z => z7 ((nI_eqv (b := 0) (by omega) (by omega)).mp z)), iSr_bit (by omega) (by omega)]
        have i1 := ih (b + 1) (by omega) (by omega)
        rw [fdW_s] at i1
        have eb : (nd (bS (fun b => p.op b x) 8) s).testBit b = (p.op b x && !s.testBit b) := by rw [nd_bit, bS_bit, decide_eq_true hb, Bool.true_and]
        by_cases c1 : (p.op b x && !s.testBit b) = true
        · have ho : p.op b x = true := by
            cases q : p.op b x with
            | true => rfl
            | false => rw [q] at c1; cases c1
          rw [if_pos (show ¬ nI (tB (nd (bS (fun b => p.op b x) 8) s) b) = 0 by rw [tB_eq1.mpr (eb.trans c1)]; decide), if_pos (inB_nI hb (by omega)), ix_nI (by omega)]
          have hpre := pre_ok P hp (s := s) hx ho
          have ec : p.can x s b = (decide (p.pre b = 0) || s.testBit (p.pre b - 1)) := by
            unfold PL.can
            rw [← Bool.and_assoc, c1, Bool.true_and]
          by_cases c2 : (decide (p.pre b = 0) || s.testBit (p.pre b - 1)) = true
          · have hcan : p.can x s b = true := ec.trans c2
            obtain ⟨e12, e13⟩ := hB b hb hcan
            have hl := lt256 hs hb
            have hWb := hW (x + p.G) (s ||| 2 ^ b)
            have hub := hu b hb
            rw [if_pos hcan] at i1
            rw [if_neg (show ¬ ¬ gI w 15 b &&& (nI s ^^^ (-1)) = 0 from fun z => z (hpre.mpr c2)), iSl_1 (by omega), nI_or, nI_add, lT_eq, if_pos (inB_nI (by omega) (by omega)), ix_nI (by omega), e12, (P.2.2.2.2 b x hx ho).2.2, nI_add, lT_eq, if_pos (inB_nI (by omega) (by omega))]
            unfold fX3_settle_147
            unfold stW at i1
            by_cases c3 : (fdW (p.can x s) (fun b => p.W (x + p.G) (s ||| 2 ^ b)) p.u acc b).1 < p.u b + (p.W (x + p.G) (s ||| 2 ^ b)).1
            · rw [if_pos c3] at i1
              rw [if_pos (nI_lt c3 (by omega)), if_pos rfl, if_pos (inB_nI (by omega) (by omega)), ix_nI (by omega), e13, lT_eq, nI_1]
              exact i1
            · rw [if_neg c3] at i1
              rw [if_neg (nI_nlt (by omega) (by omega))]
              by_cases c4 : p.u b + (p.W (x + p.G) (s ||| 2 ^ b)).1 = (fdW (p.can x s) (fun b => p.W (x + p.G) (s ||| 2 ^ b)) p.u acc b).1
              · rw [if_pos c4] at i1
                rw [if_pos (congrArg nI c4), if_pos (inB_nI (by omega) (by omega)), ix_nI (by omega), e13, lT_eq, nI_1]
                exact i1
              · rw [if_neg c4] at i1
                rw [if_neg (fun z => c4 ((nI_eqv (by omega) (by omega)).mp z)), nI_1]
                exact i1
          · rw [if_neg (by rw [ec]; exact c2)] at i1
            rw [if_pos (show ¬ gI w 15 b &&& (nI s ^^^ (-1)) = 0 from fun z => c2 (hpre.mp z)), nI_1]
            exact i1
        · have hcan : ¬ p.can x s b = true := by
            unfold PL.can
            rw [← Bool.and_assoc, show (p.op b x && !s.testBit b) = false by simpa using c1]
            simp
          rw [if_neg hcan] at i1
          rw [if_neg (show ¬ ¬ nI (tB (nd (bS (fun b => p.op b x) 8) s) b) = 0 from fun z => z (by rw [tB_eq0.mpr (eb.trans (by simpa using c1))]; rfl)), nI_1]
          exact i1
    · have e : b = 8 := by omega
      subst e
      rw [if_neg (show ¬ nI 8 < 8 from nI_nlt (b := 8) (by omega) (by omega))]
theorem settleP_ok (P : PX p fr w) (hN : p.N ≤ 14) (hG : 1 ≤ p.G) (hG9 : p.G ≤ 9) (hp : ∀ b, p.pre b ≤ 8) (hu : ∀ b, b < 8 → p.u b ≤ 99) {x s : Nat} (hx : x < p.N) (hs : s < 256) (hA : gI w 12 ((x + 1) * 256 + s) = nI (p.W (x + 1) s).1 ∧ gI w 13 ((x + 1) * 256 + s) = (p.W (x + 1) s).2) (hB : ∀ b, b < 8 → p.can x s b = true → gI w 12 (min p.N (x + p.G) * 256 + (s ||| 2 ^ b)) = nI (p.W (x + p.G) (s ||| 2 ^ b)).1 ∧ gI w 13 (min p.N (x + p.G) * 256 + (s ||| 2 ^ b)) = (p.W (x + p.G) (s ||| 2 ^ b)).2) : fX3_settle w (nI x) (nI s) = some (uI (uI w 12 (x * 256 + s) (nI (p.W x s).1)) 13 (x * 256 + s) (p.W x s).2) := by
  have hW : (p.W (x + 1) s).1 ≤ 2000 := Nat.le_trans (Nat.le_trans (p.W_le hu p.N (x + 1) s) (Nat.mul_le_mul (Nat.le_refl _) hN)) (by omega)
  have hb8 : bS (fun b => p.op b x) 8 < 2 ^ 31 := bS_lt31 _ (by omega)
  unfold fX3_settle
  rw [p256, lT_eq, P.2.1, P.2.2.1, nI_add, iMn_nI (by omega) (by omega), m256, lT_eq, show nI (x * 256 + s) + 256 = nI ((x + 1) * 256 + s) from by rw [show (256 : Int32) = nI 256 from rfl, nI_add]; exact congrArg nI (by omega), if_pos (inB_nI (by omega) (by omega)), ix_nI (by omega), hA.1, lT_eq, if_pos (inB_nI (by omega) (by omega)), ix_nI (by omega), hA.2, lT_eq, if_pos (inB_nI (by omega) (by omega)), P.2.2.2.1 x hx, nI_nd, lT_eq]
  have e := settle66_L P hN hp hu hx hs (i3 := x * 256 + s) hB (p.W (x + 1) s) hW FU 0 (by omega) (by rw [FU_eq]; omega)
  rw [← p.W_at hG hx] at e
  refine Eq.trans e ?_
  unfold fX3_settle_172
  rw [if_pos (inB_nI (by omega) (by omega)), ix_nI (by omega), lT_eq, if_pos (inB_nI (by omega) (by omega)), lT_eq]
end SOL
section GOB
variable {p : PL} {fr M : Nat}
/-- the class's table is right for the days above x, and on x for the sets below s0 -/
def TX (p : PL) (M fr : Nat) (w : HW) (x s0 : Nat) : Prop := ∀ y s, s < 256 → y ≤ p.N → s &&& M = s → (y = p.N ∨ cB s 14 * p.G + fr ≤ y) → (x < y ∨ (y = x ∧ s < s0)) → gI w 12 (y * 256 + s) = nI (p.W y s).1 ∧ gI w 13 (y * 256 + s) = (p.W y s).2
theorem PX.of {w w' : HW} (P : PX p fr w) (h : ∀ a f, a ≠ 12 → a ≠ 13 → gI w' a f = gI w a f) : PX p fr w' := by
  obtain ⟨h1, h2, h3, h4, h5⟩ := P
  refine ⟨(h _ _ (by omega) (by omega)).trans h1, (h _ _ (by omega) (by omega)).trans h2, (h _ _ (by omega) (by omega)).trans h3, fun x hx => (h _ _ (by omega) (by omega)).trans (h4 x hx), fun b x hx ho => ?_⟩
  obtain ⟨a, b, c⟩ := h5 b x hx ho
  exact ⟨a, (h _ _ (by omega) (by omega)).trans b, (h _ _ (by omega) (by omega)).trans c⟩
theorem sub_or {s M b : Nat} (h : s &&& M = s) (hb : M.testBit b = true) : (s ||| 2 ^ b) &&& M = s ||| 2 ^ b := by
  apply Nat.eq_of_testBit_eq
  intro i
  have := congrArg (fun z => z.testBit i) h
  simp only [Nat.testBit_and, Nat.testBit_or, Nat.testBit_two_pow] at this ⊢
  by_cases e : b = i
  · subst e; simp [hb]
  · simp [e, this]
theorem back64_L (hN : p.N ≤ 14) (hG : 1 ≤ p.G) (hG9 : p.G ≤ 9) (hp : ∀ b, p.pre b ≤ 8) (hu : ∀ b, b < 8 → p.u b ≤ 99) (hM : ∀ b x, x < p.N → p.op b x = true → M.testBit b = true) (hM8 : M < 256) {x : Nat} (hx : x < p.N) (hfr : fr ≤ x) (Q : HW → Int32 → Option HW) : ∀ F s (w : HW), s ≤ 256 → 256 - s < F → PX p fr w → TX p M fr w x s → ∃ w', fX3_goBack_64 Q (nI M) (nI x) F w (nI s) = Q w' (aI x) ∧ PX p fr w' ∧ TX p M fr w' x 256 := by
  intro F
  induction F with
  | zero => intro s w h1 h2; omega
  | succ F ih =>
    intro s w h1 h2 P T
    rw [fX3_goBack_64]
    by_cases hs : s < 256
    · have skip : (s &&& M = s → ¬ (cB s 14 * p.G + fr ≤ x)) → ∃ w', fX3_goBack_64 Q (nI M) (nI x) F w (nI (s + 1)) = Q w' (aI x) ∧ PX p fr w' ∧ TX p M fr w' x 256 := by
        intro hk
        refine ih (s + 1) w (by omega) (by omega) P (fun y t a b c d e => ?_)
        by_cases q : y = x ∧ t = s
        · obtain ⟨rfl, rfl⟩ := q
          rcases d with d | d
          · omega
          · exact absurd d (hk c)
        · exact T y t a b c d (by omega)
      have hc := cB_le s 14
      have hcG : cB s 14 * p.G ≤ 14 * 9 := Nat.mul_le_mul hc hG9
      rw [if_pos (show nI s < 256 from nI_lt (b := 256) hs (by omega)), nI_and, bc_ok w (by omega), bI_some, P.1, P.2.2.1, nI_subI hfr, pk_mul, nI_1]
      by_cases c1 : s &&& M = s
      · rw [if_pos (congrArg nI c1)]
        by_cases c2 : cB s 14 * p.G + fr ≤ x
        · have hN1 : ∀ y, y = p.N ∨ y = x + p.G → (p.N ≤ x + p.G → y = p.N) → p.W y = p.W y := fun _ _ _ => rfl
          have eW : ∀ t, p.W (min p.N (x + p.G)) t = p.W (x + p.G) t := fun t => by
            by_cases q : p.N ≤ x + p.G
            · rw [Nat.min_eq_left q, p.W_big (Nat.le_refl _), p.W_big q]
            · rw [Nat.min_eq_right (by omega)]
          rw [if_pos (nI_nlt (by omega) (by omega)), settleP_ok P hN hG hG9 hp hu hx hs (T (x + 1) s hs (by omega) c1 (by omega) (by omega)) (fun b hb hcan => by
            rw [← eW]
            have ho : p.op b x = true := by
              unfold PL.can at hcan
              cases q : p.op b x with
              | true => rfl
              | false => rw [q] at hcan; cases hcan
            have hnb : s.testBit b = false := by
              unfold PL.can at hcan
              cases q : s.testBit b with
              | false => rfl
              | true => rw [q] at hcan; simp at hcan
            have hcc := cB_or hnb 14 (by omega)
            refine T (min p.N (x + p.G)) (s ||| 2 ^ b) (lt256 hs hb) (by omega) (sub_or c1 (hM b x hx ho)) ?_ (by omega)
            rw [hcc, Nat.succ_mul]
            omega), bI_some]
          refine ih (s + 1) _ (by omega) (by omega) (P.of (fun a f h1 h2 => by rw [gI_uI_ne h2, gI_uI_ne h1])) (fun y t a b c d e => ?_)
          rw [gI_uI_ne (show 12 ≠ 13 by omega), gI_uI, gI_uI]
          by_cases q : y = x ∧ t = s
          · obtain ⟨rfl, rfl⟩ := q
            rw [if_pos ⟨rfl, rfl⟩, if_pos ⟨rfl, rfl⟩]
            exact ⟨rfl, rfl⟩
          · rw [if_neg (by omega), if_neg (by omega), gI_uI_ne (show 13 ≠ 12 by omega)]
            exact T y t a b c d (by omega)
        · rw [if_neg (fun z => z (nI_lt (by omega) (by omega)))]
          exact skip (fun _ => c2)
      · rw [if_neg (fun z => c1 ((nI_eqv (and_lt31 (by omega)) (by omega)).mp z))]
        exact skip (fun z => absurd z c1)
    · have e : s = 256 := by omega
      subst e
      rw [if_neg (show ¬ nI 256 < 256 from nI_nlt (b := 256) (by omega) (by omega)), pk_back (by omega)]
      exact ⟨w, rfl, P, T⟩
/-- right from the day y on -/
def TD (p : PL) (M fr : Nat) (w : HW) (y : Nat) : Prop := ∀ z s, s < 256 → y ≤ z → z ≤ p.N → s &&& M = s → (z = p.N ∨ cB s 14 * p.G + fr ≤ z) → gI w 12 (z * 256 + s) = nI (p.W z s).1 ∧ gI w 13 (z * 256 + s) = (p.W z s).2
theorem back54_L (hN : p.N ≤ 14) (hG : 1 ≤ p.G) (hG9 : p.G ≤ 9) (hp : ∀ b, p.pre b ≤ 8) (hu : ∀ b, b < 8 → p.u b ≤ 99) (hM : ∀ b x, x < p.N → p.op b x = true → M.testBit b = true) (hM8 : M < 256) (hfr : fr ≤ 14) : ∀ F y (w : HW), y ≤ p.N → y < F → PX p fr w → TD p M fr w y → ∃ w', fX3_goBack_54 (nI M) F w (aI y) = some w' ∧ PX p fr w' ∧ TD p M fr w' fr := by
  intro F
  induction F with
  | zero => intro y w h1 h2; omega
  | succ F ih =>
    intro y w h1 h2 P T
    rw [fX3_goBack_54, P.1]
    by_cases hy : fr < y
    · obtain ⟨x, rfl⟩ : ∃ x, y = x + 1 := ⟨y - 1, by omega⟩
      obtain ⟨w1, q1, q2, q3⟩ := back64_L hN hG hG9 hp hu hM hM8 (x := x) (by omega) (by omega) (fun w x2 => fX3_goBack_54 (nI M) F w x2) FU 0 w (by omega) (by rw [FU_eq]; omega) P (fun y t a b c d e => T y t a (by omega) b c d)
      rw [aI_s, if_pos (nI_nlt (by omega) (by omega)), show fX3_goBack_64 (fun w x2 => fX3_goBack_54 (nI M) F w x2) (nI M) (nI x) FU w 0 = _ from q1]
      exact ih x w1 (by omega) (by omega) q2 (fun z s a b c d e => q3 z s a c d e (by omega))
    · have hl : aI y < nI fr := by
        cases y with
        | zero => exact neg_lt _ (by omega)
        | succ x => rw [aI_s]; exact nI_lt (by omega) (by omega)
      rw [if_neg (fun z => z hl)]
      exact ⟨w, rfl, P, fun z s a b c d e => T z s a (by omega) c d e⟩
theorem back2_L (hN : p.N ≤ 14) (hG : 1 ≤ p.G) (hG9 : p.G ≤ 9) (hp : ∀ b, p.pre b ≤ 8) (hu : ∀ b, b < 8 → p.u b ≤ 99) (hM : ∀ b x, x < p.N → p.op b x = true → M.testBit b = true) (hM8 : M < 256) (hfr : fr ≤ 14) : ∀ F i (w : HW), i ≤ 256 → 256 - i < F → PX p fr w → (∀ s, s < i → gI w 12 (p.N * 256 + s) = 0 ∧ gI w 13 (p.N * 256 + s) = 1) → ∃ w', fX3_goBack_2 (nI M) F w (nI i) = some w' ∧ PX p fr w' ∧ TD p M fr w' fr := by
  intro F
  induction F with
  | zero => intro i w h1 h2; omega
  | succ F ih =>
    intro i w h1 h2 P T
    rw [fX3_goBack_2]
    by_cases hi : i < 256
    · rw [if_pos (show nI i < 256 from nI_lt (b := 256) hi (by omega)), P.2.1, p256, if_pos (inB_nI (by omega) (by omega)), ix_nI (by omega), lT_eq, gI_uI_ne (by omega), P.2.1, p256, if_pos (inB_nI (by omega) (by omega)), ix_nI (by omega), lT_eq, nI_1]
      refine ih (i + 1) _ (by omega) (by omega) (P.of (fun a f h1 h2 => by rw [gI_uI_ne h2, gI_uI_ne h1])) (fun s hs => ?_)
      rw [gI_uI_ne (show 12 ≠ 13 by omega), gI_uI, gI_uI]
      by_cases e : s = i
      · subst e; rw [if_pos ⟨rfl, rfl⟩, if_pos ⟨rfl, rfl⟩]; exact ⟨rfl, rfl⟩
      · rw [if_neg (by omega), if_neg (by omega), gI_uI_ne (show 13 ≠ 12 by omega)]; exact T s (by omega)
    · rw [if_neg (show ¬ nI i < 256 from nI_nlt (b := 256) (by omega) (by omega)), P.2.1, aI_pred (by omega), lT_eq]
      refine back54_L hN hG hG9 hp hu hM hM8 hfr FU p.N w (Nat.le_refl _) (by rw [FU_eq]; omega) P (fun z s a b c d e => ?_)
      have ez : z = p.N := by omega
      subst ez
      rw [p.W_big (Nat.le_refl _)]
      exact T s (by omega)
theorem goBack_ok {w : HW} (hN : p.N ≤ 14) (hG : 1 ≤ p.G) (hG9 : p.G ≤ 9) (hp : ∀ b, p.pre b ≤ 8) (hu : ∀ b, b < 8 → p.u b ≤ 99) (hM : ∀ b x, x < p.N → p.op b x = true → M.testBit b = true) (hM8 : M < 256) (hfr : fr ≤ 14) (P : PX p fr w) : ∃ w', fX3_goBack w (nI M) = some w' ∧ PX p fr w' ∧ TD p M fr w' fr :=
  back2_L hN hG hG9 hp hu hM hM8 hfr FU 0 w (by omega) (by rw [FU_eq]; omega) P (fun s hs => by omega)
end GOB
