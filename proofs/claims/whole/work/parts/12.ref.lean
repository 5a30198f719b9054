/-! THE REFERENCE's row 'world' as numbers, and what only reads it -/
def RCg (g : Nat → Int32) (K : Nat → Nat) : Prop :=
  (g 0 = nI (K 0) ∧ g 1 = nI (K 1) ∧ g 2 = nI (K 2) ∧ g 3 = nI (K 3) ∧ g 4 = nI (K 4) ∧ g 5 = nI (K 5) ∧ g 6 = nI (K 6) ∧ g 7 = nI (K 7) ∧ g 8 = nI (K 8)) ∧
  (∀ a, a < K 4 → g (9 + 3 * a) = nI (K (9 + 3 * a)) ∧ g (10 + 3 * a) = nI (K (10 + 3 * a)) ∧ g (11 + 3 * a) = nI (K (11 + 3 * a))) ∧
  (∀ b, b < K 5 → g (33 + 3 * b) = nI (K (33 + 3 * b)) ∧ g (34 + 3 * b) = nI (K (34 + 3 * b)) ∧ g (35 + 3 * b) = aI (K (35 + 3 * b))) ∧
  (∀ i, i < K 6 → g (57 + i) = nI (K (57 + i)))
def RC (w : HW) (K : Nat → Nat) : Prop := RCg (gI w 80) K
section RCP
variable {w : HW} {K : Nat → Nat}
theorem RC.r0 (H : RC w K) : gI w 80 0 = nI (K 0) := H.1.1
theorem RC.r1 (H : RC w K) : gI w 80 1 = nI (K 1) := H.1.2.1
theorem RC.r2 (H : RC w K) : gI w 80 2 = nI (K 2) := H.1.2.2.1
theorem RC.r3 (H : RC w K) : gI w 80 3 = nI (K 3) := H.1.2.2.2.1
theorem RC.r4 (H : RC w K) : gI w 80 4 = nI (K 4) := H.1.2.2.2.2.1
theorem RC.r5 (H : RC w K) : gI w 80 5 = nI (K 5) := H.1.2.2.2.2.2.1
theorem RC.r6 (H : RC w K) : gI w 80 6 = nI (K 6) := H.1.2.2.2.2.2.2.1
theorem RC.r7 (H : RC w K) : gI w 80 7 = nI (K 7) := H.1.2.2.2.2.2.2.2.1
theorem RC.r8 (H : RC w K) : gI w 80 8 = nI (K 8) := H.1.2.2.2.2.2.2.2.2
theorem RC.aug (H : RC w K) {a : Nat} (h : a < K 4) : gI w 80 (9 + 3 * a) = nI (K (9 + 3 * a)) ∧ gI w 80 (10 + 3 * a) = nI (K (10 + 3 * a)) ∧ gI w 80 (11 + 3 * a) = nI (K (11 + 3 * a)) := H.2.1 a h
theorem RC.bil (H : RC w K) {b : Nat} (h : b < K 5) : gI w 80 (33 + 3 * b) = nI (K (33 + 3 * b)) ∧ gI w 80 (34 + 3 * b) = nI (K (34 + 3 * b)) ∧ gI w 80 (35 + 3 * b) = aI (K (35 + 3 * b)) := H.2.2.1 b h
theorem RC.act (H : RC w K) {i : Nat} (h : i < K 6) : gI w 80 (57 + i) = nI (K (57 + i)) := H.2.2.2 i h
end RCP
theorem ix_0 : ix 0 = 0 := rfl
theorem ix_1 : ix 1 = 1 := rfl
theorem ix_2 : ix 2 = 2 := rfl
theorem ix_3 : ix 3 = 3 := rfl
theorem ix_4 : ix 4 = 4 := rfl
theorem ix_5 : ix 5 = 5 := rfl
theorem ix_6 : ix 6 = 6 := rfl
theorem ix_7 : ix 7 = 7 := rfl
theorem ix_8 : ix 8 = 8 := rfl
theorem if_t {α : Type} {P : Prop} [Decidable P] (h : P) (x y : α) : (if P then x else y) = x := if_pos h
theorem idx3 (c a j : Nat) : (nI c + 3 * nI a) + nI j = nI (c + 3 * a + j) := by
  rw [show (3 : Int32) = nI 3 from rfl, pk_mul, nI_add, nI_add]
section RF
variable {w : HW} {K : Nat → Nat}
theorem X10_ofAugur_0 (H : RC w K) (W : WF K) {a : Nat} (h : a < K 4) : fX10_ofAugur w (nI a) 0 = some (nI (K (9 + 3 * a))) := by
  have hb := W.b
  unfold fX10_ofAugur
  rw [show (9 : Int32) + 3 * nI a + 0 = nI (9 + 3 * a + 0) from idx3 9 a 0, if_pos (inB_nI (by omega) (by omega)), ix_nI (by omega), Nat.add_zero, (H.aug h).1]
theorem X10_ofAugur_1 (H : RC w K) (W : WF K) {a : Nat} (h : a < K 4) : fX10_ofAugur w (nI a) 1 = some (nI (K (10 + 3 * a))) := by
  have hb := W.b
  unfold fX10_ofAugur
  rw [show (9 : Int32) + 3 * nI a + 1 = nI (9 + 3 * a + 1) from idx3 9 a 1, if_pos (inB_nI (by omega) (by omega)), ix_nI (by omega), show 9 + 3 * a + 1 = 10 + 3 * a by omega, (H.aug h).2.1]
theorem X10_ofAugur_2 (H : RC w K) (W : WF K) {a : Nat} (h : a < K 4) : fX10_ofAugur w (nI a) 2 = some (nI (K (11 + 3 * a))) := by
  have hb := W.b
  unfold fX10_ofAugur
  rw [show (9 : Int32) + 3 * nI a + 2 = nI (9 + 3 * a + 2) from idx3 9 a 2, if_pos (inB_nI (by omega) (by omega)), ix_nI (by omega), show 9 + 3 * a + 2 = 11 + 3 * a by omega, (H.aug h).2.2]
theorem X10_of_0 (H : RC w K) (W : WF K) {a : Nat} (h : a < K 5) : fX10_of w (nI a) 0 = some (nI (K (33 + 3 * a))) := by
  have hb := W.b
  unfold fX10_of
  rw [show (33 : Int32) + 3 * nI a + 0 = nI (33 + 3 * a + 0) from idx3 33 a 0, if_pos (inB_nI (by omega) (by omega)), ix_nI (by omega), Nat.add_zero, (H.bil h).1]
theorem X10_of_1 (H : RC w K) (W : WF K) {a : Nat} (h : a < K 5) : fX10_of w (nI a) 1 = some (nI (K (34 + 3 * a))) := by
  have hb := W.b
  unfold fX10_of
  rw [show (33 : Int32) + 3 * nI a + 1 = nI (33 + 3 * a + 1) from idx3 33 a 1, if_pos (inB_nI (by omega) (by omega)), ix_nI (by omega), show 33 + 3 * a + 1 = 34 + 3 * a by omega, (H.bil h).2.1]
theorem X10_of_2 (H : RC w K) (W : WF K) {a : Nat} (h : a < K 5) : fX10_of w (nI a) 2 = some (aI (K (35 + 3 * a))) := by
  have hb := W.b
  unfold fX10_of
  rw [show (33 : Int32) + 3 * nI a + 2 = nI (33 + 3 * a + 2) from idx3 33 a 2, if_pos (inB_nI (by omega) (by omega)), ix_nI (by omega), show 33 + 3 * a + 2 = 35 + 3 * a by omega, (H.bil h).2.2]
theorem X10_isCamp_ok (H : RC w K) (W : WF K) : fX10_isCamp w = some (b01 (decide (0 < K 7))) := by
  have := W.b
  unfold fX10_isCamp
  rw [if_pos (show inB 7 77 = true from rfl), ix_7, H.r7]
  by_cases h : 0 < K 7
  · rw [if_pos (show (0 : Int32) < nI (K 7) from nI_lt h (by omega))]; simp [h, b01]
  · rw [if_neg (show ¬ (0 : Int32) < nI (K 7) from nI_nlt (a := 0) (by omega) (by omega))]; simp [h, b01]
theorem le_pred {x : Int32} {n : Nat} (hn : n < 2 ^ 31) : (0 ≤ x ∧ x ≤ nI n - 1) ↔ (0 ≤ x ∧ x < nI n) := by
  rw [aI_pred hn]
  cases n with
  | zero =>
    rw [aI_0]
    constructor
    · rintro ⟨h1, h2⟩
      rw [fa_le] at h1 h2
      exact absurd (Int.le_trans h1 h2) (by decide)
    · rintro ⟨h1, h2⟩
      rw [fa_le] at h1
      rw [fa_lt] at h2
      exact absurd (Int.lt_of_le_of_lt h1 h2) (by decide)
  | succ n =>
    rw [aI_s]
    have e1 := nI_toInt (n := n) (by omega)
    have e2 := nI_toInt (n := n + 1) (by omega)
    constructor
    · rintro ⟨h1, h2⟩
      refine ⟨h1, ?_⟩
      rw [fa_le, e1] at h2
      rw [fa_lt, e2]; omega
    · rintro ⟨h1, h2⟩
      refine ⟨h1, ?_⟩
      rw [fa_lt, e2] at h2
      rw [fa_le, e1]; omega
theorem in_n {x : Int32} {n : Nat} (hn : n < 2 ^ 31) : fX10_in w x.toInt64 0 ((nI n - 1).toInt64) = some (b01 (decide (0 ≤ x ∧ x < nI n))) := by
  rw [in_0]
  by_cases h : 0 ≤ x ∧ x < nI n
  · rw [if_pos ((le_pred hn).mpr h), decide_eq_true h]; rfl
  · rw [if_neg (fun z => h ((le_pred hn).mp z)), decide_eq_false h]; rfl
theorem X10_isDay_ok (H : RC w K) (W : WF K) (x : Int32) : fX10_isDay w x.toInt64 = some (b01 (decide (0 ≤ x ∧ x < nI (K 0)))) := by
  have := W.b
  unfold fX10_isDay
  rw [if_pos (show inB 0 77 = true from rfl), ix_0, H.r0, in_n (by omega), bI_some, if_pos (zB_b01 _)]
theorem X10_isAugur_ok (H : RC w K) (W : WF K) (x : Int32) : fX10_isAugur w x = some (b01 (decide (0 ≤ x ∧ x < nI (K 4)))) := by
  have := W.b
  unfold fX10_isAugur
  rw [if_pos (show inB 4 77 = true from rfl), ix_4, H.r4, in_n (by omega), bI_some, if_pos (zB_b01 _)]
theorem X10_isBill_ok (H : RC w K) (W : WF K) (x : Int32) : fX10_isBill w x = some (b01 (decide (0 ≤ x ∧ x < nI (K 5)))) := by
  have := W.b
  unfold fX10_isBill
  rw [if_pos (show inB 5 77 = true from rfl), ix_5, H.r5, in_n (by omega), bI_some, if_pos (zB_b01 _)]
theorem in_lit (w : HW) (x b : Int32) (c : Int64) (n : Nat) (hc : b.toInt64 = c) (hb : b = nI n) (hn : n + 1 < 2 ^ 31) : fX10_in w x.toInt64 0 c = some (b01 (decide (0 ≤ x ∧ x < nI (n + 1)))) := by
  rw [← hc, hb, show nI n = nI (n + 1) - 1 from (nI_pred n).symm, in_n hn]
theorem le1 (x : Int32) : (0 ≤ x ∧ x < nI 2) ↔ (x = 0 ∨ x = 1) := by
  constructor
  · rintro ⟨h1, h2⟩
    rw [fa_le] at h1
    rw [fa_lt] at h2
    have e : (nI 2).toInt = 2 := rfl
    have z : (0 : Int32).toInt = 0 := rfl
    rcases (show x.toInt = 0 ∨ x.toInt = 1 by omega) with h | h
    · exact Or.inl (Int32.toInt_inj.mp h)
    · exact Or.inr (Int32.toInt_inj.mp h)
  · rintro (rfl | rfl) <;> decide
theorem X10_isSide_ok (H : RC w K) (W : WF K) (x : Int32) : fX10_isSide w x = some (b01 (decide (0 < K 7) && decide (x = 0 ∨ x = 1))) := by
  unfold fX10_isSide
  rw [X10_isCamp_ok H W, bI_some, if_b01, in_lit w x 1 1 1 rfl rfl (by omega), bI_some, if_b01, some_b01, show decide (0 ≤ x ∧ x < nI (1 + 1)) = decide (x = 0 ∨ x = 1) from decide_eq_decide.mpr (le1 x)]
  cases decide (0 < K 7) <;> rfl
theorem bit_ok (w : HW) {s j : Nat} (hs : s < 2 ^ 31) (hj : j < 32) : fX10_bit w (nI s) (nI j) = some (b01 (s.testBit j)) := by
  unfold fX10_bit
  rw [iSr_bit hs hj]
  unfold tB
  cases s.testBit j <;> rfl
theorem X10_bits_L (w : HW) {s : Nat} (hs : s < 2 ^ 31) : ∀ F i, i ≤ 14 → 14 - i < F → fX10_bits_4 w (nI s) F (nI (cB s i)) (nI i) = some (nI (cB s 14)) := by
  intro F
  induction F with
  | zero => intro i h1 h2; omega
  | succ F ih =>
    intro i h1 h2
    rw [fX10_bits_4]
    by_cases hi : i < 14
    · rw [if_pos (show nI i < (14 : Int32) from nI_lt (b := 14) hi (by omega)), iSr_bit hs (by omega), nI_add, lT_eq, nI_1]
      exact ih (i + 1) (by omega) (by omega)
    · have e : i = 14 := by omega
      rw [e, if_neg (by decide)]
theorem X10_bits_ok (w : HW) {s : Nat} (hs : s < 2 ^ 31) : fX10_bits w (nI s) = some (nI (cB s 14)) :=
  X10_bits_L w hs FU 0 (by omega) (by rw [FU_eq]; omega)
theorem X10_daysOf_L (H : RC w K) (W : WF K) {a : Nat} (h : a < K 4) : ∀ F i, K (10 + 3 * a) ≤ i → i ≤ K (11 + 3 * a) + 1 → K (11 + 3 * a) + 1 - i < F → fX10_daysOf_9 w (nI a) F (nI (bS (fun d => decide (K (10 + 3 * a) ≤ d)) i)) (nI i) = some (nI (dys (K (10 + 3 * a)) (K (11 + 3 * a)))) := by
  have hb := W.b
  have ha := W.aug h
  intro F
  induction F with
  | zero => intro i h0 h1 h2; omega
  | succ F ih =>
    intro i h0 h1 h2
    rw [fX10_daysOf_9, X10_ofAugur_2 H W h, bI_some]
    by_cases hi : i ≤ K (11 + 3 * a)
    · have e := ih (i + 1) (by omega) (by omega) (by omega)
      rw [bS, if_pos (decide_eq_true h0)] at e
      rw [if_pos (nI_nlt hi (by omega)), iSl_1 (by omega), nI_or, lT_eq, nI_1]
      exact e
    · have e : i = K (11 + 3 * a) + 1 := by omega
      rw [if_neg (fun z => z (nI_lt (by omega) (by omega)))]
      congr 2
      apply Nat.eq_of_testBit_eq
      intro j
      rw [bS_bit, dys_bit ha.2.1, e]
      by_cases h1 : j ≤ K (11 + 3 * a)
      · have h2 : j < K (11 + 3 * a) + 1 := by omega
        simp [h1, h2]
      · have h2 : ¬ j < K (11 + 3 * a) + 1 := by omega
        simp [h1, h2]
theorem X10_daysOf_ok (H : RC w K) (W : WF K) {a : Nat} (h : a < K 4) : fX10_daysOf w (nI a) = some (nI (dys (K (10 + 3 * a)) (K (11 + 3 * a)))) := by
  have hb := W.b
  have ha := W.aug h
  unfold fX10_daysOf
  rw [X10_ofAugur_1 H W h, bI_some]
  have e := X10_daysOf_L H W h FU (K (10 + 3 * a)) (Nat.le_refl _) (by omega) (by rw [FU_eq]; omega)
  have z : bS (fun d => decide (K (10 + 3 * a) ≤ d)) (K (10 + 3 * a)) = 0 := by
    apply Nat.eq_of_testBit_eq
    intro j
    rw [bS_bit, Nat.zero_testBit]
    by_cases h1 : j < K (10 + 3 * a)
    · have h2 : ¬ K (10 + 3 * a) ≤ j := by omega
      simp [h2]
    · simp [h1]
  rw [z] at e
  exact e
theorem X10_skyBy_L (H : RC w K) (W : WF K) {s t : Nat} (hs : s < 2 ^ 31) (ht : t < 2 ^ 31) : ∀ F i, i ≤ K 4 → K 4 - i < F → fX10_skyBy_5 w (nI s) (nI t) F (nI (skF K (fun a => K (9 + 3 * a) == s && t.testBit a) i)) (nI i) = some (nI (skF K (fun a => K (9 + 3 * a) == s && t.testBit a) (K 4))) := by
  have hb := W.b
  intro F
  induction F with
  | zero => intro i h1 h2; omega
  | succ F ih =>
    intro i h1 h2
    rw [fX10_skyBy_5, if_pos (show inB 4 77 = true from rfl), ix_4, H.r4]
    by_cases hi : i < K 4
    · have ha := W.aug hi
      have e := ih (i + 1) (by omega) (by omega)
      rw [skF] at e
      rw [if_pos (nI_lt hi (by omega)), X10_ofAugur_0 H W hi, bI_some, bit_ok w ht (by omega), bI_some, if_b011, X10_daysOf_ok H W hi, bI_some, nI_or, lT_eq, nI_1]
      by_cases hq : K (9 + 3 * i) = s
      · rw [if_pos (by rw [hq])]
        cases hq2 : t.testBit i <;> simpa [hq, hq2] using e
      · rw [if_neg (fun z => hq ((nI_eq (by omega) hs).mp z))]
        simpa [hq] using e
    · have e : i = K 4 := by omega
      rw [if_neg (nI_nlt (by omega) (by omega)), e]
theorem X10_skyBy_ok (H : RC w K) (W : WF K) {s t : Nat} (hs : s < 2 ^ 31) (ht : t < 2 ^ 31) : fX10_skyBy w (nI s) (nI t) = some (nI (skF K (fun a => K (9 + 3 * a) == s && t.testBit a) (K 4))) := by
  have := W.b
  exact X10_skyBy_L H W hs ht FU 0 (by omega) (by rw [FU_eq]; omega)
theorem X10_allAugurs_ok (H : RC w K) (W : WF K) : fX10_allAugurs w = some (nI (2 ^ K 4 - 1)) := by
  have := W.b
  unfold fX10_allAugurs
  rw [if_pos (show inB 4 77 = true from rfl), ix_4, H.r4, iSl_1 (by omega), show nI (2 ^ K 4) - 1 = nI (2 ^ K 4 - 1) from nI_subI Nat.one_le_two_pow]
theorem p2lt {n : Nat} (h : n ≤ 30) : 2 ^ n - 1 < 2 ^ 31 := by
  have h1 := pow31 (n := n) (by omega)
  have h2 : 0 < 2 ^ n := Nat.two_pow_pos n
  omega
theorem X10_skyOf_ok (H : RC w K) (W : WF K) {s : Nat} (hs : s < 2 ^ 31) : fX10_skyOf w (nI s) = some (nI (sky K s)) := by
  have hb := W.b
  unfold fX10_skyOf
  rw [X10_allAugurs_ok H W, bI_some, X10_skyBy_ok H W hs (p2lt (by omega)), bI_some]
  congr 2
  refine skF_congr _ (fun i hi => ?_)
  rw [Nat.testBit_two_pow_sub_one]
  simp [hi]
theorem X10_allDays_ok (H : RC w K) (W : WF K) : fX10_allDays w = some (nI (2 ^ K 0 - 1)) := by
  have := W.b
  unfold fX10_allDays
  rw [if_pos (show inB 0 77 = true from rfl), ix_0, H.r0, iSl_1 (by omega), show nI (2 ^ K 0) - 1 = nI (2 ^ K 0 - 1) from nI_subI Nat.one_le_two_pow]
theorem X10_needsOf_ok0 (H : RC w K) (W : WF K) : ∀ F c s, c ≤ K 5 → c < F → fX10_needsOf_9 w F (nI s) (aI c) = some (nI (s ||| ndF K 9 c)) := by
  have hb := W.b
  intro F
  induction F with
  | zero => intro c s _ h; omega
  | succ F ih =>
    intro c s h1 h2
    rw [fX10_needsOf_9]
    cases c with
    | zero =>
      rw [aI_0, if_neg (fun z => z rfl)]
      show some (nI s) = some (nI (s ||| 0))
      rw [Nat.or_zero]
    | succ c =>
      have hc := W.bil (b := c) (by omega)
      rw [aI_s, if_pos (fun z => nI_ne_m1 (by omega) z), iSl_1 (by omega), nI_or, lT_eq, X10_of_2 H W (by omega), bI_some, ih _ _ (by omega) (by omega), Nat.or_assoc]
      have e : ndF K 9 (c + 1) = 2 ^ c ||| ndF K 9 (K (35 + 3 * c)) := by
        show 2 ^ c ||| ndF K 8 _ = _
        rw [ndF_fuel 8 9 _ (by omega) (by omega) (fun b hb => (W.bil (b := b) (by omega)).2.2)]
      rw [e]
theorem X10_needsOf_ok (H : RC w K) (W : WF K) {b : Nat} (h : b < K 5) : fX10_needsOf w (nI b) = some (nI (ned K b)) := by
  have hb := W.b
  have hj := W.bil h
  unfold fX10_needsOf
  rw [X10_of_2 H W h, bI_some]
  have e := X10_needsOf_ok0 H W FU (K (35 + 3 * b)) 0 (by omega) (by rw [FU_eq]; omega)
  rw [Nat.zero_or] at e
  exact e
end RF
