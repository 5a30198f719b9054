/-! FALLS, WORST, CHANCE -/
section NED
variable {K : Nat → Nat}
theorem ned_eq (W : WF K) {b a : Nat} (hb : b < K 5) (ha : K (35 + 3 * b) = a + 1) : ned K b = 2 ^ a ||| ned K a := by
  have hB := W.b
  have h1 := W.bil hb
  have h2 := W.bil (b := a) (by omega)
  unfold ned
  rw [ha]
  show 2 ^ a ||| ndF K 8 (K (35 + 3 * a)) = _
  rw [ndF_fuel 8 9 _ (by omega) (by omega) (fun b hb => (W.bil (b := b) (by omega)).2.2)]
theorem ned_0 {b : Nat} (ha : K (35 + 3 * b) = 0) : ned K b = 0 := by
  unfold ned
  rw [ha]; rfl
theorem ned_tr (W : WF K) : ∀ (n b c x : Nat), b < n → b < K 5 → (ned K b).testBit c = true → (ned K c).testBit x = true → (ned K b).testBit x = true := by
  intro n
  induction n with
  | zero => intro b c x h; omega
  | succ n ih =>
    intro b c x h hb h1 h2
    have hB := W.bil hb
    by_cases ha : K (35 + 3 * b) = 0
    · rw [ned_0 ha, Nat.zero_testBit] at h1; cases h1
    · obtain ⟨a, ha⟩ : ∃ a, K (35 + 3 * b) = a + 1 := ⟨K (35 + 3 * b) - 1, by omega⟩
      have e := ned_eq W hb ha
      rw [e, Nat.testBit_or, Nat.testBit_two_pow] at h1 ⊢
      rw [Bool.or_eq_true, decide_eq_true_eq] at h1
      rw [Bool.or_eq_true]
      rcases h1 with rfl | h1
      · exact Or.inr h2
      · exact Or.inr (ih a c x (by omega) (by omega) h1 h2)
/-- what falls with b -/
def fal (K : Nat → Nat) (V : Nat → Nat) (b : Nat) : Nat → Nat := fun n => bS (fun o => decide (V o ≠ 0) && (decide (o = b) || (ned K o).testBit b)) n
variable {w : HW} {V : Nat → Nat}
theorem needs_hit (W : WF K) (hV : ∀ b, V b < 100) {b i : Nat} (hi : i < K 5) (hbl : b < K 5) (hVb : V b ≠ 0) : (ned K i &&& (2 ^ b ||| fal K V b i) = 0) ↔ (ned K i).testBit b = false := by
  constructor
  · intro h
    have := congrArg (fun z => z.testBit b) h
    simpa [Nat.testBit_and, Nat.testBit_or, Nat.testBit_two_pow] using this
  · intro h
    apply Nat.eq_of_testBit_eq
    intro c
    rw [Nat.testBit_and, Nat.testBit_or, Nat.testBit_two_pow, Nat.zero_testBit]
    unfold fal
    rw [bS_bit]
    by_cases hc : (ned K i).testBit c = true
    · have n1 : b ≠ c := fun e => by subst e; rw [h] at hc; cases hc
      have n2 : (ned K c).testBit b = false := by
        cases q : (ned K c).testBit b with
        | false => rfl
        | true => rw [ned_tr W (i + 1) i c b (by omega) hi hc q] at h; cases h
      simp [n1, n2, Ne.symm n1]
    · simp [hc]
theorem fallsM_L (W : WF K) (HR : RC w K) (h89 : ∀ b, b < 8 → gI w 89 b = aI (V b)) (hV : ∀ b, V b < 100) {b : Nat} (hbl : b < K 5) (hVb : V b ≠ 0) : ∀ F i, i ≤ K 5 → K 5 - i < F → fX10_fallsBy_25 w F (nI (2 ^ b ||| fal K V b i)) (nI i) = some (nI (2 ^ b ||| fal K V b (K 5))) := by
  have hb := W.b
  intro F
  induction F with
  | zero => intro i a b; omega
  | succ F ih =>
    intro i a q
    rw [fX10_fallsBy_25, if_pos (show inB 5 77 = true from rfl), ix_5, HR.r5]
    by_cases hi : i < K 5
    · have hVi := hV i
      have i1 := ih (i + 1) (by omega) (by omega)
      have e : fal K V b (i + 1) = if (decide (V i ≠ 0) && (decide (i = b) || (ned K i).testBit b)) = true then fal K V b i ||| 2 ^ i else fal K V b i := rfl
      rw [if_pos (nI_lt hi (by omega)), if_pos (inB_nI (by omega) (by omega)), ix_nI (by omega), h89 i (by omega), X10_needsOf_ok HR W hi, bI_some, nI_and, iSl_1 (by omega), nI_or, lT_eq, nI_1]
      have hnl : ned K i &&& (2 ^ b ||| fal K V b i) < 2 ^ 31 := and_lt31 (Nat.lt_of_lt_of_le (ned_lt W hi) (Nat.pow_le_pow_right (by omega) (by omega)))
      by_cases c : V i = 0
      · rw [if_neg (fun z => z ((aI_m1 (by omega)).mpr c))]
        rw [e, if_neg (by simp [c])] at i1
        exact i1
      · rw [if_pos (fun z => c ((aI_m1 (by omega)).mp z))]
        by_cases c2 : (ned K i).testBit b = true
        · rw [if_pos (show ¬ nI (ned K i &&& (2 ^ b ||| fal K V b i)) = 0 from fun z => by
            have := (needs_hit W hV hi hbl hVb).mp ((nI_eqv (b := 0) hnl (by omega)).mp z)
            rw [c2] at this; cases this)]
          rw [e, if_pos (by simp [c, c2])] at i1
          rw [Nat.or_assoc]; exact i1
        · rw [if_neg (show ¬ ¬ nI (ned K i &&& (2 ^ b ||| fal K V b i)) = 0 from fun z => z (congrArg nI ((needs_hit W hV hi hbl hVb).mpr (by simpa using c2))))]
          rw [e] at i1
          by_cases c3 : i = b
          · subst c3
            rw [if_pos (by simp [c]), Nat.or_comm (fal K V i i), ← Nat.or_assoc, Nat.or_self] at i1
            exact i1
          · rw [if_neg (by simp [c2, c3])] at i1
            exact i1
    · have e : i = K 5 := by omega
      rw [if_neg (nI_nlt (by omega) (by omega)), e]
theorem fallsM_0 (W : WF K) (HR : RC w K) : ∀ F i, i ≤ K 5 → K 5 - i < F → (∀ b, b < 8 → ∃ v, gI w 89 b = v) → fX10_fallsBy_25 w F 0 (nI i) = some 0 := by
  have hb := W.b
  intro F
  induction F with
  | zero => intro i a b; omega
  | succ F ih =>
    intro i a q h
    rw [fX10_fallsBy_25, if_pos (show inB 5 77 = true from rfl), ix_5, HR.r5]
    by_cases hi : i < K 5
    · have i1 := ih (i + 1) (by omega) (by omega) h
      rw [if_pos (nI_lt hi (by omega)), if_pos (inB_nI (by omega) (by omega)), X10_needsOf_ok HR W hi, bI_some, show nI (ned K i) &&& 0 = 0 from by rw [show (0 : Int32) = nI 0 from rfl, nI_and, Nat.and_zero], if_neg (show ¬ ¬ (0 : Int32) = 0 from fun z => z rfl), nI_1, i1, ite_self]
    · rw [if_neg (nI_nlt (by omega) (by omega))]
/-- the set that falls with what passed on the day d -/
def falD (K : Nat → Nat) (V : Nat → Nat) (r : Int32) (x : Int32) : Prop := (∃ b, b < K 5 ∧ V b ≠ 0 ∧ r = nI b ∧ x = nI (fal K V b (K 5))) ∨ (r = -1 ∧ x = 0)
theorem fal_b {b : Nat} (hbl : b < K 5) (hVb : V b ≠ 0) : 2 ^ b ||| fal K V b (K 5) = fal K V b (K 5) := by
  apply Nat.eq_of_testBit_eq
  intro i
  unfold fal
  rw [Nat.testBit_or, Nat.testBit_two_pow, bS_bit]
  by_cases e : b = i
  · subst e; simp [hbl, hVb]
  · simp [e]
theorem fallM_ok (W : WF K) (S : MS K false 0 w (K 0)) {d : Nat} (hd : d < K 0) : ∃ x, falD K (sea K false 0 (K 0)).1 (gI w 88 d) x ∧ fX10_fallsBy w (nI d) = some x := by
  have hb := W.b
  unfold fX10_fallsBy
  rw [if_pos (inB_nI (by omega) (by omega)), if_pos (inB_nI (by omega) (by omega)), ix_nI (by omega)]
  have e := S.2.2.2.2.2.1 d hd
  by_cases c : 2 ≤ aD K d ∧ (sea K false 0 (d + 1)).1 (aD K d - 2) = d + 1
  · rw [if_pos c] at e
    have hl := aD_lt W (d := d)
    have hVb : (sea K false 0 (K 0)).1 (aD K d - 2) ≠ 0 := by
      have h3 : aB K (aD K d - 2) = d + 1 := (aB_aD W).mpr (by omega)
      have := sea_stay W false 0 (aD K d - 2) (d := d + 1) (by omega) (K 0 - (d + 1))
      rw [show d + 1 + (K 0 - (d + 1)) = K 0 by omega] at this
      rw [this]; omega
    refine ⟨nI (fal K (sea K false 0 (K 0)).1 (aD K d - 2) (K 5)), Or.inl ⟨aD K d - 2, by omega, hVb, e, rfl⟩, ?_⟩
    have := fallsM_L W S.1 S.2.2.1 (fun b => sea_lt W false 0 b) (b := aD K d - 2) (by omega) hVb FU 0 (by omega) (by rw [FU_eq]; omega)
    rw [show fal K (sea K false 0 (K 0)).1 (aD K d - 2) 0 = 0 from rfl, Nat.or_zero, fal_b (by omega) hVb] at this
    rw [e, if_neg (nI_ne_m1 (by omega)), iSl_1 (by omega), lT_eq]
    exact this
  · rw [if_neg c] at e
    refine ⟨0, Or.inr ⟨e, rfl⟩, ?_⟩
    rw [e, if_pos rfl]
    exact fallsM_0 W S.1 FU 0 (by omega) (by rw [FU_eq]; omega) (fun b _ => ⟨_, rfl⟩)
theorem fallX_ok {kn ks : Nat} (W : WF K) (HN : RelN w kn ks) (HC : CC w kn K) (h7 : ∀ b, b < 8 → gI w 7 b = aI (V b)) (hV : ∀ b, V b < 100) {d : Int32} {r : Int32} (hr : fX6_passingOn w kn d = some r) {x : Int32} (hx : falD K V r x) : fX9_fallingWith w d = some x := by
  have hb := W.b
  unfold fX9_fallingWith
  simp only [now_ok HN, hr, bI_some]
  rcases hx with ⟨b, hbl, hVb, rfl, rfl⟩ | ⟨rfl, rfl⟩
  · rw [if_neg (nI_ne_m1 (by omega)), X0_heirsOf_ok HC W hbl, bI_some, passing_ok HC W h7 hV, bI_some, iSl_1 (by omega), nI_or, nI_and]
    refine congrArg (fun z => some (nI z)) ?_
    apply Nat.eq_of_testBit_eq
    intro i
    unfold fal hei
    rw [Nat.testBit_and, Nat.testBit_or, Nat.testBit_two_pow, bS_bit, bS_bit, bS_bit]
    by_cases hi : i < K 5
    · by_cases e : b = i
      · subst e; simp [hi]
      · rw [decide_eq_false (show ¬ b = i from e), decide_eq_false (show ¬ i = b from fun z => e z.symm)]
        simp only [hi, decide_true, Bool.true_and, Bool.false_or]
        rw [Bool.and_comm]
    · simp [hi]
  · rw [if_pos rfl]
theorem passOn88 (W : WF K) {kn : Nat} (HC : CC w kn K) (h7 : ∀ b, b < 8 → gI w 7 b = aI ((sea K false 0 (K 0)).1 b)) {w2 : HW} (q2 : MS K false 0 w2 (K 0)) {d : Nat} (hd : d < K 0) : fX6_passingOn w kn (nI d) = some (gI w2 88 d) := by
  have hb := W.b
  obtain ⟨r, r1, r2⟩ := passOn_L HC W (V := (sea K false 0 (K 0)).1) h7 (fun b => sea_lt W false 0 b) (d := d) (by omega) FU 0 (by omega) (by rw [FU_eq]; omega) (fun j hj => by omega)
  rw [show fX6_passingOn w kn (nI d) = some r from r1]
  refine congrArg some ?_
  rw [q2.2.2.2.2.2.1 d hd]
  have key : ∀ b, (sea K false 0 (K 0)).1 b = d + 1 ↔ (aD K d = b + 2 ∧ (sea K false 0 (d + 1)).1 b = d + 1) := by
    intro b
    constructor
    · intro z
      have h1 := sea_V W false 0 b (K 0)
      have h2 : aB K b = d + 1 := by omega
      refine ⟨(aB_aD W).mp h2, ?_⟩
      have := sea_stay W false 0 b (d := d + 1) (by omega) (K 0 - (d + 1))
      rw [show d + 1 + (K 0 - (d + 1)) = K 0 by omega] at this
      rw [← this]; exact z
    · rintro ⟨h1, h2⟩
      have h3 : aB K b = d + 1 := (aB_aD W).mpr h1
      have := sea_stay W false 0 b (d := d + 1) (by omega) (K 0 - (d + 1))
      rw [show d + 1 + (K 0 - (d + 1)) = K 0 by omega] at this
      rw [this]; exact h2
  rcases r2 with ⟨b, hbl, hv, rfl⟩ | ⟨hv, rfl⟩
  · obtain ⟨h1, h2⟩ := (key b).mp hv
    rw [h1, Nat.add_sub_cancel, if_pos ⟨by omega, h2⟩]
  · rw [if_neg]
    rintro ⟨h1, h2⟩
    have hl := aD_lt W (d := d)
    exact hv (aD K d - 2) (by omega) ((key _).mpr ⟨by omega, h2⟩)
end NED
theorem ag_falls {w : HW} (H : Rel w) (x : Int32) : Agree w (fX9_falls · x) (fX10_falls · x) := by
  obtain ⟨HO, K, W, HR, kn, ks, HN, HC⟩ := id H
  have hb := W.b
  by_cases c : 0 ≤ x ∧ x < nI (K 0)
  · obtain ⟨d, hd, rfl⟩ := rng_of (by omega) c
    obtain ⟨w1, p1, p2, p3⟩ := play_sx W HN HC
    obtain ⟨w2, q1, q2⟩ := day_sx W HO HR p3 (nI d)
    obtain ⟨x, x1, x2⟩ := fallM_ok W q2 hd
    have ex : fX9_falls w (nI d) = some (x, w1) := by
      unfold fX9_falls
      simp only [now_ok HN, X0_hasDay_ok HC W, bI_some, if_b01', ite_dec]
      rw [if_pos c, p1, bI_some, fallX_ok W (HN.sx p3) (HC.sx p3) p2.2.1 (fun b => sea_lt W false 0 b) (passOn88 W (HC.sx p3) p2.2.1 q2 hd) x1, bI_some]
    have em : fX10_falls w1 (nI d) = some (x, w2) := by
      unfold fX10_falls
      rw [q1, bW_some, if_b01, if_pos (decide_eq_true c), x2, bI_some]
    exact ⟨_, _, _, ex, em, (H.sx p3).sx (rX10_falls Sx.rf _ _ em)⟩
  · have ex : fX9_falls w x = some (-2, w) := by
      unfold fX9_falls
      simp only [now_ok HN, X0_hasDay_ok HC W, bI_some, if_b01', ite_dec]
      rw [if_neg c]
    obtain ⟨w2, q1, q2⟩ := day_sx W HO HR Sx.rf x
    have em : fX10_falls w x = some (-2, w2) := by
      unfold fX10_falls
      rw [q1, bW_some, if_b01, if_neg (fun z => c (of_decide_eq_true z))]
    exact ⟨_, _, _, ex, em, H.sx (rX10_falls Sx.rf _ _ em)⟩
section WST
variable {w : HW} {K : Nat → Nat} {V : Nat → Nat}
theorem worthBy_L (W : WF K) (HR : RC w K) {s : Nat} (hs : s < 2 ^ 31) : ∀ F i, i ≤ K 5 → K 5 - i < F → fX10_worthBy_4 w (nI s) F (nI (woF K (fun a => s.testBit a) i)) (nI i) = some (nI (woF K (fun a => s.testBit a) (K 5))) := by
  have hb := W.b
  intro F
  induction F with
  | zero => intro i a b; omega
  | succ F ih =>
    intro i a b
    rw [fX10_worthBy_4, if_pos (show inB 5 77 = true from rfl), ix_5, HR.r5]
    by_cases hi : i < K 5
    · have i1 := ih (i + 1) (by omega) (by omega)
      rw [woF] at i1
      rw [if_pos (nI_lt hi (by omega)), bit_ok w hs (by omega), bI_some, X10_of_1 HR W hi, bI_some, lT_eq, nI_1]
      by_cases c : s.testBit i = true
      · rw [if_pos c] at i1
        rw [c, show b01 true * nI (K (34 + 3 * i)) = nI (K (34 + 3 * i)) from by rw [show b01 true = nI 1 from rfl, pk_mul, Nat.one_mul], nI_add]; exact i1
      · rw [if_neg c] at i1
        rw [show s.testBit i = false by simpa using c, show b01 false * nI (K (34 + 3 * i)) = nI 0 from by rw [show b01 false = nI 0 from rfl, pk_mul, Nat.zero_mul], nI_add, Nat.add_zero]; exact i1
    · have e : i = K 5 := by omega
      rw [if_neg (nI_nlt (by omega) (by omega)), e]
theorem worthBy_ok (W : WF K) (HR : RC w K) {s : Nat} (hs : s < 2 ^ 31) : fX10_worthBy w (nI s) = some (nI (woF K (fun a => s.testBit a) (K 5))) := by
  have hb := W.b
  exact worthBy_L W HR hs FU 0 (by omega) (by rw [FU_eq]; omega)
theorem worst_L {kn ks : Nat} {w w2 : HW} (W : WF K) (HN : RelN w kn ks) (HC : CC w kn K) (S : CS K false 0 w (K 0)) (q2 : MS K false 0 w2 (K 0)) : ∀ F i (b : Nat) (x : Nat), i ≤ K 0 → K 0 - i < F → x < 2 ^ 31 → ∃ r, fX9_worst_30 F w (aI b) (nI x) (nI i) = some (r, w) ∧ fX10_worst_16 F w2 (aI b) (nI x) (nI i) = some (r, w2) := by
  have hb := W.b
  intro F
  induction F with
  | zero => intro i b x a c; omega
  | succ F ih =>
    intro i b x a c hx
    rw [fX9_worst_30, fX10_worst_16]
    simp only [now_ok HN, HC.c1]
    rw [if_pos (show inB 0 77 = true from rfl), ix_0, q2.1.r0]
    by_cases hi : i < K 0
    · obtain ⟨y, y1, y2⟩ := fallM_ok W q2 hi
      obtain ⟨f, hf, rfl⟩ : ∃ f : Nat, f < 2 ^ 31 ∧ y = nI f := by
        rcases y1 with ⟨b, _, _, _, rfl⟩ | ⟨_, rfl⟩
        · exact ⟨_, bS_lt31 _ (by omega), rfl⟩
        · exact ⟨0, by omega, rfl⟩
      have hwo := woF_le W (fun a => f.testBit a) (K 5) (Nat.le_refl _)
      rw [if_pos (nI_lt hi (by omega)), if_pos (nI_lt hi (by omega)), fallX_ok W HN HC S.2.1 (fun b => sea_lt W false 0 b) (passOn88 W HC S.2.1 q2 hi) y1, bI_some, y2, bI_some, X0_worthOf_ok HC W hf, bI_some, worthBy_ok W q2.1 hf, bI_some, nI_1]
      by_cases c1 : x < woF K (fun a => f.testBit a) (K 5)
      · rw [if_pos (nI_lt c1 (by omega)), if_neg (fun z => z (nI_lt c1 (by omega))), ← aI_s i]
        exact ih (i + 1) (i + 1) _ (by omega) (by omega) (by omega)
      · rw [if_neg (nI_nlt (by omega) (by omega)), if_pos (nI_nlt (by omega) (by omega))]
        exact ih (i + 1) b x (by omega) (by omega) hx
    · rw [if_neg (nI_nlt (by omega) (by omega)), if_neg (nI_nlt (by omega) (by omega))]
      exact ⟨_, rfl, rfl⟩
/-- the chance's fraction after i bills -/
def frc (K : Nat → Nat) : Nat → Int64 × Int64
  | 0 => (1, 1)
  | i + 1 => ((frc K i).1 * (nI (K 3)).toInt64, (frc K i).2 * 10)
theorem frc_10 (K : Nat → Nat) : ∀ i, i ≤ 14 → (frc K i).2 = lN (10 ^ i) := by
  intro i
  induction i with
  | zero => intro _; rfl
  | succ i ih =>
    intro h
    show (frc K i).2 * 10 = _
    rw [ih (by omega), show (10 : Int64) = lN 10 from rfl, lN_mul, Nat.pow_succ]
theorem frc_ne (K : Nat → Nat) {i : Nat} (h : i ≤ 14) : (frc K i).2 ≠ 0 := by
  rw [frc_10 K i h]
  intro z
  have := congrArg Int64.toInt z
  have hp : 10 ^ i ≤ 10 ^ 14 := Nat.pow_le_pow_right (by omega) h
  have hq : 0 < 10 ^ i := Nat.pow_pos (by omega)
  rw [lN_toI (by omega)] at this
  have e0 : (0 : Int64).toInt = 0 := rfl
  omega
theorem chanceX_L {kn ks : Nat} (W : WF K) (HN : RelN w kn ks) (HC : CC w kn K) {n : Nat} (hn : n ≤ 14) (x : Int32) : ∀ F i, i ≤ n → n - i < F → fX9_chance_55 x (nI n) F w (frc K i).1 (frc K i).2 (nI i) = bI (fX9_partOfFraction w (frc K n).1 (frc K n).2 x) fun r => some (r, w) := by
  intro F
  induction F with
  | zero => intro i a b; omega
  | succ F ih =>
    intro i a b
    rw [fX9_chance_55]
    simp only [now_ok HN, HC.c4]
    by_cases hi : i < n
    · rw [if_pos (nI_lt hi (by omega)), lT_eq, lT_eq, nI_1]
      exact ih (i + 1) (by omega) (by omega)
    · have e : i = n := by omega
      subst e
      rw [if_neg (nI_nlt (by omega) (by omega))]
theorem chanceM_L (W : WF K) (HR : RC w K) (h89 : ∀ b, b < 8 → gI w 89 b = aI (V b)) (hV : ∀ b, V b < 100) (x : Int32) : ∀ F i, i ≤ K 5 → K 5 - i < F → fX10_chance_29 x F w (frc K (cN (fun b => decide (V b ≠ 0)) i)).1 (frc K (cN (fun b => decide (V b ≠ 0)) i)).2 (nI i) = bI (fX10_part w (frc K (cN (fun b => decide (V b ≠ 0)) (K 5))).1 (frc K (cN (fun b => decide (V b ≠ 0)) (K 5))).2 x) fun r => some (r, w) := by
  have hb := W.b
  intro F
  induction F with
  | zero => intro i a b; omega
  | succ F ih =>
    intro i a b
    rw [fX10_chance_29, if_pos (show inB 5 77 = true from rfl), ix_5, HR.r5]
    by_cases hi : i < K 5
    · have hVi := hV i
      have i1 := ih (i + 1) (by omega) (by omega)
      rw [cN_s] at i1
      rw [if_pos (nI_lt hi (by omega)), if_pos (inB_nI (by omega) (by omega)), ix_nI (by omega), h89 i (by omega), if_pos (show inB 3 77 = true from rfl), ix_3, HR.r3, lT_eq, lT_eq, nI_1]
      by_cases c : V i = 0
      · rw [if_neg (by simp [c]), Nat.add_zero] at i1
        rw [if_pos ((aI_m1 (by omega)).mpr c)]; exact i1
      · rw [if_pos (decide_eq_true c)] at i1
        rw [if_neg (fun z => c ((aI_m1 (by omega)).mp z))]; exact i1
    · have e : i = K 5 := by omega
      subst e
      rw [if_neg (nI_nlt (by omega) (by omega))]
theorem cB_cN (p : Nat → Bool) (n : Nat) : ∀ m, cB (bS p n) m = cN (fun i => decide (i < n) && p i) m := by
  intro m
  induction m with
  | zero => rfl
  | succ m ih =>
    unfold cB cN
    rw [ih]
    unfold tB
    rw [bS_bit]
    cases decide (m < n) && p m <;> rfl
theorem cN_cut (p : Nat → Bool) (n : Nat) : ∀ m, n ≤ m → cN (fun i => decide (i < n) && p i) m = cN p n := by
  intro m
  induction m with
  | zero => intro h; have : n = 0 := by omega
            subst this; rfl
  | succ m ih =>
    intro h
    by_cases e : n = m + 1
    · subst e
      exact cN_congr _ (fun i hi => by simp [hi])
    · rw [cN_s, ih (by omega), if_neg (by simp; omega), Nat.add_zero]
end WST
theorem ag_worst {w : HW} (H : Rel w) : Agree w fX9_worst fX10_worst := by
  obtain ⟨HO, K, W, HR, kn, ks, HN, HC⟩ := id H
  have hb := W.b
  by_cases c : 0 < K 7
  · obtain ⟨w1, p1, p2, p3⟩ := play_sx W HN HC
    obtain ⟨w2, q1, q2⟩ := camp_sx W HO HR p3
    obtain ⟨r, r1, r2⟩ := worst_L W (HN.sx p3) (HC.sx p3) p2 q2 FU 0 0 0 (by omega) (by rw [FU_eq]; omega) (by omega)
    have ex : fX9_worst w = some (r, w1) := by
      unfold fX9_worst
      simp only [now_ok HN, X0_isTold_ok HC W, bI_some, if_b01', ite_dec]
      rw [if_pos c, p1, bI_some]
      exact r1
    have em : fX10_worst w1 = some (r, w2) := by
      unfold fX10_worst
      rw [q1, bW_some, if_b01', if_pos (decide_eq_true c)]
      exact r2
    exact ⟨_, _, _, ex, em, (H.sx p3).sx (rX10_worst Sx.rf _ em)⟩
  · have ex : fX9_worst w = some (-2, w) := by
      unfold fX9_worst
      simp only [now_ok HN, X0_isTold_ok HC W, bI_some, if_b01', ite_dec]
      rw [if_neg c]
    obtain ⟨w2, q1, q2⟩ := camp_sx W HO HR Sx.rf
    have em : fX10_worst w = some (-2, w2) := by
      unfold fX10_worst
      rw [q1, bW_some, if_b01', if_neg (fun z => c (of_decide_eq_true z))]
    exact ⟨_, _, _, ex, em, H.sx (rX10_worst Sx.rf _ em)⟩
theorem ag_chance {w : HW} (H : Rel w) (x : Int32) : Agree w (fX9_chance · x) (fX10_chance · x) := by
  obtain ⟨HO, K, W, HR, kn, ks, HN, HC⟩ := id H
  have hb := W.b
  by_cases h : 0 < K 7 ∧ (x = 0 ∨ x = 1)
  · obtain ⟨w1, p1, p2, p3⟩ := play_sx W HN HC
    obtain ⟨w2, q1, q2⟩ := camp_sx W HO HR p3
    have hc : cN (fun b => decide ((sea K false 0 (K 0)).1 b ≠ 0)) (K 5) ≤ 14 := by have := cN_le (fun b => decide ((sea K false 0 (K 0)).1 b ≠ 0)) (K 5); omega
    have hs : bS (fun b => decide ((sea K false 0 (K 0)).1 b ≠ 0)) (K 5) < 2 ^ 14 := Nat.lt_of_lt_of_le (bS_lt _ _) (Nat.pow_le_pow_right (by omega) (by omega))
    obtain ⟨r, r1, r2⟩ := part_ok w1 w2 (frc K (cN (fun b => decide ((sea K false 0 (K 0)).1 b ≠ 0)) (K 5))).1 (frc K (cN (fun b => decide ((sea K false 0 (K 0)).1 b ≠ 0)) (K 5))).2 (frc_ne K hc) x
    have ex : fX9_chance w x = some (r, w1) := by
      unfold fX9_chance
      simp only [now_ok HN, X0_isTold_ok HC W, X9_isChoice_ok, bI_some, if_b01, if_b01', ite_dec]
      rw [if_pos h.2, if_pos h.1, p1, bI_some]
      simp only [now_ok (HN.sx p3)]
      rw [passing_ok (HC.sx p3) W p2.2.1 (fun b => sea_lt W false 0 b), bI_some, bc_ok w1 hs, bI_some, cB_cN, cN_cut _ _ _ (by omega)]
      have := chanceX_L W (HN.sx p3) (HC.sx p3) hc x FU 0 (by omega) (by rw [FU_eq]; omega)
      rw [r1, bI_some] at this
      exact this
    have em : fX10_chance w1 x = some (r, w2) := by
      unfold fX10_chance
      rw [q1, bW_some, if_b01, if_pos (decide_eq_true h.1), in_01, bI_some, if_b01', if_pos (decide_eq_true h.2)]
      have := chanceM_L W q2.1 q2.2.2.1 (fun b => sea_lt W false 0 b) x FU 0 (by omega) (by rw [FU_eq]; omega)
      rw [r2, bI_some] at this
      exact this
    exact ⟨_, _, _, ex, em, (H.sx p3).sx (rX10_chance Sx.rf _ _ em)⟩
  · have ex : fX9_chance w x = some (-2, w) := by
      unfold fX9_chance
      simp only [now_ok HN, X0_isTold_ok HC W, X9_isChoice_ok, bI_some, if_b01, if_b01', ite_dec]
      by_cases h2 : x = 0 ∨ x = 1
      · rw [if_pos h2, if_neg (fun z => h ⟨z, h2⟩)]
      · rw [if_neg h2]
    obtain ⟨w2, q1, q2⟩ := camp_sx W HO HR Sx.rf
    have em : fX10_chance w x = some (-2, w2) := by
      unfold fX10_chance
      rw [q1, bW_some, if_b01, in_01, bI_some, if_b01']
      by_cases h2 : x = 0 ∨ x = 1
      · rw [if_neg (fun z => h ⟨of_decide_eq_true z, h2⟩)]
      · rw [if_neg (fun z => h2 (of_decide_eq_true z)), ite_self]
    exact ⟨_, _, _, ex, em, H.sx (rX10_chance Sx.rf _ _ em)⟩
