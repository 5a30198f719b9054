/-! CHAINS: soonest, latest -/
/-- the day of the n-th passing from the day x on, one more; 0 for none -/
def gs (S N P : Nat) : Nat → Nat → Nat → Nat
  | 0, _, _ => 0
  | F + 1, n, x => if x < N then (if S.testBit x = true then (if n = 1 then x + 1 else gs S N P F (n - 1) (x + P)) else gs S N P F n (x + 1)) else 0
theorem gs_fuel {S N P : Nat} (hP : 1 ≤ P) : ∀ F G n x, N - x < F → N - x < G → gs S N P F n x = gs S N P G n x := by
  intro F
  induction F with
  | zero => intro G n x h; omega
  | succ F ih =>
    intro G n x h1 h2
    obtain ⟨G, rfl⟩ : ∃ H, G = H + 1 := ⟨G - 1, by omega⟩
    unfold gs
    by_cases hx : x < N
    · rw [if_pos hx, if_pos hx, ih G (n - 1) (x + P) (by omega) (by omega), ih G n (x + 1) (by omega) (by omega)]
    · rw [if_neg hx, if_neg hx]
theorem gs_big {S N P F n x : Nat} (h : N ≤ x) : gs S N P F n x = 0 := by
  cases F with
  | zero => rfl
  | succ F => unfold gs; rw [if_neg (by omega)]
theorem gs_bit {S N P : Nat} : ∀ F n x d, gs S N P F n x = d + 1 → d < N ∧ S.testBit d = true ∧ x ≤ d := by
  intro F
  induction F with
  | zero => intro n x d h; cases h
  | succ F ih =>
    intro n x d h
    unfold gs at h
    by_cases hx : x < N
    · rw [if_pos hx] at h
      by_cases hb : S.testBit x = true
      · rw [if_pos hb] at h
        by_cases hn : n = 1
        · rw [if_pos hn] at h
          have e : d = x := by omega
          subst e
          exact ⟨hx, hb, Nat.le_refl _⟩
        · rw [if_neg hn] at h
          have := ih _ _ _ h
          exact ⟨this.1, this.2.1, by omega⟩
      · rw [if_neg hb] at h
        have := ih _ _ _ h
        exact ⟨this.1, this.2.1, by omega⟩
    · rw [if_neg hx] at h; cases h
section CHN
variable {w : HW} {k : Nat} {K : Nat → Nat}
theorem pass12_L (HC : CC w k K) (W : WF K) (hP : 1 ≤ K 2) {S n : Nat} (hS : S < 2 ^ 31) (hn : n < 100) : ∀ F a c x, x ≤ K 0 → K 0 - x < F → a < 100 → c < n → fX1_dayOfPass_12 w k (nI S) (nI n) F (nI a) (nI c) (nI x) = some (aI (gs S (K 0) (K 2) 100 (n - c) (max x a))) := by
  have hb := W.b
  intro F
  induction F with
  | zero => intro a c x h1 h2; omega
  | succ F ih =>
    intro a c x h1 h2 h3 h4
    rw [fX1_dayOfPass_12, HC.c1, HC.c3]
    by_cases hx : x < K 0
    · rw [if_pos (nI_lt hx (by omega)), holds_ok w hS (by omega), bI_some, if_b01, nI_add, lT_eq, nI_1, nI_1]
      by_cases ha : a ≤ x
      · rw [if_pos (nI_nlt (by omega) (by omega)), Nat.max_eq_left ha]
        have e : gs S (K 0) (K 2) 100 (n - c) x = if S.testBit x = true then (if n - c = 1 then x + 1 else gs S (K 0) (K 2) 99 (n - c - 1) (x + K 2)) else gs S (K 0) (K 2) 99 (n - c) (x + 1) := by
          show (if x < K 0 then _ else _) = _
          rw [if_pos hx]
        rw [e]
        by_cases hs : S.testBit x = true
        · rw [if_pos hs, if_pos hs]
          by_cases hc : n - c = 1
          · rw [if_pos hc, if_pos (congrArg nI (by omega)), aI_s]
          · rw [if_neg hc, if_neg (fun z => hc (by have := (nI_eqv (by omega) (by omega)).mp z; omega)), ih (x + K 2) (c + 1) (x + 1) (by omega) (by omega) (by omega) (by omega), Nat.max_eq_right (by omega), gs_fuel hP 100 99 _ _ (by omega) (by omega), show n - (c + 1) = n - c - 1 by omega]
        · rw [if_neg hs, if_neg hs, ih a c (x + 1) (by omega) (by omega) h3 h4, Nat.max_eq_left (by omega), gs_fuel hP 100 99 _ _ (by omega) (by omega)]
      · rw [if_neg (fun z => z (nI_lt (by omega) (by omega))), ih a c (x + 1) (by omega) (by omega) h3 h4, Nat.max_eq_right (by omega), Nat.max_eq_right (by omega)]
    · rw [if_neg (nI_nlt (by omega) (by omega)), gs_big (by omega)]
      rfl
theorem soon68_L (HR : RC w K) (W : WF K) (hP : 1 ≤ K 2) {S : Nat} (hS : S < 2 ^ 31) : ∀ F n x, K 0 - x < F → 1 ≤ n → n < 100 → x < 200 → fX10_soonestBy_68 w (nI S) F (nI n) (nI x) = some (aI (gs S (K 0) (K 2) F n x)) := by
  have hb := W.b
  intro F
  induction F with
  | zero => intro n x h; omega
  | succ F ih =>
    intro n x h1 h2 h3 h4
    rw [fX10_soonestBy_68, if_pos (show inB 0 77 = true from rfl), ix_0, HR.r0, if_pos (show inB 2 77 = true from rfl), ix_2, HR.r2]
    unfold gs
    by_cases hx : x < K 0
    · obtain ⟨n, rfl⟩ : ∃ m, n = m + 1 := ⟨n - 1, by omega⟩
      rw [if_pos (nI_lt hx (by omega)), if_pos hx, bit_ok w hS (by omega), bI_some, if_b01', nI_add, lT_eq, pk_m1, nI_1]
      by_cases hs : S.testBit x = true
      · rw [if_pos hs, if_pos hs]
        by_cases hn : n = 0
        · subst hn
          rw [if_pos (show nI 0 = 0 from rfl), if_pos rfl, aI_s]
        · rw [if_neg (nI_ne0 (by omega) (by omega)), if_neg (by omega), Nat.add_sub_cancel]
          exact ih n (x + K 2) (by omega) (by omega) (by omega) (by omega)
      · rw [if_neg hs, if_neg hs]
        exact ih (n + 1) (x + 1) (by omega) (by omega) (by omega) (by omega)
    · rw [if_neg (nI_nlt (by omega) (by omega)), if_neg hx]
      rfl
/-- all that c (one more) is after, itself too, are of the side s -/
def alS (K : Nat → Nat) (s c : Nat) : Prop := sB K s &&& ndF K 9 c = ndF K 9 c
theorem ndF_s (W : WF K) {a : Nat} (ha : a < K 5) : ndF K 9 (a + 1) = ndF K 9 (K (35 + 3 * a)) ||| 2 ^ a := by
  have hb := W.b
  have h2 := W.bil ha
  rw [Nat.or_comm]
  show 2 ^ a ||| ndF K 8 (K (35 + 3 * a)) = _
  rw [ndF_fuel 8 9 _ (by omega) (by omega) (fun b hb => (W.bil (b := b) (by omega)).2.2)]
theorem cB_or {A d : Nat} (h : A.testBit d = false) : ∀ m, d < m → cB (A ||| 2 ^ d) m = cB A m + 1 := by
  have tb : ∀ i, tB (A ||| 2 ^ d) i = if i = d then 1 else tB A i := fun i => by
    unfold tB
    rw [Nat.testBit_or, Nat.testBit_two_pow]
    by_cases e : i = d
    · subst e; rw [if_pos rfl]; simp
    · rw [if_neg e, decide_eq_false (fun z => e z.symm), Bool.or_false]
  have lo : ∀ m, m ≤ d → cB (A ||| 2 ^ d) m = cB A m := by
    intro m
    induction m with
    | zero => intro _; rfl
    | succ m ih => intro hm; unfold cB; rw [ih (by omega), tb, if_neg (by omega)]
  intro m
  induction m with
  | zero => intro h; omega
  | succ m ih =>
    intro hm
    unfold cB
    by_cases e : m = d
    · subst e
      rw [lo m (Nat.le_refl _), tb, if_pos rfl]
      unfold tB
      rw [h]; rfl
    · rw [ih (by omega), tb, if_neg e]; omega
theorem soon10_L (HR : RC w K) (W : WF K) {b : Nat} (hbl : b < K 5) (x2 : Int32) : ∀ F c n, c ≤ K 5 → c < F → fX10_soonestBy_10 w (nI b) x2 F (nI n) (aI c) = if sB K (K (33 + 3 * b)) &&& ndF K 9 c = ndF K 9 c then fX10_soonestBy_49 w x2 (nI (n + cB (ndF K 9 c) 14)) else some (-1) := by
  have hb := W.b
  intro F
  induction F with
  | zero => intro c n h1 h2; omega
  | succ F ih =>
    intro c n h1 h2
    rw [fX10_soonestBy_10]
    cases c with
    | zero =>
      rw [aI_0, if_neg (fun z => z rfl), show ndF K 9 0 = 0 from rfl, Nat.and_zero, if_pos rfl]
      rfl
    | succ a =>
      have hA := W.bil (b := a) (by omega)
      have hB := W.bil hbl
      rw [aI_s, if_pos (nI_ne_m1 (by omega)), X10_of_0 HR W (a := a) (by omega), bI_some, X10_of_0 HR W hbl, bI_some, X10_of_2 HR W (a := a) (by omega), bI_some, nI_1]
      have hlt : ndF K 9 (K (35 + 3 * a)) < 2 ^ a := ndF_lt 9 _ _ (by omega) (fun c hc => (W.bil (b := c) (by omega)).2.2)
      have hbit : (ndF K 9 (K (35 + 3 * a))).testBit a = false := Nat.testBit_lt_two_pow hlt
      have es : (sB K (K (33 + 3 * b)) &&& ndF K 9 (a + 1) = ndF K 9 (a + 1)) ↔ (sB K (K (33 + 3 * b)) &&& ndF K 9 (K (35 + 3 * a)) = ndF K 9 (K (35 + 3 * a)) ∧ K (33 + 3 * a) = K (33 + 3 * b)) := by
        rw [ndF_s W (by omega), and_or_pow]
        unfold sB
        rw [bS_bit, decide_eq_true (show a < K 5 by omega), Bool.true_and, beq_iff_eq]
      by_cases c : K (33 + 3 * a) = K (33 + 3 * b)
      · rw [if_neg (fun z => z (congrArg nI c)), ih _ (n + 1) (by omega) (by omega), ndF_s W (by omega), cB_or hbit 14 (by omega)] 
        rw [← ndF_s W (by omega)]
        by_cases q : sB K (K (33 + 3 * b)) &&& ndF K 9 (K (35 + 3 * a)) = ndF K 9 (K (35 + 3 * a))
        · rw [if_pos q, if_pos (es.mpr ⟨q, c⟩), show n + 1 + cB (ndF K 9 (K (35 + 3 * a))) 14 = n + (cB (ndF K 9 (K (35 + 3 * a))) 14 + 1) by omega]
        · rw [if_neg q, if_neg (fun z => q (es.mp z).1)]
      · rw [if_pos (fun z => c ((nI_eqv (by omega) (by omega)).mp z)), if_neg (fun z => c (es.mp z).2)]
/-- the soonest day for b over the days S, one more; 0 for none -/
def soo (K : Nat → Nat) (b S : Nat) : Nat := if sB K (K (33 + 3 * b)) &&& ned K b = ned K b then gs S (K 0) (K 2) 100 (1 + cB (ned K b) 14) (K 2 - K 1) else 0
theorem soonM_ok (HR : RC w K) (W : WF K) (hP : 1 ≤ K 2) {S b : Nat} (hS : S < 2 ^ 31) (hbl : b < K 5) : fX10_soonestBy w (nI b) (nI S) = some (aI (soo K b S)) := by
  have hb := W.b
  have hB := W.bil hbl
  have hc := cB_le (ned K b) 14
  unfold fX10_soonestBy soo
  rw [X10_of_2 HR W hbl, bI_some, show (1 : Int32) = nI 1 from rfl, soon10_L HR W hbl (nI S) FU _ 1 (by omega) (by rw [FU_eq]; omega)]
  show (if sB K (K (33 + 3 * b)) &&& ned K b = ned K b then _ else _) = _
  by_cases c : sB K (K (33 + 3 * b)) &&& ned K b = ned K b
  · rw [if_pos c, if_pos c]
    show fX10_soonestBy_49 w (nI S) (nI (1 + cB (ned K b) 14)) = _
    unfold fX10_soonestBy_49
    have e : iMx 0 (nI (K 2) - nI (K 1)) = nI (K 2 - K 1) := by
      by_cases h : K 1 ≤ K 2
      · rw [nI_subI h, n0, iMx_nI (by omega) (by omega), Nat.zero_max]
      · unfold iMx
        rw [if_neg, show K 2 - K 1 = 0 by omega]
        · rfl
        · have h1 := pk_sneg (a := K 2) (b := K 1) (by omega) (by omega)
          intro z
          rw [fa_lt] at z h1
          omega
    rw [if_pos (show inB 2 77 = true from rfl), if_pos (show inB 1 77 = true from rfl), ix_2, ix_1, HR.r2, HR.r1, e, lT_eq, soon68_L HR W hP hS FU _ _ (by rw [FU_eq]; omega) (by omega) (by omega) (by omega), gs_fuel hP FU 100 _ _ (by rw [FU_eq]; omega) (by omega)]
  · rw [if_neg c, if_neg c]; rfl
theorem soonX_ok (HC : CC w k K) (W : WF K) (hP : 1 ≤ K 2) {b : Nat} (hbl : b < K 5) : fX1_soonestDay w k (nI b) = some (aI (soo K b (clr K (K (33 + 3 * b))))) := by
  have hb := W.b
  have hB := W.bil hbl
  have hc := cB_le (ned K b) 14
  have hnl := ned_lt W hbl
  have hn14 : ned K b < 2 ^ 14 := Nat.lt_of_lt_of_le hnl (Nat.pow_le_pow_right (by omega) (by omega))
  have hcl : clr K (K (33 + 3 * b)) < 2 ^ 31 := lt31 W (nd_lt (nd_lt (by have := Nat.two_pow_pos (K 0); omega)))
  unfold fX1_soonestDay fX1_lengthOf soo
  rw [X0_needsOf_ok HC W hbl, bI_some, if_pos (inB_nI (by omega) (by omega)), ix_nI (by omega), (HC.bil hbl).1, X0_billsOf_ok HC W (by omega), bI_some, nI_and, bc_ok w hn14, bI_some, X0_clearDays_ok HC W (by omega), Nat.and_comm]
  by_cases c : sB K (K (33 + 3 * b)) &&& ned K b = ned K b
  · rw [if_pos (congrArg nI c), if_pos c, bI_some, show nI (cB (ned K b) 14) + 1 = nI (cB (ned K b) 14 + 1) from nI_1 _, if_neg (nI_ne0 (by omega) (by omega)), if_pos (inB_nI (by omega) (by omega)), bI_some]
    unfold fX1_dayOfPass
    rw [X0_firstHungryDay_ok HC W, bI_some]
    have := pass12_L HC W hP hcl (n := cB (ned K b) 14 + 1) (by omega) FU (min (K 0) (K 2 - K 1)) 0 0 (by omega) (by rw [FU_eq]; omega) (by omega) (by omega)
    rw [show fX1_dayOfPass_12 w k (nI (clr K (K (33 + 3 * b)))) (nI (cB (ned K b) 14 + 1)) FU (nI (min (K 0) (K 2 - K 1))) 0 0 = _ from this, bI_some, Nat.sub_zero, Nat.zero_max, Nat.add_comm 1]
    by_cases h : K 2 - K 1 ≤ K 0
    · rw [Nat.min_eq_right h]
    · rw [Nat.min_eq_left (by omega), gs_big (Nat.le_refl _), gs_big (by omega)]
  · rw [if_neg (show ¬ nI (sB K (K (33 + 3 * b)) &&& ned K b) = nI (ned K b) from fun z => c ((nI_eqv (and_lt31 (bS_lt31 _ (by omega))) (by omega)).mp z)), if_neg c, bI_some, if_pos rfl]
    rfl
end CHN
section LAT
variable {w : HW} {k : Nat} {K : Nat → Nat}
/-- the last day of S below n from r on, one more -/
def ltF (S r : Nat) : Nat → Nat
  | 0 => 0
  | n + 1 => if (decide (r ≤ n) && S.testBit n) = true then n + 1 else ltF S r n
theorem ltF_s (S r n : Nat) : ltF S r (n + 1) = if (decide (r ≤ n) && S.testBit n) = true then n + 1 else ltF S r n := rfl
theorem ltF_le (S r : Nat) : ∀ n, ltF S r n ≤ n := by
  intro n
  induction n with
  | zero => exact Nat.le_refl _
  | succ n ih => rw [ltF_s]; split <;> omega
theorem ltF_ge {S r : Nat} (hr : S.testBit r = true) : ∀ n, r < n → r + 1 ≤ ltF S r n := by
  intro n
  induction n with
  | zero => intro h; omega
  | succ n ih =>
    intro h
    rw [ltF_s]
    by_cases c : (decide (r ≤ n) && S.testBit n) = true
    · rw [if_pos c]; omega
    · rw [if_neg c]
      by_cases e : r = n
      · subst e; rw [hr] at c; simp at c
      · exact ih (by omega)
theorem latX_L (HC : CC w k K) (W : WF K) {S r : Nat} (hS : S < 2 ^ 31) : ∀ F i, r ≤ i → i ≤ K 0 → K 0 - i < F → fX1_latestDay_32 w k (nI S) F (aI (max (ltF S r i) (r + 1))) (nI i) = some (aI (max (ltF S r (K 0)) (r + 1))) := by
  have hb := W.b
  intro F
  induction F with
  | zero => intro i h1 h2 h3; omega
  | succ F ih =>
    intro i h1 h2 h3
    rw [fX1_latestDay_32, HC.c1]
    by_cases hi : i < K 0
    · have i1 := ih (i + 1) (by omega) (by omega) (by omega)
      rw [ltF_s, decide_eq_true h1, Bool.true_and] at i1
      rw [if_pos (nI_lt hi (by omega)), holds_ok w hS (by omega), bI_some, if_b01, nI_1]
      by_cases c : S.testBit i = true
      · rw [if_pos c, Nat.max_eq_left (by omega), aI_s] at i1
        rw [if_pos c]; exact i1
      · rw [if_neg c] at i1
        rw [if_neg c]; exact i1
    · have e : i = K 0 := by omega
      subst e
      rw [if_neg (nI_nlt (by omega) (by omega))]
theorem latM_L (HR : RC w K) (W : WF K) {S r : Nat} (hS : S < 2 ^ 31) (hr : r < 100) : ∀ F i, i ≤ K 0 → K 0 - i < F → fX10_latest_35 w (nI S) (nI r) F (aI (ltF S r i)) (nI i) = some (aI (ltF S r (K 0))) := by
  have hb := W.b
  intro F
  induction F with
  | zero => intro i h2 h3; omega
  | succ F ih =>
    intro i h2 h3
    rw [fX10_latest_35, if_pos (show inB 0 77 = true from rfl), ix_0, HR.r0, if_pos (nI_ne_m1 (by omega))]
    by_cases hi : i < K 0
    · have i1 := ih (i + 1) (by omega) (by omega)
      rw [ltF_s] at i1
      rw [if_pos (nI_lt hi (by omega)), bit_ok w hS (by omega), bI_some, if_b011, nI_1]
      by_cases h1 : r ≤ i
      · rw [decide_eq_true h1, Bool.true_and] at i1
        rw [if_pos (nI_nlt (by omega) (by omega))]
        by_cases c : S.testBit i = true
        · rw [if_pos c, aI_s] at i1
          rw [if_pos c]; exact i1
        · rw [if_neg c] at i1
          rw [if_neg c]; exact i1
      · rw [decide_eq_false h1, Bool.false_and, if_neg (by decide)] at i1
        rw [if_neg (fun z => z (nI_lt (by omega) (by omega)))]; exact i1
    · have e : i = K 0 := by omega
      subst e
      rw [if_neg (nI_nlt (by omega) (by omega))]
theorem told_2 (W : WF K) {b : Nat} (hbl : b < K 5) : 1 ≤ K 2 := by
  have h1 := W.2.1
  have h2 := W.2.2.1
  omega
end LAT
theorem ag_soonest {w : HW} (H : Rel w) (x : Int32) : Agree w (pu (fX9_soonest · x)) (pu (fX10_soonest · x)) := by
  obtain ⟨HO, K, W, HR, kn, ks, HN, HC⟩ := id H
  have hb := W.b
  have ex : fX9_soonest w x = if 0 ≤ x ∧ x < nI (K 5) then bI (fX1_soonestDay w kn x) fun r => some r else some (-2) := by
    unfold fX9_soonest
    simp only [now_ok HN, X0_hasBill_ok HC W, bI_some, if_b01', ite_dec]
  have em : fX10_soonest w x = if 0 ≤ x ∧ x < nI (K 5) then (bI (fX10_of w x 0) fun r_4 => bI (fX10_freeDays w r_4) fun r_6 => bI (fX10_soonestBy w x r_6) fun r => some r) else some (-2) := by
    unfold fX10_soonest
    rw [X10_isBill_ok HR W, bI_some, if_b01, ite_dec]
  by_cases c : 0 ≤ x ∧ x < nI (K 5)
  · obtain ⟨b, hbl, rfl⟩ := rng_of (by omega) c
    have hB := W.bil hbl
    rw [if_pos c, soonX_ok HC W (told_2 W hbl) hbl, bI_some] at ex
    rw [if_pos c, X10_of_0 HR W hbl, bI_some, X10_freeDays_ok HR W HO.2.2.1 (by omega), bI_some, soonM_ok HR W (told_2 W hbl) (lt31 W (clr_lt _)) hbl, bI_some] at em
    exact agree_ro H ex em
  · rw [if_neg c] at ex em
    exact agree_ro H ex em
theorem ag_latest {w : HW} (H : Rel w) (x : Int32) : Agree w (pu (fX9_latest · x)) (pu (fX10_latest · x)) := by
  obtain ⟨HO, K, W, HR, kn, ks, HN, HC⟩ := id H
  have hb := W.b
  have ex : fX9_latest w x = if 0 ≤ x ∧ x < nI (K 5) then bI (fX1_latestDay w kn x) fun r => some r else some (-2) := by
    unfold fX9_latest
    simp only [now_ok HN, X0_hasBill_ok HC W, bI_some, if_b01', ite_dec]
  have em : fX10_latest w x = if 0 ≤ x ∧ x < nI (K 5) then (bI (fX10_of w x 0) fun r_4 => bI (fX10_freeDays w r_4) fun r_6 => bI (fX10_soonestBy w x r_6) fun r_8 => fX10_latest_35 w r_6 r_8 FU (-1) 0) else some (-2) := by
    unfold fX10_latest
    rw [X10_isBill_ok HR W, bI_some, if_b01', ite_dec]
  by_cases c : 0 ≤ x ∧ x < nI (K 5)
  · obtain ⟨b, hbl, rfl⟩ := rng_of (by omega) c
    have hB := W.bil hbl
    have hcl := lt31 W (clr_lt (K := K) (K (33 + 3 * b)))
    unfold fX1_latestDay at ex
    rw [if_pos c, soonX_ok HC W (told_2 W hbl) hbl, bI_some] at ex
    rw [if_pos c, X10_of_0 HR W hbl, bI_some, X10_freeDays_ok HR W HO.2.2.1 (by omega), bI_some, soonM_ok HR W (told_2 W hbl) hcl hbl, bI_some] at em
    rcases Nat.eq_zero_or_pos (soo K b (clr K (K (33 + 3 * b)))) with h | h
    · rw [h, if_pos (show aI 0 = -1 from rfl), bI_some] at ex
      have em' : fX10_latest w (nI b) = some (-1) := by
        rw [em, h, FU_eq, fX10_latest_35, if_pos (show inB 0 77 = true from rfl), if_neg (show ¬ ¬ aI 0 = -1 from fun z => z rfl), ite_self]
      exact agree_ro H ex em'
    · obtain ⟨r, hr⟩ : ∃ r, soo K b (clr K (K (33 + 3 * b))) = r + 1 := ⟨soo K b (clr K (K (33 + 3 * b))) - 1, by omega⟩
      have hgs : r < K 0 ∧ (clr K (K (33 + 3 * b))).testBit r = true := by
        unfold soo at hr
        split at hr
        · have := gs_bit _ _ _ _ hr
          exact ⟨this.1, this.2.1⟩
        · cases hr
      have hge := ltF_ge hgs.2 (K 0) hgs.1
      have lx := latX_L HC W (r := r) hcl FU r (Nat.le_refl _) (by omega) (by rw [FU_eq]; omega)
      have z0 : ltF (clr K (K (33 + 3 * b))) r r = 0 := by
        have L : ∀ n, n ≤ r → ltF (clr K (K (33 + 3 * b))) r n = 0 := by
          intro n
          induction n with
          | zero => intro _; rfl
          | succ n ih => intro hn; rw [ltF_s, decide_eq_false (by omega), Bool.false_and, if_neg (by decide)]; exact ih (by omega)
        exact L r (Nat.le_refl _)
      rw [z0, Nat.zero_max, aI_s, Nat.max_eq_left hge] at lx
      rw [hr, aI_s, if_neg (nI_ne_m1 (by omega)), if_pos (inB_nI (by omega) (by omega)), ix_nI (by omega), (HC.bil hbl).1, X0_clearDays_ok HC W (by omega), bI_some, lx, bI_some] at ex
      rw [hr, aI_s] at em
      exact agree_ro H ex (em.trans (latM_L HR W hcl (by omega) FU 0 (by omega) (by rw [FU_eq]; omega)))
  · rw [if_neg c] at ex em
    exact agree_ro H ex em
