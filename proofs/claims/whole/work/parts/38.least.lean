/-! STOP, STOPS, the calls -/
section LEA
variable {w : HW} {k : Nat} {K : Nat → Nat}
theorem or_day {x : Nat} (hx : x < 14) : 16384 ||| 2 ^ x = 16384 + 2 ^ x := by
  have h : 2 ^ x < 2 ^ 14 := Nat.pow_lt_pow_right (by omega) hx
  have := Nat.two_pow_add_eq_or_of_lt h 1
  rw [Nat.mul_one] at this
  exact this.symm
theorem dm_b (S P : Nat) {N : Nat} (hN : N ≤ 14) (n : Nat) {j : Nat} (hj : j ≤ N) : dm S N P n j ≤ 16777216 := by
  cases n with
  | zero => exact Nat.le_refl _
  | succ n =>
    have := dmr_le S N P hN (dm S N P n) j hj
    show dmr S N P (dm S N P n) j ≤ _
    have h2 : j * 32768 ≤ 14 * 32768 := Nat.mul_le_mul (by omega) (Nat.le_refl _)
    omega
theorem least87_L (W : WF K) {S n L : Nat} (hS : S < 2 ^ 31) (hn : n + 1 ≤ 8) (hk : k ≠ 18) (Q : HW → Int32 → Option (Int32 × HW)) (x3 : Int32) : ∀ F j (w : HW), j ≤ K 0 → K 0 - j < F → CC w k K → (∀ y, y ≤ K 0 → gI w 18 (15 * n + y) = nI (dm S (K 0) (K 2) n (K 0 - y))) → (∀ y, K 0 - j ≤ y → y ≤ K 0 → gI w 18 (15 * (n + 1) + y) = nI (dm S (K 0) (K 2) (n + 1) (K 0 - y))) → ∃ w', fX1_leastCost_87 Q k x3 (nI S) (nI (n + 1)) (nI (15 * (n + 1))) F w (aI (K 0 - j)) = Q w' (nI (n + 2)) ∧ (∀ y, y ≤ K 0 → gI w' 18 (15 * (n + 1) + y) = nI (dm S (K 0) (K 2) (n + 1) (K 0 - y))) ∧ (∀ a f, a ≠ 18 → gI w' a f = gI w a f) := by
  have hb := W.b
  intro F
  induction F with
  | zero => intro j w a b; omega
  | succ F ih =>
    intro j w a b HC h1 h2
    rw [fX1_leastCost_87]
    by_cases hj : j < K 0
    · obtain ⟨x, hx⟩ : ∃ x, K 0 - j = x + 1 := ⟨K 0 - j - 1, by omega⟩
      have ej : K 0 - x = j + 1 := by omega
      have ej2 : K 0 - (j + 1) = x := by omega
      have hv := dm_b S (K 2) hb.1 (n + 1) (j := j) (by omega)
      have hpx : 2 ^ x < 2 ^ 14 := Nat.pow_lt_pow_right (by omega) (by omega)
      have e0 : gI w 18 (15 * (n + 1) + (x + 1)) = nI (dm S (K 0) (K 2) (n + 1) j) := by
        rw [h2 (x + 1) (by omega) (by omega), show K 0 - (x + 1) = j by omega]
      have key : dm S (K 0) (K 2) (n + 1) (j + 1) = if S.testBit x = true then min (dm S (K 0) (K 2) n (K 0 - min (K 0) (x + K 2))) (dm S (K 0) (K 2) (n + 1) j + (16384 + 2 ^ x)) else dm S (K 0) (K 2) (n + 1) j := by
        show dmr _ _ _ _ (j + 1) = _
        rw [dmr_s, ej2]; rfl
      have go : ∀ v, v = dm S (K 0) (K 2) (n + 1) (j + 1) → ∃ w', fX1_leastCost_161 w Q (fun w x7 => fX1_leastCost_87 Q k x3 (nI S) (nI (n + 1)) (nI (15 * (n + 1))) F w x7) k x3 (nI S) (nI (n + 1)) (nI (15 * (n + 1))) (nI x) (nI v) = Q w' (nI (n + 2)) ∧ (∀ y, y ≤ K 0 → gI w' 18 (15 * (n + 1) + y) = nI (dm S (K 0) (K 2) (n + 1) (K 0 - y))) ∧ (∀ a f, a ≠ 18 → gI w' a f = gI w a f) := by
        rintro v rfl
        unfold fX1_leastCost_161
        rw [nI_add, if_pos (inB_nI (by omega) (by omega)), ix_nI (by omega), lT_eq, pk_back (by omega)]
        obtain ⟨w', p, q, r⟩ := ih (j + 1) (uI w 18 (15 * (n + 1) + x) (nI (dm S (K 0) (K 2) (n + 1) (j + 1)))) (by omega) (by omega) (HC.of (fun c a b f => gI_uI_ne (by have := isC_cases HC.1; omega))) (fun y hy => by rw [gI_uI_nf (by omega)]; exact h1 y hy) (fun y hy1 hy2 => by
          rw [gI_uI]
          by_cases e : y = x
          · subst e; rw [if_pos ⟨rfl, rfl⟩, ej]
          · rw [if_neg (by omega)]; exact h2 y (by omega) hy2)
        rw [ej2] at p
        exact ⟨w', p, q, fun a f ha => by rw [r a f ha, gI_uI_ne ha]⟩
      rw [hx, aI_s, if_pos (nI_pos (by omega)), nI_add, nI_1, if_pos (inB_nI (by omega) (by omega)), ix_nI (by omega), show 15 * (n + 1) + x + 1 = 15 * (n + 1) + (x + 1) by omega, e0, lT_eq, holds_ok w hS (by omega), bI_some, if_b01, HC.c1, HC.c3, nI_add, iMn_nI (by omega) (by omega), show nI (15 * (n + 1)) - 15 = nI (15 * n) from by rw [show (15 : Int32) = nI 15 from rfl, nI_subI (by omega)]; exact congrArg nI (by omega), nI_add, if_pos (inB_nI (by omega) (by omega)), ix_nI (by omega), h1 _ (by omega), iSl_1 (by omega), show (16384 : Int32) ||| nI (2 ^ x) = nI (16384 + 2 ^ x) from by rw [show (16384 : Int32) = nI 16384 from rfl, nI_or, or_day (by omega)], nI_add, lT_eq, lT_eq]
      have hv2 := dm_b S (K 2) hb.1 n (j := K 0 - min (K 0) (x + K 2)) (by omega)
      rw [iMn_nI (by omega) (by omega)]
      by_cases c : S.testBit x = true
      · rw [if_pos c] at key
        rw [if_pos c]
        exact go _ key.symm
      · rw [if_neg c] at key
        rw [if_neg c]
        exact go _ key.symm
    · have e : j = K 0 := by omega
      subst e
      rw [Nat.sub_self, aI_0, if_neg (fun z => z (by decide)), nI_1]
      exact ⟨w, rfl, fun y hy => h2 y (by omega) hy, fun _ _ _ => rfl⟩
theorem least53_L (W : WF K) {S L : Nat} (hS : S < 2 ^ 31) (hL : L ≤ 8) (hL1 : 1 ≤ L) (hk : k ≠ 18) : ∀ F n (w : HW), n ≤ L → L - n < F → CC w k K → (∀ y, y ≤ K 0 → gI w 18 (15 * n + y) = nI (dm S (K 0) (K 2) n (K 0 - y))) → ∃ w', fX1_leastCost_53 k (nI L) (nI S) F w (nI (n + 1)) = some (nI (dm S (K 0) (K 2) L (K 0 - min (K 0) (K 2 - K 1))), w') := by
  have hb := W.b
  intro F
  induction F with
  | zero => intro n w a b; omega
  | succ F ih =>
    intro n w a b HC h1
    rw [fX1_leastCost_53]
    by_cases hn : n < L
    · rw [if_pos (nI_nlt (by omega) (by omega)), show nI (n + 1) * 15 = nI (15 * (n + 1)) from by rw [show (15 : Int32) = nI 15 from rfl, pk_mul, Nat.mul_comm], lT_eq, HC.c1, nI_add, if_pos (inB_nI (by omega) (by omega)), ix_nI (by omega), lT_eq, gI_uI_ne hk, HC.c1, aI_pred (by omega), lT_eq]
      obtain ⟨w1, p, q, r⟩ := least87_L (L := L) W hS (n := n) (by omega) hk (fun w x5 => fX1_leastCost_53 k (nI L) (nI S) F w x5) (nI L) FU 0 (uI w 18 (15 * (n + 1) + K 0) 0) (by omega) (by rw [FU_eq]; omega) (HC.of (fun c a b f => gI_uI_ne (by have := isC_cases HC.1; omega))) (fun y hy => by rw [gI_uI_nf (by omega)]; exact h1 y hy) (fun y hy1 hy2 => by
        have e : y = K 0 := by omega
        subst e
        rw [gI_uI_at, Nat.sub_self]; rfl)
      rw [Nat.sub_zero] at p
      rw [p]
      exact ih (n + 1) w1 (by omega) (by omega) (HC.of (fun c a b f => by rw [r c f (by have := isC_cases HC.1; omega), gI_uI_ne (by have := isC_cases HC.1; omega)])) q
    · have e : n = L := by omega
      subst e
      rw [if_neg (fun z => z (nI_lt (by omega) (by omega)))]
      unfold fX1_leastCost_185
      rw [X0_firstHungryDay_ok HC W, bI_some, show nI n * 15 = nI (15 * n) from by rw [show (15 : Int32) = nI 15 from rfl, pk_mul, Nat.mul_comm], nI_add, if_pos (inB_nI (by omega) (by omega)), ix_nI (by omega), h1 _ (by omega)]
      exact ⟨w, rfl⟩
theorem least28_L (W : WF K) {S L : Nat} (hS : S < 2 ^ 31) (hL : L ≤ 8) (hL1 : 1 ≤ L) (hk : k ≠ 18) : ∀ F i (w : HW), i ≤ 15 → 15 - i < F → CC w k K → (∀ y, y < i → gI w 18 y = 16777216) → ∃ w', fX1_leastCost_28 k (nI L) (nI S) F w (nI i) = some (nI (dm S (K 0) (K 2) L (K 0 - min (K 0) (K 2 - K 1))), w') := by
  have hb := W.b
  intro F
  induction F with
  | zero => intro n w a b; omega
  | succ F ih =>
    intro i w a b HC h1
    rw [fX1_leastCost_28]
    by_cases hi : i < 15
    · rw [if_pos (show nI i < 15 from nI_lt (b := 15) hi (by omega)), if_pos (inB_nI (by omega) (by omega)), ix_nI (by omega), lT_eq, nI_1]
      exact ih (i + 1) _ (by omega) (by omega) (HC.of (fun c a b f => gI_uI_ne (by have := isC_cases HC.1; omega))) (fun y hy => by
        by_cases e : y = i
        · subst e; exact gI_uI_at
        · rw [gI_uI_nf e]; exact h1 y (by omega))
    · rw [if_neg (show ¬ nI i < 15 from nI_nlt (b := 15) (by omega) (by omega))]
      refine least53_L W hS hL hL1 hk FU 0 w (by omega) (by rw [FU_eq]; omega) HC (fun y hy => ?_)
      rw [Nat.mul_zero, Nat.zero_add, h1 y (by omega)]; rfl
theorem cB_small {s : Nat} : ∀ m b, s < 2 ^ b → cB s m ≤ b := by
  intro m
  induction m with
  | zero => intro b _; exact Nat.zero_le _
  | succ m ih =>
    intro b h
    show cB s m + tB s m ≤ b
    by_cases c : m < b
    · have := cB_le s m
      have := tB_le s m
      omega
    · have : tB s m = 0 := tB_eq0.mpr (Nat.testBit_lt_two_pow (Nat.lt_of_lt_of_le h (Nat.pow_le_pow_right (by omega) (by omega))))
      have := ih b h
      omega
/-- what stopping b costs -/
def lcF (K : Nat → Nat) (b : Nat) : Nat := if sB K (K (33 + 3 * b)) &&& ned K b = ned K b then dm (clr K (K (33 + 3 * b))) (K 0) (K 2) (1 + cB (ned K b) 14) (K 0 - min (K 0) (K 2 - K 1)) else 0
theorem leastX_ok (HC : CC w k K) (W : WF K) (hk : k ≠ 18) {b : Nat} (hbl : b < K 5) : ∃ w', fX1_leastCost w k (nI b) = some (nI (lcF K b), w') := by
  have hb := W.b
  have hB := W.bil hbl
  have hnl := ned_lt W hbl
  have hc := cB_small 14 b hnl
  have hn14 : ned K b < 2 ^ 14 := Nat.lt_of_lt_of_le hnl (Nat.pow_le_pow_right (by omega) (by omega))
  unfold fX1_leastCost fX1_lengthOf lcF
  rw [X0_needsOf_ok HC W hbl, bI_some, if_pos (inB_nI (by omega) (by omega)), ix_nI (by omega), (HC.bil hbl).1, X0_billsOf_ok HC W (by omega), bI_some, nI_and, bc_ok w hn14, bI_some, X0_clearDays_ok HC W (by omega), Nat.and_comm]
  by_cases c : sB K (K (33 + 3 * b)) &&& ned K b = ned K b
  · rw [if_pos (congrArg nI c), if_pos c, bI_some, show nI (cB (ned K b) 14) + 1 = nI (cB (ned K b) 14 + 1) from nI_1 _, if_neg (nI_ne0 (by omega) (by omega)), if_pos (inB_nI (by omega) (by omega)), bI_some, Nat.add_comm 1]
    exact least28_L W (lt31 W (clr_lt _)) (by omega) (by omega) hk FU 0 w (by omega) (by rw [FU_eq]; omega) HC (fun y hy => by omega)
  · rw [if_neg (show ¬ nI (sB K (K (33 + 3 * b)) &&& ned K b) = nI (ned K b) from fun z => c ((nI_eqv (and_lt31 (bS_lt31 _ (by omega))) (by omega)).mp z)), if_neg c, bI_some, if_pos rfl]
    exact ⟨w, rfl⟩
end LEA
