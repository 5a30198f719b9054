/-! TALLY, DOUBT, SHARE, LEANS -/
theorem in_01 (w : HW) (x : Int32) : fX10_in w x.toInt64 0 1 = some (b01 (decide (x = 0 ∨ x = 1))) := by
  rw [in_lit w x 1 1 1 rfl rfl (by omega), show decide (0 ≤ x ∧ x < nI (1 + 1)) = decide (x = 0 ∨ x = 1) from decide_eq_decide.mpr (le1 x)]
theorem bit_of {x : Int32} (h : x = 0 ∨ x = 1) : ∃ a : Nat, a ≤ 1 ∧ x = nI a := by
  rcases h with rfl | rfl
  · exact ⟨0, by omega, rfl⟩
  · exact ⟨1, by omega, rfl⟩
section TAL
variable {w : HW} {c : Nat → Nat}
theorem howMany_ok (h : ∀ j, j < 4 → gI w 23 j = nI (c j)) {a b : Nat} (ha : a ≤ 1) (hb : b ≤ 1) : fX7_howMany w (nI a) (nI b) = some (nI (c (2 * a + b))) := by
  have e : ∀ a : Nat, a ≤ 1 → (nI a = 0 ∨ nI a = 1) := fun a ha => by
    rcases (show a = 0 ∨ a = 1 by omega) with rfl | rfl
    · exact Or.inl rfl
    · exact Or.inr rfl
  unfold fX7_howMany
  rw [X9_isChoice_ok, X9_isChoice_ok, bI_some, bI_some, if_b01, if_b01, if_pos (decide_eq_true (e a ha)), if_pos (decide_eq_true (e b hb)), show nI a * 2 + nI b = nI (2 * a + b) by rw [show (2 : Int32) = nI 2 from rfl, pk_mul, nI_add, Nat.mul_comm], if_pos (inB_nI (by omega) (by omega)), ix_nI (by omega), h _ (by omega)]
theorem withSign_ok (h : ∀ j, j < 4 → gI w 23 j = nI (c j)) {a : Nat} (ha : a ≤ 1) : fX7_withSign w (nI a) = some (nI (c (2 * a) + c (2 * a + 1))) := by
  unfold fX7_withSign
  rw [show (0 : Int32) = nI 0 from rfl, howMany_ok h ha (by omega), bI_some, show fX7_howMany w (nI a) 1 = _ from howMany_ok h ha (b := 1) (by omega), bI_some, nI_add]
  rfl
theorem wins_ok (h : ∀ j, j < 4 → gI w 23 j = nI (c j)) : fX7_wins w = some (nI (c 1 + c 3)) := by
  unfold fX7_wins
  rw [show fX7_howMany w 0 1 = some (nI (c 1)) from howMany_ok h (a := 0) (b := 1) (by omega) (by omega), bI_some, show fX7_howMany w 1 1 = some (nI (c 3)) from howMany_ok h (a := 1) (b := 1) (by omega) (by omega), bI_some, nI_add]
end TAL
theorem r_neg {r : Int32} (h : r = 0 ∨ r = -2 ∨ r = -6) : r < 0 ↔ r ≠ 0 := by
  rcases h with rfl | rfl | rfl <;> decide
theorem ag_tally {w : HW} (H : Rel w) (x y z : Int32) : Agree w (fX9_tally · x y z) (fX10_tally · x y z) := by
  have hn : ¬ ((y = 0 ∨ y = 1) ∧ (z = 0 ∨ z = 1)) → fX9_tally w x y z = some (-2, w) ∧ fX10_tally w x y z = some (-2, w) := by
    intro h
    unfold fX9_tally fX10_tally fX10_tally_27
    rw [X9_isChoice_ok, X9_isChoice_ok, in_01, in_01, lay0]
    simp only [bI_some, bW_some, if_b01, if_b01', if_pos (show (-2 : Int32) < 0 by decide)]
    by_cases h1 : y = 0 ∨ y = 1
    · rw [if_pos (decide_eq_true h1), if_pos (decide_eq_true h1), if_neg (fun q => h ⟨h1, of_decide_eq_true q⟩), if_neg (fun q => h ⟨h1, of_decide_eq_true q⟩)]
      exact ⟨rfl, rfl⟩
    · rw [if_neg (fun q => h1 (of_decide_eq_true q)), if_neg (fun q => h1 (of_decide_eq_true q))]
      exact ⟨rfl, rfl⟩
  by_cases h : (y = 0 ∨ y = 1) ∧ (z = 0 ∨ z = 1)
  · obtain ⟨r, c, hr, hc, ⟨w1, a1, a2, a3⟩, b⟩ := list_ok H x
    obtain ⟨w2, b1, b2, b3⟩ := b w1 a2
    have ex : fX9_tally w x y z = if r < 0 then some (r, w1) else bI (fX7_howMany w1 y z) fun r_10 => some (r_10, w1) := by
      unfold fX9_tally
      rw [X9_isChoice_ok, X9_isChoice_ok, a1, bI_some, bI_some, bW_some, if_b01, if_b01', if_pos (decide_eq_true h.1), if_pos (decide_eq_true h.2)]
    have em : fX10_tally w1 x y z = if r < 0 then some (r, w2) else (if inB (2 * y + z) 4 = true then some (gI w2 97 (ix (2 * y + z)), w2) else none) := by
      unfold fX10_tally fX10_tally_27
      rw [in_01, in_01, bI_some, bI_some, if_b01, if_b01, if_pos (decide_eq_true h.1), if_pos (decide_eq_true h.2), b1, bW_some]
    by_cases h0 : r = 0
    · rw [if_neg (fun q => (r_neg hr).mp q h0)] at ex em
      obtain ⟨p, hp, rfl⟩ := bit_of h.1
      obtain ⟨q, hq, rfl⟩ := bit_of h.2
      rw [howMany_ok (a3 h0) hp hq, bI_some] at ex
      rw [show (2 : Int32) * nI p + nI q = nI (2 * p + q) by rw [show (2 : Int32) = nI 2 from rfl, pk_mul, nI_add], if_pos (inB_nI (by omega) (by omega)), ix_nI (by omega), b3 h0 _ (by omega)] at em
      exact ⟨_, _, _, ex, em, (H.sx a2).sx b2⟩
    · rw [if_pos ((r_neg hr).mpr h0)] at ex em
      exact ⟨_, _, _, ex, em, (H.sx a2).sx b2⟩
  · exact ⟨_, _, _, (hn h).1, (hn h).2, H⟩
theorem ag_share {w : HW} (H : Rel w) (x y z : Int32) : Agree w (fX9_share · x y z) (fX10_share · x y z) := by
  have hn : ¬ ((y = 0 ∨ y = 1) ∧ (z = 0 ∨ z = 1)) → fX9_share w x y z = some (-2, w) ∧ fX10_share w x y z = some (-2, w) := by
    intro h
    unfold fX9_share fX10_share fX10_share_27
    rw [X9_isChoice_ok, X9_isChoice_ok, in_01, in_01, lay0]
    simp only [bI_some, bW_some, if_b01, if_b01', if_pos (show (-2 : Int32) < 0 by decide)]
    by_cases h1 : y = 0 ∨ y = 1
    · rw [if_pos (decide_eq_true h1), if_pos (decide_eq_true h1), if_neg (fun q => h ⟨h1, of_decide_eq_true q⟩), if_neg (fun q => h ⟨h1, of_decide_eq_true q⟩)]
      exact ⟨rfl, rfl⟩
    · rw [if_neg (fun q => h1 (of_decide_eq_true q)), if_neg (fun q => h1 (of_decide_eq_true q))]
      exact ⟨rfl, rfl⟩
  by_cases h : (y = 0 ∨ y = 1) ∧ (z = 0 ∨ z = 1)
  · obtain ⟨r, c, hr, hc, ⟨w1, a1, a2, a3⟩, b⟩ := list_ok H x
    obtain ⟨w2, b1, b2, b3⟩ := b w1 a2
    obtain ⟨p, hp, rfl⟩ := bit_of h.1
    have ex : fX9_share w x (nI p) z = if r < 0 then some (r, w1) else bI (fX7_withSign w1 (nI p)) fun r_10 => if r_10 = 0 then some (-1, w1) else bI (fX7_howMany w1 (nI p) 1) fun r_13 => bI (fX9_partOfFraction w1 r_13.toInt64 r_10.toInt64 z) fun r_15 => some (r_15.toInt32, w1) := by
      unfold fX9_share
      rw [X9_isChoice_ok, X9_isChoice_ok, a1, bI_some, bI_some, bW_some, if_b01, if_b01', if_pos (decide_eq_true h.1), if_pos (decide_eq_true h.2)]
    have em : fX10_share w1 x (nI p) z = if r < 0 then some (r, w2) else (if inB (2 * nI p) 4 = true then (if inB (2 * nI p + 1) 4 = true then (lT (gI w2 97 (ix (2 * nI p)) + gI w2 97 (ix (2 * nI p + 1))) fun x5_12 => if x5_12 = 0 then some (-1, w2) else (if inB (2 * nI p + 1) 4 = true then bI (fX10_part w2 (gI w2 97 (ix (2 * nI p + 1))).toInt64 x5_12.toInt64 z) fun r_15 => some (r_15.toInt32, w2) else none)) else none) else none) := by
      unfold fX10_share fX10_share_27
      rw [in_01, in_01, bI_some, bI_some, if_b01, if_b01, if_pos (decide_eq_true h.1), if_pos (decide_eq_true h.2), b1, bW_some]
    by_cases h0 : r = 0
    · rw [if_neg (fun q => (r_neg hr).mp q h0)] at ex em
      have k0 : c (2 * p) + c (2 * p + 1) ≤ 30 := by
        rcases (show p = 0 ∨ p = 1 by omega) with rfl | rfl
        · show c 0 + c 1 ≤ 30; omega
        · show c 2 + c 3 ≤ 30; omega
      rw [withSign_ok (a3 h0) hp, bI_some, show fX7_howMany w1 (nI p) 1 = some (nI (c (2 * p + 1))) from howMany_ok (a3 h0) hp (b := 1) (by omega), bI_some] at ex
      rw [show (2 : Int32) * nI p = nI (2 * p) from pk_mul 2 p, nI_1, if_pos (inB_nI (by omega) (by omega)), if_pos (inB_nI (by omega) (by omega)), ix_nI (by omega), ix_nI (by omega), b3 h0 _ (by omega), b3 h0 _ (by omega), nI_add, lT_eq] at em
      by_cases hz : c (2 * p) + c (2 * p + 1) = 0
      · rw [hz, if_pos (show nI 0 = 0 from rfl)] at ex em
        exact ⟨_, _, _, ex, em, (H.sx a2).sx b2⟩
      · rw [if_neg (nI_ne0 (by omega) (by omega))] at ex
        rw [if_neg (nI_ne0 (by omega) (by omega)), if_pos (inB_nI (by omega) (by omega))] at em
        obtain ⟨g, g1, g2⟩ := part_ok w1 w2 (nI (c (2 * p + 1))).toInt64 (nI (c (2 * p) + c (2 * p + 1))).toInt64 (fun q => by
          rw [wide_nI (by omega)] at q
          have := congrArg Int64.toInt q
          rw [lN_toI (by omega)] at this
          have e0 : (0 : Int64).toInt = 0 := rfl
          omega) z
        rw [g1, bI_some] at ex
        rw [g2, bI_some] at em
        exact ⟨_, _, _, ex, em, (H.sx a2).sx b2⟩
    · rw [if_pos ((r_neg hr).mpr h0)] at ex em
      exact ⟨_, _, _, ex, em, (H.sx a2).sx b2⟩
  · exact ⟨_, _, _, (hn h).1, (hn h).2, H⟩
theorem ag_leans {w : HW} (H : Rel w) (x : Int32) : Agree w (fX9_leans · x) (fX10_leans · x) := by
  obtain ⟨r, c, hr, hc, ⟨w1, a1, a2, a3⟩, b⟩ := list_ok H x
  obtain ⟨w2, b1, b2, b3⟩ := b w1 a2
  by_cases h0 : r = 0
  · subst h0
    have ex : fX9_leans w x = bI (fJ6_compare_7cf53 w1 (nI (c 3 * (c 0 + c 1))) (nI (c 1 * (c 2 + c 3)))) fun r => some (r, w1) := by
      unfold fX9_leans
      rw [a1, bW_some, if_neg (by decide), show fX7_howMany w1 1 1 = some (nI (c 3)) from howMany_ok (a3 rfl) (a := 1) (b := 1) (by omega) (by omega), bI_some, show fX7_withSign w1 0 = some (nI (c 0 + c 1)) from withSign_ok (a3 rfl) (a := 0) (by omega), bI_some, lT_eq, show fX7_howMany w1 0 1 = some (nI (c 1)) from howMany_ok (a3 rfl) (a := 0) (b := 1) (by omega) (by omega), bI_some, show fX7_withSign w1 1 = some (nI (c 2 + c 3)) from withSign_ok (a3 rfl) (a := 1) (by omega), bI_some, lT_eq, pk_mul, pk_mul]
    have em : fX10_leans w1 x = if ¬ nI (c 2 + c 3) = 0 then (if nI (c 0 + c 1) = 0 then some (0, w2) else bI (fJ6_compare_7cf53 w2 (nI (c 3 * (c 0 + c 1))) (nI (c 1 * (c 2 + c 3)))) fun r => some (r, w2)) else some (0, w2) := by
      unfold fX10_leans
      rw [b1, bW_some, if_neg (by decide)]
      simp only [if_pos (show inB 0 4 = true from rfl), if_pos (show inB 1 4 = true from rfl), if_pos (show inB 2 4 = true from rfl), if_pos (show inB 3 4 = true from rfl), ix_0, ix_1, ix_2, ix_3, lT_eq, b3 rfl 0 (by omega), b3 rfl 1 (by omega), b3 rfl 2 (by omega), b3 rfl 3 (by omega), nI_add, pk_mul]
    have cmp0 : ∀ w : HW, fJ6_compare_7cf53 w (nI 0) (nI 0) = some 0 := fun w => rfl
    have cmpS : ∀ (w w' : HW) a b, fJ6_compare_7cf53 w a b = fJ6_compare_7cf53 w' a b := fun w w' a b => rfl
    obtain ⟨q, hq⟩ : ∃ q, fJ6_compare_7cf53 w1 (nI (c 3 * (c 0 + c 1))) (nI (c 1 * (c 2 + c 3))) = some q := by
      unfold fJ6_compare_7cf53
      split
      · exact ⟨_, rfl⟩
      · split <;> exact ⟨_, rfl⟩
    rw [hq, bI_some] at ex
    rw [cmpS w2 w1, hq, bI_some] at em
    by_cases z1 : c 2 + c 3 = 0
    · rw [show c 3 = 0 by omega, show c 2 = 0 by omega, Nat.zero_mul, Nat.add_zero, Nat.mul_zero] at hq
      rw [cmp0] at hq
      cases hq
      rw [z1, if_neg (fun z => z rfl)] at em
      exact ⟨_, _, _, ex, em, (H.sx a2).sx b2⟩
    · rw [if_pos (nI_ne0 (by omega) (by omega))] at em
      by_cases z2 : c 0 + c 1 = 0
      · rw [show c 1 = 0 by omega, show c 0 = 0 by omega, Nat.zero_mul, Nat.add_zero, Nat.mul_zero] at hq
        rw [cmp0] at hq
        cases hq
        rw [z2, if_pos (show nI 0 = 0 from rfl)] at em
        exact ⟨_, _, _, ex, em, (H.sx a2).sx b2⟩
      · rw [if_neg (nI_ne0 (by omega) (by omega))] at em
        exact ⟨_, _, _, ex, em, (H.sx a2).sx b2⟩
  · have hl := (r_neg hr).mpr h0
    refine ⟨r, w1, w2, ?_, ?_, (H.sx a2).sx b2⟩
    · show fX9_leans w x = _
      unfold fX9_leans
      rw [a1, bW_some, if_pos hl]
    · show fX10_leans w1 x = _
      unfold fX10_leans
      rw [b1, bW_some, if_pos hl]
theorem doubt_L (w w' : HW) {c : Nat → Nat} (h : ∀ j, j < 4 → gI w 23 j = nI (c j)) (hc : c 0 + c 1 + c 2 + c 3 ≤ 30) (y : Int32) : ∀ F i acc, i ≤ c 2 + c 3 + 1 → c 2 + c 3 + 1 - i < F → ∃ g, fX7_waysAsGood_9 w F acc (nI i) = some g ∧ fX10_doubt_76 y (nI (c 2 + c 3)) (nI (c 0 + c 1)) (nI (c 1 + c 3)) F w' acc (nI i) = fX10_doubt_112 w' y (nI (c 2 + c 3)) (nI (c 0 + c 1)) (nI (c 1 + c 3)) g := by
  intro F
  induction F with
  | zero => intro i acc h1 h2; omega
  | succ F ih =>
    intro i acc h1 h2
    have s1 : fX7_withSign w 1 = some (nI (c 2 + c 3)) := withSign_ok h (a := 1) (by omega)
    have s0 : fX7_withSign w 0 = some (nI (c 0 + c 1)) := withSign_ok h (a := 0) (by omega)
    rw [fX7_waysAsGood_9, fX10_doubt_76]
    simp only [s1, s0, wins_ok h, bI_some]
    by_cases hi : i ≤ c 2 + c 3
    · obtain ⟨g1, p1, p2, _⟩ := choose_ok w w' (n := c 2 + c 3) (by omega) (nI i)
      obtain ⟨g2, q1, q2, _⟩ := choose_ok w w' (n := c 0 + c 1) (by omega) (nI (c 1 + c 3) - nI i)
      rw [if_pos (nI_nlt (by omega) (by omega)), if_pos (nI_nlt (by omega) (by omega)), p1, p2, bI_some, bI_some, q1, q2, bI_some, bI_some, lT_eq, lT_eq, nI_1]
      exact ih (i + 1) _ (by omega) (by omega)
    · rw [if_neg (fun z => z (nI_lt (by omega) (by omega))), if_neg (fun z => z (nI_lt (by omega) (by omega)))]
      exact ⟨_, rfl, rfl⟩
theorem ag_doubt {w : HW} (H : Rel w) (x y : Int32) : Agree w (fX9_doubt · x y) (fX10_doubt · x y) := by
  by_cases h : y = 0 ∨ y = 1
  · obtain ⟨r, c, hr, hc, ⟨w1, a1, a2, a3⟩, b⟩ := list_ok H x
    obtain ⟨w2, b1, b2, b3⟩ := b w1 a2
    by_cases h0 : r = 0
    · subst h0
      obtain ⟨g, d1, d2⟩ := doubt_L w1 w2 (a3 rfl) hc y FU (c 3) 0 (by omega) (by rw [FU_eq]; omega)
      obtain ⟨e, e1, e2, e3⟩ := choose_ok w1 w2 (n := c 0 + c 1 + (c 2 + c 3)) (by omega) (nI (c 1 + c 3))
      obtain ⟨q, q1, q2⟩ := part_ok w1 w2 g e (e3 _ rfl (by omega)) y
      refine ⟨q, w1, w2, ?_, ?_, (H.sx a2).sx b2⟩
      · show fX9_doubt w x y = _
        unfold fX9_doubt fX7_waysAsGood fX7_allWays
        rw [X9_isChoice_ok, bI_some, if_b01', if_pos (decide_eq_true h), a1, bW_some, if_neg (by decide), show fX7_howMany w1 1 1 = some (nI (c 3)) from howMany_ok (a3 rfl) (a := 1) (b := 1) (by omega) (by omega), bI_some, d1, bI_some, show fX7_withSign w1 0 = some (nI (c 0 + c 1)) from withSign_ok (a3 rfl) (a := 0) (by omega), bI_some, show fX7_withSign w1 1 = some (nI (c 2 + c 3)) from withSign_ok (a3 rfl) (a := 1) (by omega), bI_some, wins_ok (a3 rfl), bI_some, nI_add, e1, bI_some, bI_some, q1, bI_some]
      · show fX10_doubt w1 x y = _
        unfold fX10_doubt
        rw [in_01, bI_some, decide_eq_true h, show b01 true = 1 from rfl, b1, bW_some, if_neg (by decide)]
        simp only [if_pos (show inB 0 4 = true from rfl), if_pos (show inB 1 4 = true from rfl), if_pos (show inB 2 4 = true from rfl), if_pos (show inB 3 4 = true from rfl), ix_0, ix_1, ix_2, ix_3, lT_eq, b3 rfl 0 (by omega), b3 rfl 1 (by omega), b3 rfl 2 (by omega), b3 rfl 3 (by omega), nI_add]
        rw [d2]
        unfold fX10_doubt_112
        rw [nI_add, Nat.add_comm (c 2 + c 3), e2, bI_some, q2, bI_some]
    · have hl := (r_neg hr).mpr h0
      refine ⟨r.toInt64, w1, w2, ?_, ?_, (H.sx a2).sx b2⟩
      · show fX9_doubt w x y = _
        unfold fX9_doubt
        rw [X9_isChoice_ok, bI_some, if_b01', if_pos (decide_eq_true h), a1, bW_some, if_pos hl]
      · show fX10_doubt w1 x y = _
        unfold fX10_doubt
        rw [in_01, bI_some, decide_eq_true h, show b01 true = 1 from rfl, b1, bW_some, if_pos hl]
  · refine ⟨-2, w, w, ?_, ?_, H⟩
    · show fX9_doubt w x y = _
      unfold fX9_doubt
      rw [X9_isChoice_ok, bI_some, if_b01', if_neg (fun z => h (of_decide_eq_true z))]
    · show fX10_doubt w x y = _
      unfold fX10_doubt
      rw [in_01, bI_some, decide_eq_false h, show b01 false = 0 from rfl, lay0, bW_some, if_pos (by decide)]
      rfl
