/-! STOP, STOPS -/
section STO
variable {w : HW} {K : Nat → Nat}
def fls (K : Nat → Nat) (b S T : Nat) : Prop := soo K b (nd S T) = 0
/-- the best set found below i, one more; 0 for none -/
def bsI (K : Nat → Nat) (b S i c : Nat) : Prop := (c = 0 ∧ ∀ T, T < i → ¬ fls K b S T) ∨ (∃ t, c = t + 1 ∧ t < i ∧ fls K b S t ∧ ∀ T, T < i → fls K b S T → cB t 14 < cB T 14 ∨ (cB t 14 = cB T 14 ∧ t ≤ T))
theorem stop16_L (HR : RC w K) (W : WF K) {S b : Nat} (hS : S < 2 ^ K 0) (hbl : b < K 5) : ∀ F i c, i ≤ 2 ^ K 0 → 2 ^ K 0 - i < F → bsI K b S i c → ∃ c', fX10_stopOf_16 w (nI b) (nI S) F (aI c) (nI i) = some (aI c') ∧ bsI K b S (2 ^ K 0) c' := by
  have hb := W.b
  have hp : 2 ^ K 0 ≤ 2 ^ 14 := Nat.pow_le_pow_right (by omega) hb.1
  intro F
  induction F with
  | zero => intro i c h1 h2; omega
  | succ F ih =>
    intro i c h1 h2 h3
    rw [fX10_stopOf_16, if_pos (show inB 0 77 = true from rfl), ix_0, HR.r0, iSl_1 (by omega)]
    by_cases hi : i < 2 ^ K 0
    · have hS2 : nd S i < 2 ^ 31 := lt31 W (nd_lt hS)
      have ht : (c = 0 ∨ ∃ t, c = t + 1 ∧ cB i 14 < cB t 14) → ∃ c', fX10_stopOf_49 w (fun x3 x4 => fX10_stopOf_16 w (nI b) (nI S) F x3 x4) (nI b) (nI S) (aI c) (nI i) = some (aI c') ∧ bsI K b S (2 ^ K 0) c' := by
        intro hc
        unfold fX10_stopOf_49
        rw [nI_nd, soonM_ok HR W (told_2 W hbl) hS2 hbl, bI_some, nI_1]
        by_cases q : soo K b (nd S i) = 0
        · rw [if_pos (by rw [q]; rfl), ← aI_s]
          refine ih (i + 1) (i + 1) (by omega) (by omega) (Or.inr ⟨i, rfl, by omega, q, fun T hT hf => ?_⟩)
          by_cases e : T = i
          · subst e; exact Or.inr ⟨rfl, Nat.le_refl _⟩
          · rcases h3 with ⟨_, g⟩ | ⟨t, rfl, g1, g2, g3⟩
            · exact absurd hf (g T (by omega))
            · rcases hc with hc | ⟨t', e1, e2⟩
              · cases hc
              · have : t = t' := by omega
                subst this
                have := g3 T (by omega) hf
                omega
        · have hsl : soo K b (nd S i) < 2 ^ 31 := by
            rcases Nat.eq_zero_or_pos (soo K b (nd S i)) with h | h
            · omega
            · obtain ⟨d, hd⟩ : ∃ d, soo K b (nd S i) = d + 1 := ⟨soo K b (nd S i) - 1, by omega⟩
              have hd' := hd
              unfold soo at hd'
              split at hd'
              · have := gs_bit _ _ _ _ hd'
                omega
              · cases hd'
          rw [if_neg (fun z => q ((aI_m1 hsl).mp z))]
          refine ih (i + 1) c (by omega) (by omega) ?_
          rcases h3 with ⟨g0, g⟩ | ⟨t, g0, g1, g2, g3⟩
          · exact Or.inl ⟨g0, fun T hT => by
              by_cases e : T = i
              · subst e; exact q
              · exact g T (by omega)⟩
          · exact Or.inr ⟨t, g0, by omega, g2, fun T hT hf => by
              by_cases e : T = i
              · subst e; exact absurd hf q
              · exact g3 T (by omega) hf⟩
      rw [if_pos (nI_lt hi (by omega))]
      by_cases hc : c = 0
      · rw [if_neg (fun z => z (by rw [hc]; rfl))]
        exact ht (Or.inl hc)
      · obtain ⟨t, rfl⟩ : ∃ t, c = t + 1 := ⟨c - 1, by omega⟩
        have ht1 : t < 2 ^ 14 := by
          rcases h3 with ⟨g0, _⟩ | ⟨t', g0, g1, _⟩
          · cases g0
          · omega
        have cb1 := cB_le i 14
        have cb2 := cB_le t 14
        rw [aI_s, if_pos (nI_ne_m1 (by omega)), X10_bits_ok w (by omega), bI_some, X10_bits_ok w (by omega), bI_some]
        by_cases q : cB i 14 < cB t 14
        · rw [if_neg (fun z => z (nI_lt q (by omega)))]
          have := ht (Or.inr ⟨t, rfl, q⟩)
          rw [aI_s] at this
          exact this
        · rw [if_pos (nI_nlt (by omega) (by omega)), nI_1]
          have := ih (i + 1) (t + 1) (by omega) (by omega) (by
            rcases h3 with ⟨g0, _⟩ | ⟨t', g0, g1, g2, g3⟩
            · cases g0
            · have e : t = t' := by omega
              subst e
              exact Or.inr ⟨t, rfl, by omega, g2, fun T hT hf => by
                by_cases e : T = i
                · subst e; omega
                · exact g3 T (by omega) hf⟩)
          rw [aI_s] at this
          exact this
    · have e : i = 2 ^ K 0 := by omega
      subst e
      rw [if_neg (nI_nlt (by omega) (by omega))]
      exact ⟨c, rfl, h3⟩
theorem cB_ext {T N : Nat} (h : T < 2 ^ N) : ∀ m, N ≤ m → cB T m = cB T N := by
  intro m
  induction m with
  | zero => intro h; have : N = 0 := by omega
            subst this; rfl
  | succ m ih =>
    intro hm
    by_cases e : N = m + 1
    · subst e; rfl
    · show cB T m + tB T m = _
      rw [ih (by omega), show tB T m = 0 from tB_eq0.mpr (Nat.testBit_lt_two_pow (Nat.lt_of_lt_of_le h (Nat.pow_le_pow_right (by omega) (by omega)))), Nat.add_zero]
theorem cu_cost {T N : Nat} (hN : N ≤ 14) (h : T < 2 ^ N) : cu T N = 16384 * cB T 14 + T := by
  rw [cu_val, Nat.mod_eq_of_lt h, cB_ext h 14 hN]
theorem soo_0 {b : Nat} (S : Nat) (h : sB K (K (33 + 3 * b)) &&& ned K b = ned K b) : soo K b S = 0 ↔ gs S (K 0) (K 2) 100 (1 + cB (ned K b) 14) (min (K 0) (K 2 - K 1)) = 0 := by
  unfold soo
  rw [if_pos h]
  by_cases q : K 2 - K 1 ≤ K 0
  · rw [Nat.min_eq_right q]
  · rw [Nat.min_eq_left (by omega), gs_big (Nat.le_refl _), gs_big (by omega)]
theorem bits_lt {T N : Nat} (h : ∀ i, T.testBit i = true → i < N) : T < 2 ^ N := by
  refine Nat.lt_pow_two_of_testBit _ (fun i hi => ?_)
  cases q : T.testBit i with
  | false => rfl
  | true => have := h i q; omega
/-- the best set of all costs what the class's table says -/
theorem best_cost (W : WF K) {b c : Nat} (hbl : b < K 5) (H : bsI K b (clr K (K (33 + 3 * b))) (2 ^ K 0) c) : ∃ t, c = t + 1 ∧ t < 2 ^ K 0 ∧ lcF K b = 16384 * cB t 14 + t := by
  have hb := W.b
  have hP := told_2 W hbl
  have hp : 2 ^ K 0 ≤ 2 ^ 14 := Nat.pow_le_pow_right (by omega) hb.1
  by_cases q : sB K (K (33 + 3 * b)) &&& ned K b = ned K b
  · obtain ⟨T0, u1, u2, u3⟩ := dm_has (S := clr K (K (33 + 3 * b))) (N := K 0) (P := K 2) hP hb.1 (1 + cB (ned K b) 14) (K 0 - min (K 0) (K 2 - K 1)) (by omega) (by omega)
    have hT0 : T0 < 2 ^ K 0 := bits_lt (fun i hi => (u1 i hi).2)
    have em : K 0 - (K 0 - min (K 0) (K 2 - K 1)) = min (K 0) (K 2 - K 1) := by omega
    rw [em] at u3
    have f0 : fls K b (clr K (K (33 + 3 * b))) T0 := (soo_0 _ q).mpr u3
    rcases H with ⟨_, g⟩ | ⟨t, g0, g1, g2, g3⟩
    · exact absurd f0 (g T0 hT0)
    · refine ⟨t, g0, g1, ?_⟩
      have h1 := g3 T0 hT0 f0
      have h2 := dm_low (S := clr K (K (33 + 3 * b))) (N := K 0) (P := K 2) hP hb.1 (1 + cB (ned K b) 14) (K 0 - min (K 0) (K 2 - K 1)) t (by omega) (by omega) (by rw [em]; exact (soo_0 _ q).mp g2)
      rw [cu_cost hb.1 g1] at h2
      rw [cu_cost hb.1 hT0] at u2
      unfold lcF
      rw [if_pos q]
      omega
  · have f0 : fls K b (clr K (K (33 + 3 * b))) 0 := by
      unfold fls soo
      rw [if_neg q]
    rcases H with ⟨_, g⟩ | ⟨t, g0, g1, g2, g3⟩
    · exact absurd f0 (g 0 (Nat.two_pow_pos _))
    · refine ⟨t, g0, g1, ?_⟩
      have h1 := g3 0 (Nat.two_pow_pos _) f0
      have z : cB 0 14 = 0 := rfl
      have t0 : t = 0 := by omega
      subst t0
      unfold lcF
      rw [if_neg q]; rfl
theorem iSr_14 {s : Nat} (hs : s < 2 ^ 31) : iSr (nI s) 14 = nI (s / 2 ^ 14) := by
  apply b_ext
  intro i hi
  rw [nI_bt i hi, Nat.testBit_div_two_pow]
  show bt (nI s >>> ((14 : Int32) &&& 31)) i = _
  rw [show ((14 : Int32) &&& 31) = nI 14 &&& 31 from rfl, b_sshr 14 (by omega) _ hi]
  have h31 : s.testBit 31 = false := Nat.testBit_lt_two_pow hs
  by_cases h : 14 + i < 32
  · rw [if_pos h, nI_bt _ h, Nat.add_comm]
  · rw [if_neg h, nI_bt 31 (by omega), h31, Nat.testBit_lt_two_pow (Nat.lt_of_lt_of_le hs (Nat.pow_le_pow_right (by omega) (by omega)))]
end STO
theorem stopOf_ok {w : HW} {K : Nat → Nat} (HR : RC w K) (W : WF K) (C : RelC w) {b : Nat} (hbl : b < K 5) : ∃ t, fX10_stopOf w (nI b) = some (nI t) ∧ t < 2 ^ 14 ∧ lcF K b = 16384 * cB t 14 + t := by
  have hb := W.b
  have hB := W.bil hbl
  have hp : 2 ^ K 0 ≤ 2 ^ 14 := Nat.pow_le_pow_right (by omega) hb.1
  obtain ⟨c, e, h⟩ := stop16_L HR W (clr_lt (K := K) (K (33 + 3 * b))) hbl FU 0 0 (Nat.zero_le _) (by rw [FU_eq]; omega) (Or.inl ⟨rfl, fun T hT => by omega⟩)
  obtain ⟨t, rfl, t1, t2⟩ := best_cost W hbl h
  refine ⟨t, ?_, by omega, t2⟩
  unfold fX10_stopOf
  rw [X10_of_0 HR W hbl, bI_some, X10_freeDays_ok HR W C (by omega), bI_some, show fX10_stopOf_16 w (nI b) (nI (clr K (K (33 + 3 * b)))) FU (-1) 0 = _ from e, aI_s]
theorem ag_stop {w : HW} (H : Rel w) (x : Int32) : Agree w (fX9_stop · x) (pu (fX10_stop · x)) := by
  obtain ⟨HO, K, W, HR, kn, ks, HN, HC⟩ := id H
  have hb := W.b
  have hkn : kn = 26 ∨ kn = 35 := by have := HN.2.2; omega
  by_cases c : 0 ≤ x ∧ x < nI (K 5)
  · obtain ⟨b, hbl, rfl⟩ := rng_of (by omega) c
    obtain ⟨w1, p1⟩ := leastX_ok HC W (by omega) hbl
    have cc : ∀ t, cB t 14 ≤ 14 := fun t => cB_le t 14
    obtain ⟨t0, _, t2, t3⟩ := stopOf_ok HR W HO.2.2.1 hbl
    have hl : lcF K b < 2 ^ 31 := by have := cc t0; omega
    have ex : fX9_stop w (nI b) = some (nI (lcF K b / 2 ^ 14), w1) := by
      unfold fX9_stop
      simp only [now_ok HN, X0_hasBill_ok HC W, bI_some, if_b01, ite_dec]
      rw [if_pos c]
      unfold fX1_fewestToStop
      rw [p1, bW_some, bW_some, iSr_14 hl]
    have s1 : Sx sc w w1 := rX9_stop Sx.rf _ _ ex
    obtain ⟨t, q1, q2, q3⟩ := stopOf_ok (HR.sx s1) W (HO.sx s1).2.2.1 hbl
    have em : fX10_stop w1 (nI b) = some (nI (lcF K b / 2 ^ 14)) := by
      unfold fX10_stop
      rw [X10_isBill_ok (HR.sx s1) W, bI_some, if_b01, if_pos (decide_eq_true c), q1, bI_some, X10_bits_ok w1 (by omega), bI_some, q3]
      exact congrArg (fun z => some (nI z)) (by omega)
    exact ⟨_, _, w1, ex, by show pu (fX10_stop · (nI b)) w1 = _; rw [pu, em]; rfl, H.sx s1⟩
  · have ex : fX9_stop w x = some (-2, w) := by
      unfold fX9_stop
      simp only [now_ok HN, X0_hasBill_ok HC W, bI_some, if_b01, ite_dec]
      rw [if_neg c]
    have em : fX10_stop w x = some (-2) := by
      unfold fX10_stop
      rw [X10_isBill_ok HR W, bI_some, if_b01, if_neg (fun z => c (of_decide_eq_true z))]
    exact ⟨_, _, w, ex, by show pu (fX10_stop · x) w = _; rw [pu, em]; rfl, H⟩
theorem ag_stops {w : HW} (H : Rel w) (x : Int32) : Agree w (fX9_stops · x) (pu (fX10_stops · x)) := by
  obtain ⟨HO, K, W, HR, kn, ks, HN, HC⟩ := id H
  have hb := W.b
  have hkn : kn = 26 ∨ kn = 35 := by have := HN.2.2; omega
  by_cases c : 0 ≤ x ∧ x < nI (K 5)
  · obtain ⟨b, hbl, rfl⟩ := rng_of (by omega) c
    obtain ⟨w1, p1⟩ := leastX_ok HC W (by omega) hbl
    have ex : fX9_stops w (nI b) = some (nI (lcF K b % 2 ^ 14), w1) := by
      unfold fX9_stops
      simp only [now_ok HN, X0_hasBill_ok HC W, bI_some, if_b01, ite_dec]
      rw [if_pos c]
      unfold fX1_daysToStop
      rw [p1, bW_some, bW_some, show (16383 : Int32) = nI (2 ^ 14 - 1) from rfl, nI_and, Nat.and_two_pow_sub_one_eq_mod]
    have s1 : Sx sc w w1 := rX9_stops Sx.rf _ _ ex
    obtain ⟨t, q1, q2, q3⟩ := stopOf_ok (HR.sx s1) W (HO.sx s1).2.2.1 hbl
    have em : fX10_stops w1 (nI b) = some (nI (lcF K b % 2 ^ 14)) := by
      unfold fX10_stops
      rw [X10_isBill_ok (HR.sx s1) W, bI_some, if_b01, if_pos (decide_eq_true c), q1, bI_some, q3]
      exact congrArg (fun z => some (nI z)) (by omega)
    exact ⟨_, _, w1, ex, by show pu (fX10_stops · (nI b)) w1 = _; rw [pu, em]; rfl, H.sx s1⟩
  · have ex : fX9_stops w x = some (-2, w) := by
      unfold fX9_stops
      simp only [now_ok HN, X0_hasBill_ok HC W, bI_some, if_b01, ite_dec]
      rw [if_neg c]
    have em : fX10_stops w x = some (-2) := by
      unfold fX10_stops
      rw [X10_isBill_ok HR W, bI_some, if_b01, if_neg (fun z => c (of_decide_eq_true z))]
    exact ⟨_, _, w, ex, by show pu (fX10_stops · x) w = _; rw [pu, em]; rfl, H⟩
