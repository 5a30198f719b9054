section ACT
variable {w : HW} {K : Nat → Nat}
theorem aks_iff (W : WF K) (d : Nat) : (aks K).testBit d = decide (2 ≤ aD K d) := by
  rw [Bool.eq_iff_iff, decide_eq_true_eq]
  unfold aks
  rw [aDF_bit]
  constructor
  · rintro ⟨i, h1, h2, h3⟩
    have := (aDn_iff W (d := d) (c := bC (K (57 + i))) (K 6) (Nat.le_refl _)).mpr ⟨i, h1, h3, rfl⟩
    have h4 : bC (K (57 + i)) ≠ 0 := by simpa using h2
    show 2 ≤ aDn K d (K 6)
    omega
  · intro h
    obtain ⟨i, h1, h2, h3⟩ := (aDn_iff W (d := d) (c := aD K d - 1) (K 6) (Nat.le_refl _)).mp (by show aD K d = _; omega)
    refine ⟨i, h1, ?_, h2⟩
    have h4 : bC (K (57 + i)) ≠ 0 := by omega
    simpa using h4
theorem fds_iff (W : WF K) (d : Nat) : (fds K).testBit d = decide (aD K d = 1) := by
  rw [Bool.eq_iff_iff, decide_eq_true_eq]
  unfold fds
  rw [aDF_bit]
  constructor
  · rintro ⟨i, h1, h2, h3⟩
    have h4 : bC (K (57 + i)) = 0 := by simpa using h2
    exact (aDn_iff W (d := d) (c := 0) (K 6) (Nat.le_refl _)).mpr ⟨i, h1, h3, h4⟩
  · intro h
    obtain ⟨i, h1, h2, h3⟩ := (aDn_iff W (d := d) (c := 0) (K 6) (Nat.le_refl _)).mp h
    exact ⟨i, h1, by simpa using h3, h2⟩
theorem aks_bS (W : WF K) : aks K = bS (fun d => decide (2 ≤ aD K d)) (K 0) := by
  apply Nat.eq_of_testBit_eq
  intro i
  rw [bS_bit, aks_iff W]
  by_cases h : i < K 0
  · simp [h]
  · rw [aD_day W (by omega)]; simp [h]
theorem fds_bS (W : WF K) : fds K = bS (fun d => decide (aD K d = 1)) (K 0) := by
  apply Nat.eq_of_testBit_eq
  intro i
  rw [bS_bit, fds_iff W]
  by_cases h : i < K 0
  · simp [h]
  · rw [aD_day W (by omega)]; simp [h]
theorem acts50 (w : HW) (Q : Int32 → Int32 → Option Int32) (x : Int32) (d s : Nat) (hd : d < 31) (a b : Bool) : fX10_actsOf_50 w Q x (nI d) (b01 a) (b01 b) (nI s) = Q (nI (if (b == a) = true then s ||| 2 ^ d else s)) (nI (d + 1)) := by
  unfold fX10_actsOf_50
  rw [iSl_1 hd, nI_or, lT_eq, lT_eq, or_0, nI_1]
  cases a <;> cases b
  · rw [if_pos rfl]; rfl
  · rw [if_neg (by decide)]; rfl
  · rw [if_neg (by decide)]; rfl
  · rw [if_pos rfl]; rfl
theorem actsOf_L (W : WF K) (HR : RC w K) (h86 : ∀ d, d < 14 → gI w 86 d = m86 (aD K d)) (t : Bool) : ∀ F i, i ≤ K 0 → K 0 - i < F → fX10_actsOf_4 w (b01 t) F (nI (bS (fun d => decide (aD K d ≠ 0) && (decide (aD K d = 1) == !t)) i)) (nI i) = some (nI (bS (fun d => decide (aD K d ≠ 0) && (decide (aD K d = 1) == !t)) (K 0))) := by
  have hb := W.b
  intro F
  induction F with
  | zero => intro i a b; omega
  | succ F ih =>
    intro i a b
    rw [fX10_actsOf_4, if_pos (show inB 0 77 = true from rfl), ix_0, HR.r0]
    by_cases hi : i < K 0
    · have hl := aD_lt W (d := i)
      have i1 := ih (i + 1) (by omega) (by omega)
      rw [bS] at i1
      rw [if_pos (nI_lt hi (by omega)), if_pos (inB_nI (by omega) (by omega)), if_pos (inB_nI (by omega) (by omega)), ix_nI (by omega), h86 i (by omega)]
      by_cases c : aD K i = 0
      · rw [if_neg (fun z => z ((m86_m1 (by omega)).mpr c)), lT_eq, or_0, nI_1]
        rw [if_neg (by simp [c])] at i1
        exact i1
      · rw [if_pos (fun z => c ((m86_m1 (by omega)).mp z))]
        have e : (decide (aD K i ≠ 0) && (decide (aD K i = 1) == !t)) = (decide (aD K i = 1) == !t) := by simp [c]
        rw [e] at i1
        by_cases c1 : aD K i = 1
        · rw [if_pos ((m86_m2 (by omega)).mpr c1)]
          rw [decide_eq_true c1] at i1
          rw [if_b01']
          cases t with
          | true => rw [if_pos rfl]; exact (acts50 w _ _ i _ (by omega) false true).trans i1
          | false => rw [if_neg (by decide)]; exact (acts50 w _ _ i _ (by omega) true true).trans i1
        · rw [if_neg (fun z => c1 ((m86_m2 (by omega)).mp z))]
          rw [decide_eq_false c1] at i1
          rw [if_b01']
          cases t with
          | true => rw [if_pos rfl]; exact (acts50 w _ _ i _ (by omega) false false).trans i1
          | false => rw [if_neg (by decide)]; exact (acts50 w _ _ i _ (by omega) true false).trans i1
    · have e : i = K 0 := by omega
      rw [if_neg (nI_nlt (by omega) (by omega)), e]
theorem actsOf_1 (W : WF K) (HR : RC w K) (h86 : ∀ d, d < 14 → gI w 86 d = m86 (aD K d)) : fX10_actsOf w 1 = some (nI (aks K)) := by
  have hb := W.b
  have e := actsOf_L W HR h86 true FU 0 (by omega) (by rw [FU_eq]; omega)
  rw [show bS (fun d => decide (aD K d ≠ 0) && (decide (aD K d = 1) == !true)) (K 0) = aks K by
    rw [aks_bS W]
    refine bS_congr (fun i _ => ?_)
    rcases (show aD K i = 0 ∨ aD K i = 1 ∨ 2 ≤ aD K i by omega) with h | h | h
    · simp [h]
    · simp [h]
    · have h1 : aD K i ≠ 0 := by omega
      have h2 : aD K i ≠ 1 := by omega
      simp [h, h1, h2]] at e
  exact e
theorem actsOf_0 (W : WF K) (HR : RC w K) (h86 : ∀ d, d < 14 → gI w 86 d = m86 (aD K d)) : fX10_actsOf w 0 = some (nI (fds K)) := by
  have hb := W.b
  have e := actsOf_L W HR h86 false FU 0 (by omega) (by rw [FU_eq]; omega)
  rw [show bS (fun d => decide (aD K d ≠ 0) && (decide (aD K d = 1) == !false)) (K 0) = fds K by
    rw [fds_bS W]
    refine bS_congr (fun i _ => ?_)
    rcases (show aD K i = 0 ∨ aD K i = 1 ∨ 2 ≤ aD K i by omega) with h | h | h
    · simp [h]
    · simp [h]
    · have h1 : aD K i ≠ 0 := by omega
      have h2 : aD K i ≠ 1 := by omega
      simp [h, h1, h2]] at e
  exact e
end ACT
theorem ag_asked {w : HW} (H : Rel w) : Agree w (pu fX9_asked) fX10_asked := by
  obtain ⟨HO, K, W, HR, kn, ks, HN, HC⟩ := id H
  obtain ⟨w2, q1, q2⟩ := camp_sx W HO HR Sx.rf
  have ex : fX9_asked w = if 0 < K 7 then some (nI (aks K)) else some (-2) := by
    unfold fX9_asked
    simp only [now_ok HN, X0_isTold_ok HC W, X0_askedDays_ok HC W, bI_some, if_b01, ite_dec]
  have em : fX10_asked w = if 0 < K 7 then some (nI (aks K), w2) else some (-2, w2) := by
    unfold fX10_asked
    rw [q1, bW_some, if_b01, ite_dec, actsOf_1 W q2.1 q2.2.2.2.1, bI_some]
  by_cases c : 0 < K 7
  · rw [if_pos c] at ex em
    exact ⟨_, _, _, by rw [pu, ex]; rfl, em, H.sx (rX10_asked Sx.rf _ em)⟩
  · rw [if_neg c] at ex em
    exact ⟨_, _, _, by rw [pu, ex]; rfl, em, H.sx (rX10_asked Sx.rf _ em)⟩
theorem ag_fattened {w : HW} (H : Rel w) : Agree w (pu fX9_fattened) fX10_fattened := by
  obtain ⟨HO, K, W, HR, kn, ks, HN, HC⟩ := id H
  obtain ⟨w2, q1, q2⟩ := camp_sx W HO HR Sx.rf
  have ex : fX9_fattened w = if 0 < K 7 then some (nI (fds K)) else some (-2) := by
    unfold fX9_fattened
    simp only [now_ok HN, X0_isTold_ok HC W, X0_fedDays_ok HC W, bI_some, if_b01, ite_dec]
  have em : fX10_fattened w = if 0 < K 7 then some (nI (fds K), w2) else some (-2, w2) := by
    unfold fX10_fattened
    rw [q1, bW_some, if_b01, ite_dec, actsOf_0 W q2.1 q2.2.2.2.1, bI_some]
  by_cases c : 0 < K 7
  · rw [if_pos c] at ex em
    exact ⟨_, _, _, by rw [pu, ex]; rfl, em, H.sx (rX10_fattened Sx.rf _ em)⟩
  · rw [if_neg c] at ex em
    exact ⟨_, _, _, by rw [pu, ex]; rfl, em, H.sx (rX10_fattened Sx.rf _ em)⟩
theorem ag_fast {w : HW} (H : Rel w) : Agree w (pu fX9_fast) fX10_fast := by
  obtain ⟨HO, K, W, HR, kn, ks, HN, HC⟩ := id H
  obtain ⟨w2, q1, q2⟩ := camp_sx W HO HR Sx.rf
  have hp := Nat.two_pow_pos (K 0)
  have hl : nd (nd (2 ^ K 0 - 1) (aks K)) (fds K) < 2 ^ K 0 := nd_lt (nd_lt (by omega))
  have hl2 : nd (2 ^ K 0 - 1) (fds K ||| aks K) = nd (nd (2 ^ K 0 - 1) (aks K)) (fds K) := by
    apply Nat.eq_of_testBit_eq
    intro i
    rw [nd_bit, nd_bit, nd_bit, Nat.testBit_or]
    cases (2 ^ K 0 - 1).testBit i <;> cases (aks K).testBit i <;> cases (fds K).testBit i <;> rfl
  have ex : fX9_fast w = if 0 < K 7 then some (nI (rnF (nd (nd (2 ^ K 0 - 1) (aks K)) (fds K)) 14).1) else some (-2) := by
    unfold fX9_fast
    simp only [now_ok HN, X0_isTold_ok HC W, X0_allDays_ok HC W, X0_askedDays_ok HC W, X0_fedDays_ok HC W, bI_some, if_b01', ite_dec, nI_nd]
    rw [X9_longestRun_ok w (lt31 W hl), bI_some]
  have em : fX10_fast w = if 0 < K 7 then some (nI (rnF (nd (nd (2 ^ K 0 - 1) (aks K)) (fds K)) 14).1, w2) else some (-2, w2) := by
    unfold fX10_fast
    rw [q1, bW_some, if_b01, ite_dec, X10_allDays_ok q2.1 W, bI_some, actsOf_0 W q2.1 q2.2.2.2.1, bI_some, actsOf_1 W q2.1 q2.2.2.2.1, bI_some, nI_or, nI_nd, hl2, X10_runOf_ok q2.1 W hl, bI_some]
  by_cases c : 0 < K 7
  · rw [if_pos c] at ex em
    exact ⟨_, _, _, by rw [pu, ex]; rfl, em, H.sx (rX10_fast Sx.rf _ em)⟩
  · rw [if_neg c] at ex em
    exact ⟨_, _, _, by rw [pu, ex]; rfl, em, H.sx (rX10_fast Sx.rf _ em)⟩
section FIR
variable {w : HW} {K : Nat → Nat}
/-- the last day below n with an act, one more; 0 for none -/
def lst (K : Nat → Nat) : Nat → Nat
  | 0 => 0
  | n + 1 => if aD K n = 0 then lst K n else n + 1
theorem lst_hu {K : Nat → Nat} : ∀ n, (lst K n = 0 ∧ huF K n = K 1 + n) ∨ (0 < lst K n ∧ lst K n ≤ n ∧ huF K n = n - (lst K n - 1)) := by
  intro n
  induction n with
  | zero => exact Or.inl ⟨rfl, rfl⟩
  | succ n ih =>
    unfold lst huF
    by_cases c : aD K n = 0
    · rw [if_pos c, if_pos c]; omega
    · rw [if_neg c, if_neg c]; omega
theorem lst_0 {K : Nat → Nat} : ∀ n, lst K n = 0 ↔ ∀ i, i < n → aD K i = 0 := by
  intro n
  induction n with
  | zero => exact ⟨fun _ i h => by omega, fun _ => rfl⟩
  | succ n ih =>
    unfold lst
    by_cases c : aD K n = 0
    · rw [if_pos c, ih]
      refine ⟨fun h i hi => ?_, fun h i hi => h i (by omega)⟩
      by_cases e : i = n
      · subst e; exact c
      · exact h i (by omega)
    · rw [if_neg c]; exact ⟨fun z => (by omega), fun h => absurd (h n (by omega)) c⟩
theorem lastAct_L (h9 : ∀ d, d < 14 → gI w 9 d = c9 (aD K d)) (W : WF K) : ∀ F n, n ≤ 14 → n < F → fX6_lastActAhead_4 w F (aI n) = some (aI (lst K n)) := by
  have hb := W.b
  intro F
  induction F with
  | zero => intro n a b; omega
  | succ F ih =>
    intro n a b
    rw [fX6_lastActAhead_4]
    cases n with
    | zero => rw [aI_0, if_neg (fun z => z (by decide))]; rfl
    | succ n =>
      have hl := aD_lt W (d := n)
      rw [aI_s, if_pos (nI_pos (by omega)), if_pos (inB_nI (by omega) (by omega)), ix_nI (by omega), h9 n (by omega)]
      unfold lst
      by_cases c : aD K n = 0
      · rw [if_neg (fun z => z ((c9_none (by omega)).mpr c)), if_pos c, pk_back (by omega)]
        exact ih n (by omega) (by omega)
      · rw [if_pos (fun z => c ((c9_none (by omega)).mp z)), if_neg c, aI_s]
end FIR
theorem ag_first {w : HW} (H : Rel w) (x : Int32) : Agree w (fX9_first · x) (fX10_first · x) := by
  obtain ⟨HO, K, W, HR, kn, ks, HN, HC⟩ := id H
  have hb := W.b
  by_cases c : 0 ≤ x ∧ x < nI (K 0)
  · obtain ⟨d, hd, rfl⟩ := rng_of (by omega) c
    obtain ⟨w1, p1, p2, p3⟩ := play_sx W HN HC
    have hlh := lst_hu (K := K) d
    have e1 : fX6_lastActAhead w1 (nI d) = some (aI (lst K d)) := by
      unfold fX6_lastActAhead
      rw [lT_eq, aI_pred (by omega)]
      exact lastAct_L p2.2.2.1 W FU d (by omega) (by rw [FU_eq]; omega)
    have ex : fX9_first w (nI d) = some (if lst K d = 0 then iMx 0 (nI (K 2) - nI d) else if K 2 ≤ huF K d then 0 else -1, w1) := by
      unfold fX9_first
      simp only [now_ok HN, X0_hasDay_ok HC W, bI_some, if_b01', ite_dec]
      rw [if_pos c, p1, bI_some, e1, bI_some]
      simp only [now_ok (HN.sx p3), (HC.sx p3).c3]
      by_cases c1 : lst K d = 0
      · rw [if_pos ((aI_m1 (by omega)).mpr c1), if_pos c1]
      · obtain ⟨l, hl⟩ : ∃ l, lst K d = l + 1 := ⟨lst K d - 1, by omega⟩
        rw [if_neg (fun z => c1 ((aI_m1 (by omega)).mp z)), if_neg c1, hl, aI_s, nI_subI (by omega)]
        by_cases c2 : K 2 ≤ huF K d
        · rw [if_pos (nI_nlt (by omega) (by omega)), if_pos c2]
        · rw [if_neg (fun z => z (nI_lt (by omega) (by omega))), if_neg c2]
    obtain ⟨w2, q1, q2⟩ := day_sx W HO HR p3 (nI d)
    have em : fX10_first w1 (nI d) = some (if lst K d = 0 then iMx 0 (nI (K 2) - nI d) else if K 2 ≤ huF K d then 0 else -1, w2) := by
      unfold fX10_first fX10_first_36
      have hp := Nat.two_pow_pos d
      have hbits : ((fds K ||| aks K) &&& (2 ^ d - 1) = 0) ↔ lst K d = 0 := by
        rw [lst_0]
        constructor
        · intro h i hi
          have := congrArg (fun z => z.testBit i) h
          simp only [Nat.testBit_and, Nat.testBit_or, Nat.testBit_two_pow_sub_one, decide_eq_true hi, Nat.zero_testBit, Bool.and_true, fds_iff W, aks_iff W] at this
          rw [Bool.or_eq_false_iff, decide_eq_false_iff_not, decide_eq_false_iff_not] at this
          omega
        · intro h
          apply Nat.eq_of_testBit_eq
          intro i
          rw [Nat.testBit_and, Nat.testBit_or, Nat.testBit_two_pow_sub_one, Nat.zero_testBit, fds_iff W, aks_iff W]
          by_cases hi : i < d
          · rw [h i hi]; simp
          · simp [hi]
      have hlt : (fds K ||| aks K) &&& (2 ^ d - 1) < 2 ^ 31 := and_lt31 (lt31 W (or_lt (fds_lt W) (aks_lt W)))
      rw [q1, bW_some, if_b01', if_pos (decide_eq_true c), actsOf_0 W q2.1 q2.2.2.2.1, bI_some, actsOf_1 W q2.1 q2.2.2.2.1, bI_some, nI_or, iSl_1 (by omega), show nI (2 ^ d) - 1 = nI (2 ^ d - 1) from nI_subI (b := 1) hp, nI_and, doEat_ok q2.1 W (by omega) (q2.2.1 d hd), bI_some, if_pos (show inB 2 77 = true from rfl), ix_2, q2.1.r2]
      by_cases c1 : lst K d = 0
      · rw [if_pos (show nI ((fds K ||| aks K) &&& (2 ^ d - 1)) = 0 from congrArg nI (hbits.mpr c1)), if_pos (show ¬ (1 : Int32) = 0 by decide), if_pos c1]
      · rw [if_neg (show ¬ nI ((fds K ||| aks K) &&& (2 ^ d - 1)) = 0 from fun z => c1 (hbits.mp ((nI_eqv (b := 0) hlt (by omega)).mp z))), if_neg (fun z => z rfl), if_neg c1, if_b01]
        by_cases c2 : K 2 ≤ huF K d
        · rw [if_pos (decide_eq_true c2), if_pos c2]
        · rw [if_neg (fun z => c2 (of_decide_eq_true z)), if_neg c2]
    exact ⟨_, _, _, ex, em, (H.sx p3).sx (rX10_first Sx.rf _ _ em)⟩
  · have ex : fX9_first w x = some (-2, w) := by
      unfold fX9_first
      simp only [now_ok HN, X0_hasDay_ok HC W, bI_some, if_b01', ite_dec]
      rw [if_neg c]
    obtain ⟨w2, q1, q2⟩ := day_sx W HO HR Sx.rf x
    have em : fX10_first w x = some (-2, w2) := by
      unfold fX10_first
      rw [q1, bW_some, if_b01', if_neg (fun z => c (of_decide_eq_true z))]
    exact ⟨_, _, _, ex, em, H.sx (rX10_first Sx.rf _ _ em)⟩
section WOR
variable {w : HW} {k : Nat} {K : Nat → Nat} {V : Nat → Nat}
theorem passing_L (HC : CC w k K) (W : WF K) (h7 : ∀ b, b < 8 → gI w 7 b = aI (V b)) (hV : ∀ b, V b < 100) : ∀ F i, i ≤ K 5 → K 5 - i < F → fX6_passing_4 w k F (nI (bS (fun b => decide (V b ≠ 0)) i)) (nI i) = some (nI (bS (fun b => decide (V b ≠ 0)) (K 5))) := by
  have hb := W.b
  intro F
  induction F with
  | zero => intro i a b; omega
  | succ F ih =>
    intro i a b
    rw [fX6_passing_4, HC.c10]
    by_cases hi : i < K 5
    · have hVi := hV i
      have i1 := ih (i + 1) (by omega) (by omega)
      rw [bS] at i1
      rw [if_pos (nI_lt hi (by omega)), if_pos (inB_nI (by omega) (by omega)), ix_nI (by omega), h7 i (by omega), iSl_1 (by omega), nI_or, lT_eq, nI_1]
      by_cases c : V i = 0
      · rw [if_neg (by simp [c])] at i1
        rw [if_neg (fun z => z ((aI_m1 (by omega)).mpr c))]; exact i1
      · rw [if_pos (decide_eq_true c)] at i1
        rw [if_pos (fun z => c ((aI_m1 (by omega)).mp z))]; exact i1
    · have e : i = K 5 := by omega
      rw [if_neg (nI_nlt (by omega) (by omega)), e]
theorem passing_ok (HC : CC w k K) (W : WF K) (h7 : ∀ b, b < 8 → gI w 7 b = aI (V b)) (hV : ∀ b, V b < 100) : fX6_passing w k = some (nI (bS (fun b => decide (V b ≠ 0)) (K 5))) := by
  have hb := W.b
  exact passing_L HC W h7 hV FU 0 (by omega) (by rw [FU_eq]; omega)
theorem worthM_L (W : WF K) (HR : RC w K) (h89 : ∀ b, b < 8 → gI w 89 b = aI (V b)) (hV : ∀ b, V b < 100) {s : Nat} (hs : s ≤ 1) : ∀ F i, i ≤ K 5 → K 5 - i < F → fX10_worth_22 (nI s) F w (nI (woF K (fun b => decide (K (33 + 3 * b) = s) && decide (V b ≠ 0)) i)) (nI i) = some (nI (woF K (fun b => decide (K (33 + 3 * b) = s) && decide (V b ≠ 0)) (K 5)), w) := by
  have hb := W.b
  intro F
  induction F with
  | zero => intro i a b; omega
  | succ F ih =>
    intro i a b
    rw [fX10_worth_22, if_pos (show inB 5 77 = true from rfl), ix_5, HR.r5]
    by_cases hi : i < K 5
    · have hVi := hV i
      have hB := W.bil hi
      have i1 := ih (i + 1) (by omega) (by omega)
      rw [woF] at i1
      have a0 : ∀ x : Nat, nI x + 0 = nI x := fun x => nI_add x 0
      rw [if_pos (nI_lt hi (by omega)), X10_of_0 HR W hi, X10_of_1 HR W hi, bI_some, bI_some, if_pos (inB_nI (by omega) (by omega)), ix_nI (by omega), h89 i (by omega), nI_add, lT_eq, lT_eq, a0, nI_1]
      by_cases c : K (33 + 3 * i) = s
      · rw [if_pos (congrArg nI c)]
        by_cases c2 : V i = 0
        · rw [if_neg (by simp [c2])] at i1
          rw [if_neg (fun z => z ((aI_m1 (by omega)).mpr c2))]; exact i1
        · rw [if_pos (by simp [c, c2])] at i1
          rw [if_pos (fun z => c2 ((aI_m1 (by omega)).mp z))]; exact i1
      · rw [if_neg (by simp [c])] at i1
        rw [if_neg (fun z => c ((nI_eqv (by omega) (by omega)).mp z))]; exact i1
    · have e : i = K 5 := by omega
      rw [if_neg (nI_nlt (by omega) (by omega)), e]
end WOR
theorem ag_worth {w : HW} (H : Rel w) (x : Int32) : Agree w (fX9_worth · x) (fX10_worth · x) := by
  obtain ⟨HO, K, W, HR, kn, ks, HN, HC⟩ := id H
  have hb := W.b
  by_cases h : 0 < K 7 ∧ (x = 0 ∨ x = 1)
  · obtain ⟨s, hs, rfl⟩ := side_of h.2
    obtain ⟨w1, p1, p2, p3⟩ := play_sx W HN HC
    have hl : bS (fun b => decide ((sea K false 0 (K 0)).1 b ≠ 0)) (K 5) &&& sB K s < 2 ^ 31 := and_lt31 (bS_lt31 _ (by omega))
    have ew : woF K (fun a => (bS (fun b => decide ((sea K false 0 (K 0)).1 b ≠ 0)) (K 5) &&& sB K s).testBit a) (K 5) = woF K (fun b => decide (K (33 + 3 * b) = s) && decide ((sea K false 0 (K 0)).1 b ≠ 0)) (K 5) := by
      refine woF_congr _ (fun i hi => ?_)
      unfold sB
      rw [Nat.testBit_and, bS_bit, bS_bit, decide_eq_true hi, Bool.true_and, Bool.true_and, Bool.and_comm]
      congr 1
    have ex : fX9_worth w (nI s) = some (nI (woF K (fun b => decide (K (33 + 3 * b) = s) && decide ((sea K false 0 (K 0)).1 b ≠ 0)) (K 5)), w1) := by
      unfold fX9_worth
      simp only [now_ok HN, X0_hasSide_ok HC W, bI_some, if_b01', and_dec]
      rw [if_pos h, p1, bI_some]
      simp only [now_ok (HN.sx p3)]
      rw [passing_ok (HC.sx p3) W p2.2.1 (fun b => sea_lt W false 0 b), bI_some, X0_billsOf_ok (HC.sx p3) W (by omega), bI_some, nI_and, X0_worthOf_ok (HC.sx p3) W hl, bI_some, ew]
    obtain ⟨w2, q1, q2⟩ := camp_sx W HO HR p3
    have em : fX10_worth w1 (nI s) = some (nI (woF K (fun b => decide (K (33 + 3 * b) = s) && decide ((sea K false 0 (K 0)).1 b ≠ 0)) (K 5)), w2) := by
      unfold fX10_worth
      rw [q1, bW_some, if_b01, if_pos (decide_eq_true h.1), X10_isSide_ok q2.1 W, bI_some, if_b01', and_dec, if_pos h]
      exact worthM_L W q2.1 q2.2.2.1 (fun b => sea_lt W false 0 b) hs FU 0 (by omega) (by rw [FU_eq]; omega)
    exact ⟨_, _, _, ex, em, (H.sx p3).sx (rX10_worth Sx.rf _ _ em)⟩
  · have ex : fX9_worth w x = some (-2, w) := by
      unfold fX9_worth
      simp only [now_ok HN, X0_hasSide_ok HC W, bI_some, if_b01', and_dec]
      rw [if_neg h]
    obtain ⟨w2, q1, q2⟩ := camp_sx W HO HR Sx.rf
    have em : fX10_worth w x = some (-2, w2) := by
      unfold fX10_worth
      rw [q1, bW_some, if_b01, X10_isSide_ok q2.1 W, bI_some, if_b01', and_dec, if_neg h, ite_self]
    exact ⟨_, _, _, ex, em, H.sx (rX10_worth Sx.rf _ _ em)⟩
section OPN
variable {w : HW} {k : Nat} {K : Nat → Nat}
/-- whether b would pass, asked for on the day d -/
def cpF (K : Nat → Nat) (b d : Nat) : Bool := (decide (aB K b = 0) || decide (aB K b = d + 1)) && decide (whyF K (sea K false 0 (K 0)).1 b d (decide (K 2 ≤ huF K d)) = 0)
theorem could_ok (HC : CC w k K) (W : WF K) (S : CS K false 0 w (K 0)) {b d : Nat} (hbl : b < K 5) (hd : d < K 0) : fX6_couldPass w k (nI b) (nI d) = some (b01 (cpF K b d)) := by
  have hb := W.b
  have hab := aB_le W b
  have hu := huF_le W d
  have e6 : gI w 6 b = aI (aB K b) := by
    rw [S.2.2.2.2.1 b (by omega), if_pos hab]
  have st : fX6_couldPass_25 w k (nI b) (nI d) 0 = some (b01 (decide (whyF K (sea K false 0 (K 0)).1 b d (decide (K 2 ≤ huF K d)) = 0))) := by
    have hl := whyF_le K (sea K false 0 (K 0)).1 b d (decide (K 2 ≤ huF K d))
    have fin : ∀ y : Nat, y ≤ 4 → (if nI y = 0 then some (1 : Int32) else some 0) = some (b01 (decide (y = 0))) := fun y hy => by
      by_cases c : y = 0
      · subst c; rfl
      · rw [if_neg (nI_ne0 (by omega) (by omega)), decide_eq_false c]; rfl
    unfold fX6_couldPass_25
    rw [if_pos rfl, if_pos (inB_nI (by omega) (by omega)), ix_nI (by omega), S.1 d hd, HC.c3]
    have wn := fun ok => whyNot_ok HC W S.2.2.2.1 S.2.1 (fun c => sea_lt W false 0 c) hbl hd ok
    by_cases c : K 2 ≤ huF K d
    · rw [if_pos (nI_nlt (by omega) (by omega)), show fX6_whyNot w k (nI b) (nI d) 1 = _ from wn true, bI_some]
      rw [decide_eq_true c] at hl ⊢
      exact fin _ hl
    · rw [if_neg (fun z => z (nI_lt (by omega) (by omega))), show fX6_whyNot w k (nI b) (nI d) 0 = _ from wn false, bI_some]
      rw [decide_eq_false c] at hl ⊢
      exact fin _ hl
  unfold fX6_couldPass cpF
  rw [if_pos (inB_nI (by omega) (by omega)), if_pos (inB_nI (by omega) (by omega)), ix_nI (by omega), e6]
  by_cases c : aB K b = 0
  · rw [if_neg (fun z => z ((aI_m1 (by omega)).mpr c)), st, decide_eq_true c, Bool.true_or, Bool.true_and]
  · rw [if_pos (fun z => c ((aI_m1 (by omega)).mp z)), decide_eq_false c, Bool.false_or]
    by_cases c2 : aB K b = d + 1
    · rw [if_neg (fun z => z (by rw [c2, aI_s])), st, decide_eq_true c2, Bool.true_and]
    · rw [if_pos (fun z => c2 ((aI_nI (by omega) (by omega)).mp z.symm)), decide_eq_false c2, Bool.false_and]
      rfl
/-- the days on which a bill of the side below i would pass -/
def opB (K : Nat → Nat) (s d : Nat) : Nat → Bool
  | 0 => false
  | n + 1 => opB K s d n || (decide (K (33 + 3 * n) = s) && cpF K n d)
theorem or_pow_twice {m d : Nat} : (m ||| 2 ^ d) ||| 2 ^ d = m ||| 2 ^ d := by rw [Nat.or_assoc, Nat.or_self]
theorem openX43_L {kn ks : Nat} (W : WF K) (HN : RelN w kn ks) (HC : CC w kn K) (S : CS K false 0 w (K 0)) {s d m : Nat} (hs : s ≤ 1) (hd : d < K 0) (Q : HW → Int32 → Int32 → Option (Int32 × HW)) : ∀ F i, i ≤ K 5 → K 5 - i < F → fX9_open_43 Q (nI s) (nI d) F w (nI (if opB K s d i = true then m ||| 2 ^ d else m)) (nI i) = Q w (nI (if opB K s d (K 5) = true then m ||| 2 ^ d else m)) (nI (d + 1)) := by
  have hb := W.b
  intro F
  induction F with
  | zero => intro i a b; omega
  | succ F ih =>
    intro i a b
    rw [fX9_open_43]
    simp only [now_ok HN, HC.c10]
    by_cases hi : i < K 5
    · have hB := W.bil hi
      have i1 := ih (i + 1) (by omega) (by omega)
      rw [opB] at i1
      rw [if_pos (nI_lt hi (by omega)), if_pos (inB_nI (by omega) (by omega)), ix_nI (by omega), (HC.bil hi).1, could_ok HC W S hi hd, bI_some, if_b01, iSl_1 (by omega), nI_or, lT_eq, nI_1]
      by_cases c : K (33 + 3 * i) = s
      · rw [decide_eq_true c, Bool.true_and] at i1
        rw [if_pos (congrArg nI c)]
        by_cases c2 : cpF K i d = true
        · rw [c2, Bool.or_true, if_pos rfl] at i1
          rw [if_pos c2]
          cases opB K s d i
          · exact i1
          · rw [if_pos rfl, or_pow_twice]; exact i1
        · rw [show cpF K i d = false by simpa using c2, Bool.or_false] at i1
          rw [if_neg c2]; exact i1
      · rw [decide_eq_false c, Bool.false_and, Bool.or_false] at i1
        rw [if_neg (fun z => c ((nI_eqv (by omega) (by omega)).mp z))]; exact i1
    · have e : i = K 5 := by omega
      rw [if_neg (nI_nlt (by omega) (by omega)), e, nI_1]
theorem openX29_L {kn ks : Nat} (W : WF K) (HN : RelN w kn ks) (HC : CC w kn K) (S : CS K false 0 w (K 0)) {s : Nat} (hs : s ≤ 1) : ∀ F i, i ≤ K 0 → K 0 - i < F → fX9_open_29 (nI s) F w (nI (bS (fun d => opB K s d (K 5)) i)) (nI i) = some (nI (bS (fun d => opB K s d (K 5)) (K 0)), w) := by
  have hb := W.b
  intro F
  induction F with
  | zero => intro i a b; omega
  | succ F ih =>
    intro i a b
    rw [fX9_open_29]
    simp only [now_ok HN, HC.c1]
    by_cases hi : i < K 0
    · have i1 := ih (i + 1) (by omega) (by omega)
      rw [bS] at i1
      rw [if_pos (nI_lt hi (by omega))]
      exact (openX43_L W HN HC S (m := bS (fun d => opB K s d (K 5)) i) hs hi (fun w x2 x3 => fX9_open_29 (nI s) F w x2 x3) FU 0 (by omega) (by rw [FU_eq]; omega)).trans i1
    · have e : i = K 0 := by omega
      rw [if_neg (nI_nlt (by omega) (by omega)), e]
theorem openM84 (W : WF K) (S : MS K false 0 w (K 0)) {b d m : Nat} (hbl : b < K 5) (hd : d < K 0) (Q13 Q21 : HW → Int32 → Int32 → Option (Int32 × HW)) (x1 : Int32) (t : Bool) : fX10_open_84 w Q13 Q21 x1 (nI m) (nI d) (nI b) (b01 t) = Q21 w (nI (if (t && decide (whyF K (sea K false 0 (K 0)).1 b d (decide (K 2 ≤ huF K d)) = 0)) = true then m ||| 2 ^ d else m)) (nI (b + 1)) := by
  have hb := W.b
  have hl := whyF_le K (sea K false 0 (K 0)).1 b d (decide (K 2 ≤ huF K d))
  unfold fX10_open_84
  rw [if_b01, doEat_ok S.1 W (by omega) (S.2.1 d hd), bI_some, whyOn_ok S.1 W S.2.2.1 (fun c => sea_lt W false 0 c) hbl hd, bI_some, iSl_1 (by omega), nI_or, lT_eq, lT_eq, or_0, nI_1]
  cases t with
  | false => rw [if_neg (by decide), Bool.false_and]; rfl
  | true =>
    rw [if_pos rfl, Bool.true_and]
    by_cases c : whyF K (sea K false 0 (K 0)).1 b d (decide (K 2 ≤ huF K d)) = 0
    · rw [if_pos (show nI (whyF K (sea K false 0 (K 0)).1 b d (decide (K 2 ≤ huF K d))) = 0 from congrArg nI c), if_pos (decide_eq_true c)]
    · rw [if_neg (nI_ne0 (by omega) (by omega)), if_neg (fun z => c (of_decide_eq_true z))]
theorem openM35_L (W : WF K) (S : MS K false 0 w (K 0)) {s d m : Nat} (hs : s ≤ 1) (hd : d < K 0) (Q : HW → Int32 → Int32 → Option (Int32 × HW)) : ∀ F i, i ≤ K 5 → K 5 - i < F → fX10_open_35 Q (nI s) (nI d) F w (nI (if opB K s d i = true then m ||| 2 ^ d else m)) (nI i) = Q w (nI (if opB K s d (K 5) = true then m ||| 2 ^ d else m)) (nI (d + 1)) := by
  have hb := W.b
  intro F
  induction F with
  | zero => intro i a b; omega
  | succ F ih =>
    intro i a b
    rw [fX10_open_35, if_pos (show inB 5 77 = true from rfl), ix_5, S.1.r5]
    by_cases hi : i < K 5
    · have hB := W.bil hi
      have hab := aB_le W i
      have i1 := ih (i + 1) (by omega) (by omega)
      rw [opB] at i1
      rw [if_pos (nI_lt hi (by omega)), X10_of_0 S.1 W hi, bI_some, if_pos (inB_nI (by omega) (by omega)), if_pos (inB_nI (by omega) (by omega)), ix_nI (by omega), S.2.2.2.2.1 i (by omega)]
      have st := fun t => openM84 (m := if opB K s d i = true then m ||| 2 ^ d else m) W S hi hd Q (fun w x2 x4 => fX10_open_35 Q (nI s) (nI d) F w x2 x4) (nI s) t
      have fin : ∀ t : Bool, ((decide (K (33 + 3 * i) = s) && cpF K i d) = (t && decide (whyF K (sea K false 0 (K 0)).1 i d (decide (K 2 ≤ huF K d)) = 0))) → fX10_open_84 w Q (fun w x2 x4 => fX10_open_35 Q (nI s) (nI d) F w x2 x4) (nI s) (nI (if opB K s d i = true then m ||| 2 ^ d else m)) (nI d) (nI i) (b01 t) = Q w (nI (if opB K s d (K 5) = true then m ||| 2 ^ d else m)) (nI (d + 1)) := by
        intro t ht
        rw [st t, ← ht]
        cases q : (decide (K (33 + 3 * i) = s) && cpF K i d)
        · rw [q, Bool.or_false] at i1
          rw [if_neg (by decide)]; exact i1
        · rw [q, Bool.or_true, if_pos rfl] at i1
          rw [if_pos rfl]
          cases opB K s d i
          · exact i1
          · rw [if_pos rfl, or_pow_twice]; exact i1
      by_cases c : K (33 + 3 * i) = s
      · rw [if_pos (congrArg nI c)]
        by_cases c2 : aB K i = 0
        · rw [if_neg (fun z => z ((aI_m1 (by omega)).mpr c2))]
          exact fin true (by unfold cpF; rw [decide_eq_true c, decide_eq_true c2]; simp)
        · rw [if_pos (fun z => c2 ((aI_m1 (by omega)).mp z))]
          by_cases c3 : aB K i = d + 1
          · rw [if_pos (by rw [c3, aI_s])]
            exact fin true (by unfold cpF; rw [decide_eq_true c, decide_eq_true c3]; simp)
          · rw [if_neg (fun z => c3 ((aI_nI (by omega) (by omega)).mp z.symm))]
            exact fin false (by unfold cpF; rw [decide_eq_false c2, decide_eq_false c3]; simp)
      · rw [if_neg (fun z => c ((nI_eqv (by omega) (by omega)).mp z))]
        exact fin false (by rw [decide_eq_false c]; rfl)
    · have e : i = K 5 := by omega
      rw [if_neg (nI_nlt (by omega) (by omega)), e, nI_1]
theorem openM22_L (W : WF K) (S : MS K false 0 w (K 0)) {s : Nat} (hs : s ≤ 1) : ∀ F i, i ≤ K 0 → K 0 - i < F → fX10_open_22 (nI s) F w (nI (bS (fun d => opB K s d (K 5)) i)) (nI i) = some (nI (bS (fun d => opB K s d (K 5)) (K 0)), w) := by
  have hb := W.b
  intro F
  induction F with
  | zero => intro i a b; omega
  | succ F ih =>
    intro i a b
    rw [fX10_open_22, if_pos (show inB 0 77 = true from rfl), ix_0, S.1.r0]
    by_cases hi : i < K 0
    · have i1 := ih (i + 1) (by omega) (by omega)
      rw [bS] at i1
      rw [if_pos (nI_lt hi (by omega))]
      exact (openM35_L W S (m := bS (fun d => opB K s d (K 5)) i) hs hi (fun w x2 x3 => fX10_open_22 (nI s) F w x2 x3) FU 0 (by omega) (by rw [FU_eq]; omega)).trans i1
    · have e : i = K 0 := by omega
      rw [if_neg (nI_nlt (by omega) (by omega)), e]
end OPN
theorem ag_open {w : HW} (H : Rel w) (x : Int32) : Agree w (fX9_open · x) (fX10_open · x) := by
  obtain ⟨HO, K, W, HR, kn, ks, HN, HC⟩ := id H
  have hb := W.b
  by_cases h : 0 < K 7 ∧ (x = 0 ∨ x = 1)
  · obtain ⟨s, hs, rfl⟩ := side_of h.2
    obtain ⟨w1, p1, p2, p3⟩ := play_sx W HN HC
    have ex : fX9_open w (nI s) = some (nI (bS (fun d => opB K s d (K 5)) (K 0)), w1) := by
      unfold fX9_open
      simp only [now_ok HN, X0_hasSide_ok HC W, bI_some, if_b01', and_dec]
      rw [if_pos h, p1, bI_some]
      exact openX29_L W (HN.sx p3) (HC.sx p3) p2 hs FU 0 (by omega) (by rw [FU_eq]; omega)
    obtain ⟨w2, q1, q2⟩ := camp_sx W HO HR p3
    have em : fX10_open w1 (nI s) = some (nI (bS (fun d => opB K s d (K 5)) (K 0)), w2) := by
      unfold fX10_open
      rw [q1, bW_some, if_b01, if_pos (decide_eq_true h.1), X10_isSide_ok q2.1 W, bI_some, if_b01', and_dec, if_pos h]
      exact openM22_L W q2 hs FU 0 (by omega) (by rw [FU_eq]; omega)
    exact ⟨_, _, _, ex, em, (H.sx p3).sx (rX10_open Sx.rf _ _ em)⟩
  · have ex : fX9_open w x = some (-2, w) := by
      unfold fX9_open
      simp only [now_ok HN, X0_hasSide_ok HC W, bI_some, if_b01', and_dec]
      rw [if_neg h]
    obtain ⟨w2, q1, q2⟩ := camp_sx W HO HR Sx.rf
    have em : fX10_open w x = some (-2, w2) := by
      unfold fX10_open
      rw [q1, bW_some, if_b01, X10_isSide_ok q2.1 W, bI_some, if_b01', and_dec, if_neg h, ite_self]
    exact ⟨_, _, _, ex, em, H.sx (rX10_open Sx.rf _ _ em)⟩
