/-! SEASON, the calls -/
theorem play_sx {w : HW} {K : Nat → Nat} {kn ks : Nat} (W : WF K) (HN : RelN w kn ks) (HC : CC w kn K) : ∃ w1, fX6_play w kn = some w1 ∧ CS K false 0 w1 (K 0) ∧ Sx sc w w1 := by
  have hkn : 26 ≤ kn := by have := HN.2.2; omega
  obtain ⟨w1, p1, p2⟩ := play_ok HC hkn W
  exact ⟨w1, p1, p2, rX6_play Sx.rf kn _ p1⟩
theorem camp_sx {w w1 : HW} {K : Nat → Nat} (W : WF K) (HO : RelO w) (HR : RC w K) (hs : Sx sc w w1) : ∃ w2, fX10_asksCamp w1 = some (b01 (decide (0 < K 7)), w2) ∧ MS K false 0 w2 (K 0) :=
  asksCamp_ok W (HR.sx hs) (HO.sx hs).2.2.1
theorem day_sx {w w1 : HW} {K : Nat → Nat} (W : WF K) (HO : RelO w) (HR : RC w K) (hs : Sx sc w w1) (x : Int32) : ∃ w2, fX10_asksDay w1 x = some (b01 (decide (0 ≤ x ∧ x < nI (K 0))), w2) ∧ MS K false 0 w2 (K 0) := by
  obtain ⟨w2, q1, q2⟩ := camp_sx W HO HR hs
  unfold fX10_asksDay
  rw [q1, bW_some, X10_isDay_ok q2.1 W, bI_some, if_pos (zB_b01 _)]
  exact ⟨w2, rfl, q2⟩
theorem bill_sx {w w1 : HW} {K : Nat → Nat} (W : WF K) (HO : RelO w) (HR : RC w K) (hs : Sx sc w w1) (x : Int32) : ∃ w2, fX10_asksBill w1 x = some (b01 (decide (0 ≤ x ∧ x < nI (K 5))), w2) ∧ MS K false 0 w2 (K 0) := by
  obtain ⟨w2, q1, q2⟩ := camp_sx W HO HR hs
  unfold fX10_asksBill
  rw [q1, bW_some, X10_isBill_ok q2.1 W, bI_some, if_pos (zB_b01 _)]
  exact ⟨w2, rfl, q2⟩
theorem ag_hunger {w : HW} (H : Rel w) (x : Int32) : Agree w (fX9_hunger · x) (fX10_hunger · x) := by
  obtain ⟨HO, K, W, HR, kn, ks, HN, HC⟩ := id H
  have hb := W.b
  have ex : fX9_hunger w x = if 0 ≤ x ∧ x < nI (K 0) then (bI (fX6_play w kn) fun w_7 => if inB x 14 = true then some (gI w_7 5 (ix x), w_7) else none) else some (-2, w) := by
    unfold fX9_hunger
    simp only [now_ok HN, X0_hasDay_ok HC W, bI_some, if_b01', ite_dec]
  by_cases c : 0 ≤ x ∧ x < nI (K 0)
  · obtain ⟨d, hd, rfl⟩ := rng_of (by omega) c
    obtain ⟨w1, p1, p2, p3⟩ := play_sx W HN HC
    rw [if_pos c, p1, bI_some, if_pos (inB_nI (by omega) (by omega)), ix_nI (by omega), p2.1 d hd] at ex
    obtain ⟨w2, q1, q2⟩ := day_sx W HO HR p3 (nI d)
    have em : fX10_hunger w1 (nI d) = some (nI (huF K d), w2) := by
      unfold fX10_hunger
      rw [q1, bW_some, if_b01, if_pos (decide_eq_true c), if_pos (inB_nI (by omega) (by omega)), ix_nI (by omega), q2.2.1 d hd]
    exact ⟨_, _, _, ex, em, (H.sx p3).sx (rX10_hunger Sx.rf _ _ em)⟩
  · rw [if_neg c] at ex
    obtain ⟨w2, q1, q2⟩ := day_sx W HO HR Sx.rf x
    have em : fX10_hunger w x = some (-2, w2) := by
      unfold fX10_hunger
      rw [q1, bW_some, if_b01, if_neg (fun z => c (of_decide_eq_true z))]
    exact ⟨_, _, _, ex, em, H.sx (rX10_hunger Sx.rf _ _ em)⟩
theorem ag_when {w : HW} (H : Rel w) (x : Int32) : Agree w (fX9_when · x) (fX10_when · x) := by
  obtain ⟨HO, K, W, HR, kn, ks, HN, HC⟩ := id H
  have hb := W.b
  have ex : fX9_when w x = if 0 ≤ x ∧ x < nI (K 5) then (bI (fX6_play w kn) fun w_7 => if inB x 8 = true then some (gI w_7 7 (ix x), w_7) else none) else some (-2, w) := by
    unfold fX9_when
    simp only [now_ok HN, X0_hasBill_ok HC W, bI_some, if_b01', ite_dec]
  by_cases c : 0 ≤ x ∧ x < nI (K 5)
  · obtain ⟨b, hbl, rfl⟩ := rng_of (by omega) c
    obtain ⟨w1, p1, p2, p3⟩ := play_sx W HN HC
    rw [if_pos c, p1, bI_some, if_pos (inB_nI (by omega) (by omega)), ix_nI (by omega), p2.2.1 b (by omega)] at ex
    obtain ⟨w2, q1, q2⟩ := bill_sx W HO HR p3 (nI b)
    have em : fX10_when w1 (nI b) = some (aI ((sea K false 0 (K 0)).1 b), w2) := by
      unfold fX10_when
      rw [q1, bW_some, if_b01, if_pos (decide_eq_true c), if_pos (inB_nI (by omega) (by omega)), ix_nI (by omega), q2.2.2.1 b (by omega)]
    exact ⟨_, _, _, ex, em, (H.sx p3).sx (rX10_when Sx.rf _ _ em)⟩
  · rw [if_neg c] at ex
    obtain ⟨w2, q1, q2⟩ := bill_sx W HO HR Sx.rf x
    have em : fX10_when w x = some (-2, w2) := by
      unfold fX10_when
      rw [q1, bW_some, if_b01, if_neg (fun z => c (of_decide_eq_true z))]
    exact ⟨_, _, _, ex, em, H.sx (rX10_when Sx.rf _ _ em)⟩
theorem drw_f (K : Nat → Nat) (d : Nat) (s : Int64) (c : Nat) : drw K false d s c = (s, c, decide (K 2 ≤ huF K d)) := by
  unfold drw
  by_cases h : K 2 ≤ huF K d
  · rw [if_pos h, if_neg (by decide), decide_eq_true h]
  · rw [if_neg h, decide_eq_false h]
theorem ag_why {w : HW} (H : Rel w) (x : Int32) : Agree w (fX9_why · x) (fX10_why · x) := by
  obtain ⟨HO, K, W, HR, kn, ks, HN, HC⟩ := id H
  have hb := W.b
  have ex : fX9_why w x = if 0 ≤ x ∧ x < nI (K 5) then (bI (fX6_play w kn) fun w_7 => if inB x 8 = true then some (gI w_7 8 (ix x), w_7) else none) else some (-2, w) := by
    unfold fX9_why
    simp only [now_ok HN, X0_hasBill_ok HC W, bI_some, if_b01', ite_dec]
  by_cases c : 0 ≤ x ∧ x < nI (K 5)
  · obtain ⟨b, hbl, rfl⟩ := rng_of (by omega) c
    obtain ⟨w1, p1, p2, p3⟩ := play_sx W HN HC
    have hab := aB_le W b
    rw [if_pos c, p1, bI_some, if_pos (inB_nI (by omega) (by omega)), ix_nI (by omega), p2.2.2.2.2.2.1 b (by omega)] at ex
    obtain ⟨w2, q1, q2⟩ := bill_sx W HO HR p3 (nI b)
    have em : fX10_why w1 (nI b) = some (if aB K b = 0 ∨ K 0 < aB K b then -1 else nI (whyF K (sea K false 0 (aB K b - 1)).1 b (aB K b - 1) (drw K false (aB K b - 1) (sea K false 0 (aB K b - 1)).2.1 (sea K false 0 (aB K b - 1)).2.2).2.2), w2) := by
      unfold fX10_why
      rw [q1, bW_some, if_b01', if_pos (decide_eq_true c), if_pos (inB_nI (by omega) (by omega)), ix_nI (by omega), q2.2.2.2.2.1 b (by omega)]
      by_cases e : aB K b = 0
      · rw [if_pos (by rw [e]; rfl), if_pos (Or.inl e)]
      · obtain ⟨d, hd⟩ : ∃ d, aB K b = d + 1 := ⟨aB K b - 1, by omega⟩
        rw [if_neg (fun z => e ((aI_m1 (by omega)).mp z)), if_neg (show ¬ (aB K b = 0 ∨ K 0 < aB K b) by omega), if_pos (inB_nI (by omega) (by omega)), if_pos (inB_nI (by omega) (by omega)), hd, aI_s, doEat_ok q2.1 W (by omega) (q2.2.1 d (by omega)), bI_some, whyOn_ok q2.1 W q2.2.2.1 (fun c => sea_lt W false 0 c) hbl (by omega), bI_some, drw_f, Nat.add_sub_cancel, whyF_back W false 0 b (d := d) (n := K 0) (by omega)]
    exact ⟨_, _, _, ex, em, (H.sx p3).sx (rX10_why Sx.rf _ _ em)⟩
  · rw [if_neg c] at ex
    obtain ⟨w2, q1, q2⟩ := bill_sx W HO HR Sx.rf x
    have em : fX10_why w x = some (-2, w2) := by
      unfold fX10_why
      rw [q1, bW_some, if_b01', if_neg (fun z => c (of_decide_eq_true z))]
    exact ⟨_, _, _, ex, em, H.sx (rX10_why Sx.rf _ _ em)⟩
section SCL
variable {w : HW} {k : Nat} {K : Nat → Nat} {V : Nat → Nat}
theorem passOn_L (HC : CC w k K) (W : WF K) (h7 : ∀ b, b < 8 → gI w 7 b = aI (V b)) (hV : ∀ b, V b < 100) {d : Nat} (hd : d < 100) : ∀ F i, i ≤ K 5 → K 5 - i < F → (∀ j, j < i → V j ≠ d + 1) → ∃ r, fX6_passingOn_2 w k (nI d) F (nI i) = some r ∧ ((∃ b, b < K 5 ∧ V b = d + 1 ∧ r = nI b) ∨ ((∀ b, b < K 5 → V b ≠ d + 1) ∧ r = -1)) := by
  have hb := W.b
  intro F
  induction F with
  | zero => intro i a b; omega
  | succ F ih =>
    intro i a b hj
    rw [fX6_passingOn_2, HC.c10]
    by_cases hi : i < K 5
    · have hVi := hV i
      rw [if_pos (nI_lt hi (by omega)), if_pos (inB_nI (by omega) (by omega)), ix_nI (by omega), h7 i (by omega), nI_1]
      by_cases c : V i = d + 1
      · rw [if_pos (by rw [c, aI_s])]
        exact ⟨_, rfl, Or.inl ⟨i, hi, c, rfl⟩⟩
      · rw [if_neg (fun z => c ((aI_nI (by omega) (by omega)).mp z.symm))]
        exact ih (i + 1) (by omega) (by omega) (fun j hj2 => by
          by_cases e : j = i
          · subst e; exact c
          · exact hj j (by omega))
    · have e : i = K 5 := by omega
      subst e
      rw [if_neg (nI_nlt (by omega) (by omega))]
      exact ⟨_, rfl, Or.inr ⟨hj, rfl⟩⟩
end SCL
theorem ag_passed {w : HW} (H : Rel w) (x : Int32) : Agree w (fX9_passed · x) (fX10_passed · x) := by
  obtain ⟨HO, K, W, HR, kn, ks, HN, HC⟩ := id H
  have hb := W.b
  by_cases c : 0 ≤ x ∧ x < nI (K 0)
  · obtain ⟨d, hd, rfl⟩ := rng_of (by omega) c
    obtain ⟨w1, p1, p2, p3⟩ := play_sx W HN HC
    obtain ⟨r, r1, r2⟩ := passOn_L (HC.sx p3) W (V := (sea K false 0 (K 0)).1) p2.2.1 (fun b => sea_lt W false 0 b) (d := d) (by omega) FU 0 (by omega) (by rw [FU_eq]; omega) (fun j hj => by omega)
    have ex : fX9_passed w (nI d) = some (r, w1) := by
      unfold fX9_passed
      simp only [now_ok HN, X0_hasDay_ok HC W, bI_some, if_b01', ite_dec]
      rw [if_pos c, p1, bI_some]
      simp only [now_ok (HN.sx p3)]
      rw [show fX6_passingOn w1 kn (nI d) = some r from r1, bI_some]
    obtain ⟨w2, q1, q2⟩ := day_sx W HO HR p3 (nI d)
    have e88 : gI w2 88 d = r := by
      rw [q2.2.2.2.2.2.1 d hd]
      have key : ∀ b, (sea K false 0 (K 0)).1 b = d + 1 ↔ (aD K d = b + 2 ∧ (sea K false 0 (d + 1)).1 b = d + 1) := by
        intro b
        constructor
        · intro z
          have h1 := sea_V W false 0 b (K 0)
          have h2 : aB K b = d + 1 := by omega
          refine ⟨(aB_aD W).mp h2, ?_⟩
          have := sea_stay W false 0 b (d := d + 1) (by omega) (K 0 - (d + 1))
          rw [show d + 1 + (K 0 - (d + 1)) = K 0 by omega] at this
          rw [← this]; exact z
        · rintro ⟨h1, h2⟩
          have h3 : aB K b = d + 1 := (aB_aD W).mpr h1
          have := sea_stay W false 0 b (d := d + 1) (by omega) (K 0 - (d + 1))
          rw [show d + 1 + (K 0 - (d + 1)) = K 0 by omega] at this
          rw [this]; exact h2
      rcases r2 with ⟨b, hbl, hv, rfl⟩ | ⟨hv, rfl⟩
      · obtain ⟨h1, h2⟩ := (key b).mp hv
        rw [h1, Nat.add_sub_cancel, if_pos ⟨by omega, h2⟩]
      · rw [if_neg]
        rintro ⟨h1, h2⟩
        have hl := aD_lt W (d := d)
        exact hv (aD K d - 2) (by omega) ((key _).mpr ⟨by omega, h2⟩)
    have em : fX10_passed w1 (nI d) = some (r, w2) := by
      unfold fX10_passed
      rw [q1, bW_some, if_b01, if_pos (decide_eq_true c), if_pos (inB_nI (by omega) (by omega)), ix_nI (by omega), e88]
    exact ⟨_, _, _, ex, em, (H.sx p3).sx (rX10_passed Sx.rf _ _ em)⟩
  · have ex : fX9_passed w x = some (-2, w) := by
      unfold fX9_passed
      simp only [now_ok HN, X0_hasDay_ok HC W, bI_some, if_b01', ite_dec]
      rw [if_neg c]
    obtain ⟨w2, q1, q2⟩ := day_sx W HO HR Sx.rf x
    have em : fX10_passed w x = some (-2, w2) := by
      unfold fX10_passed
      rw [q1, bW_some, if_b01, if_neg (fun z => c (of_decide_eq_true z))]
    exact ⟨_, _, _, ex, em, H.sx (rX10_passed Sx.rf _ _ em)⟩
section EAT
variable {w : HW} {K : Nat → Nat}
theorem eatX_L {kn ks : Nat} (W : WF K) (HN : RelN w kn ks) (HC : CC w kn K) (h5 : ∀ d, d < K 0 → gI w 5 d = nI (huF K d)) : ∀ F i, i ≤ K 0 → K 0 - i < F → fX9_eat_28 F w (nI (bS (fun d => decide (K 2 ≤ huF K d)) i)) (nI i) = some (nI (bS (fun d => decide (K 2 ≤ huF K d)) (K 0)), w) := by
  have hb := W.b
  intro F
  induction F with
  | zero => intro i a b; omega
  | succ F ih =>
    intro i a b
    rw [fX9_eat_28]
    simp only [now_ok HN, HC.c1, HC.c3]
    by_cases hi : i < K 0
    · have hu := huF_le W i
      have i1 := ih (i + 1) (by omega) (by omega)
      rw [bS] at i1
      rw [if_pos (nI_lt hi (by omega)), if_pos (inB_nI (by omega) (by omega)), ix_nI (by omega), h5 i hi, iSl_1 (by omega), nI_or, lT_eq, nI_1]
      by_cases c : K 2 ≤ huF K i
      · rw [if_pos (decide_eq_true c)] at i1
        rw [if_pos (nI_nlt (by omega) (by omega))]; exact i1
      · rw [if_neg (fun z => c (of_decide_eq_true z))] at i1
        rw [if_neg (fun z => z (nI_lt (by omega) (by omega)))]; exact i1
    · have e : i = K 0 := by omega
      rw [if_neg (nI_nlt (by omega) (by omega)), e]
theorem eatM_L (W : WF K) (HR : RC w K) (h5 : ∀ d, d < K 0 → gI w 87 d = nI (huF K d)) : ∀ F i, i ≤ K 0 → K 0 - i < F → fX10_eat_14 F w (nI (bS (fun d => decide (K 2 ≤ huF K d)) i)) (nI i) = some (nI (bS (fun d => decide (K 2 ≤ huF K d)) (K 0)), w) := by
  have hb := W.b
  intro F
  induction F with
  | zero => intro i a b; omega
  | succ F ih =>
    intro i a b
    rw [fX10_eat_14, if_pos (show inB 0 77 = true from rfl), ix_0, HR.r0]
    by_cases hi : i < K 0
    · have i1 := ih (i + 1) (by omega) (by omega)
      rw [bS] at i1
      rw [if_pos (nI_lt hi (by omega)), doEat_ok HR W (by omega) (h5 i hi), bI_some, if_b01, iSl_1 (by omega), nI_or, lT_eq, lT_eq, or_0, nI_1]
      by_cases c : K 2 ≤ huF K i
      · rw [if_pos (decide_eq_true c)] at i1
        rw [if_pos (decide_eq_true c)]; exact i1
      · rw [if_neg (fun z => c (of_decide_eq_true z))] at i1
        rw [if_neg (fun z => c (of_decide_eq_true z))]; exact i1
    · have e : i = K 0 := by omega
      rw [if_neg (nI_nlt (by omega) (by omega)), e]
end EAT
theorem ag_eat {w : HW} (H : Rel w) : Agree w fX9_eat fX10_eat := by
  obtain ⟨HO, K, W, HR, kn, ks, HN, HC⟩ := id H
  have hb := W.b
  by_cases c : 0 < K 7
  · obtain ⟨w1, p1, p2, p3⟩ := play_sx W HN HC
    have ex : fX9_eat w = some (nI (bS (fun d => decide (K 2 ≤ huF K d)) (K 0)), w1) := by
      unfold fX9_eat
      simp only [now_ok HN, X0_isTold_ok HC W, bI_some, if_b01', ite_dec]
      rw [if_pos c, p1, bI_some]
      exact eatX_L W (HN.sx p3) (HC.sx p3) p2.1 FU 0 (by omega) (by rw [FU_eq]; omega)
    obtain ⟨w2, q1, q2⟩ := camp_sx W HO HR p3
    have em : fX10_eat w1 = some (nI (bS (fun d => decide (K 2 ≤ huF K d)) (K 0)), w2) := by
      unfold fX10_eat
      rw [q1, bW_some, if_b01', if_pos (decide_eq_true c)]
      exact eatM_L W q2.1 q2.2.1 FU 0 (by omega) (by rw [FU_eq]; omega)
    exact ⟨_, _, _, ex, em, (H.sx p3).sx (rX10_eat Sx.rf _ em)⟩
  · have ex : fX9_eat w = some (-2, w) := by
      unfold fX9_eat
      simp only [now_ok HN, X0_isTold_ok HC W, bI_some, if_b01', ite_dec]
      rw [if_neg c]
    obtain ⟨w2, q1, q2⟩ := camp_sx W HO HR Sx.rf
    have em : fX10_eat w = some (-2, w2) := by
      unfold fX10_eat
      rw [q1, bW_some, if_b01', if_neg (fun z => c (of_decide_eq_true z))]
    exact ⟨_, _, _, ex, em, H.sx (rX10_eat Sx.rf _ em)⟩
