/-! PLANS, the calls: plan, ways, many, together, without, value -/
theorem nd_0 (s : Nat) : nd s 0 = s := by unfold nd; simp
def wR (K : Nat → Nat) : Nat → Nat := fun b => K (34 + 3 * b)
def oneR : Nat → Nat := fun _ => 1
/-- the best worth: of the bills M, with marks mk, augurs au, one day tk taken -/
def VP (K : Nat → Nat) (M mk au tk : Nat) : Nat := ((plC K M mk au tk (wR K)).W (frm K) 0).1
section PCL
variable {k kn ks : Nat} {K : Nat → Nat}
theorem byWorth_L (W : WF K) (hk : 26 ≤ k) : ∀ F b (w : HW), b ≤ K 5 → K 5 - b < F → CC w k K → (∀ c, c < b → gI w 14 c = nI (wR K c)) → ∃ w', fX3_billsByWorth_2 k F w (nI b) = some w' ∧ (∀ c, c < K 5 → gI w' 14 c = nI (wR K c)) := by
  have hb := W.b
  intro F
  induction F with
  | zero => intro b w h1 h2; omega
  | succ F ih =>
    intro b w h1 h2 HC h
    rw [fX3_billsByWorth_2, HC.c10]
    by_cases hbl : b < K 5
    · rw [if_pos (nI_lt hbl (by omega)), if_pos (inB_nI (by omega) (by omega)), if_pos (inB_nI (by omega) (by omega)), ix_nI (by omega), (HC.bil hbl).2.1, lT_eq, nI_1]
      refine ih (b + 1) _ (by omega) (by omega) (HC.of (fun c _ _ f => gI_uI_ne (by omega))) (fun c hc => ?_)
      by_cases e : c = b
      · subst e; exact gI_uI_at
      · rw [gI_uI_nf e]; exact h c (by omega)
    · rw [if_neg (nI_nlt (by omega) (by omega))]
      exact ⟨w, rfl, fun c hc => h c (by omega)⟩
theorem alike_L (W : WF K) (hk : 26 ≤ k) : ∀ F b (w : HW), b ≤ K 5 → K 5 - b < F → CC w k K → (∀ c, c < b → gI w 14 c = nI (oneR c)) → ∃ w', fX3_billsAlike_2 k F w (nI b) = some w' ∧ (∀ c, c < K 5 → gI w' 14 c = nI (oneR c)) := by
  have hb := W.b
  intro F
  induction F with
  | zero => intro b w h1 h2; omega
  | succ F ih =>
    intro b w h1 h2 HC h
    rw [fX3_billsAlike_2, HC.c10]
    by_cases hbl : b < K 5
    · rw [if_pos (nI_lt hbl (by omega)), if_pos (inB_nI (by omega) (by omega)), ix_nI (by omega), lT_eq, nI_1]
      refine ih (b + 1) _ (by omega) (by omega) (HC.of (fun c _ _ f => gI_uI_ne (by omega))) (fun c hc => ?_)
      by_cases e : c = b
      · subst e; exact gI_uI_at
      · rw [gI_uI_nf e]; exact h c (by omega)
    · rw [if_neg (nI_nlt (by omega) (by omega))]
      exact ⟨w, rfl, fun c hc => h c (by omega)⟩
theorem RelN.k26 {w : HW} (HN : RelN w kn ks) : 26 ≤ kn := by have := HN.2.2; omega
theorem worthOfPlans_ok {w : HW} (W : WF K) (HN : RelN w kn ks) (HC : CC w kn K) {M mk au tk : Nat} (hM : M < 256) (hmk : mk < 2 ^ 31) (hau : au < 2 ^ 31) (htk : tk < 2 ^ 31) : ∃ w', fX9_worthOfPlans w (nI M) (nI mk) (nI au) (nI tk) = some (nI (VP K M mk au tk), w') ∧ PX (plC K M mk au tk (wR K)) (frm K) w' ∧ TD (plC K M mk au tk (wR K)) M (frm K) w' (frm K) ∧ Sx sc w w' := by
  obtain ⟨w1, q1, q2⟩ := byWorth_L W HN.k26 FU 0 w (Nat.zero_le _) (by have := W.b; rw [FU_eq]; omega) HC (fun c hc => by omega)
  have q1' : fX3_billsByWorth w kn = some w1 := q1
  have s1 : Sx sc w w1 := rX3_billsByWorth Sx.rf _ _ q1'
  obtain ⟨w2, r1, r2, r3⟩ := solve_ok (u := wR K) (HC.sx s1) W HN.k26 hM hmk hau htk (fun b hb => ⟨(W.bil hb).2.1, q2 b hb⟩)
  have e : fX9_worthOfPlans w (nI M) (nI mk) (nI au) (nI tk) = some (nI (VP K M mk au tk), w2) := by
    unfold fX9_worthOfPlans
    simp only [now_ok HN]
    rw [q1', bI_some]
    simp only [now_ok (HN.sx s1)]
    rw [r1, bW_some]
    rfl
  exact ⟨w2, e, r2, r3, rX9_worthOfPlans Sx.rf _ _ _ _ _ e⟩
theorem sB_256 (W : WF K) (s : Nat) : sB K s < 256 := by
  have h256 : 2 ^ K 5 ≤ 2 ^ 8 := Nat.pow_le_pow_right (by omega) (by have := W.b; omega)
  have : sB K s < 2 ^ K 5 := bS_lt _ _
  omega
theorem worthOfPlan_ok {w : HW} (W : WF K) (HN : RelN w kn ks) (HC : CC w kn K) {s : Nat} (hs : s ≤ 1) : ∃ w', fX9_worthOfPlan w (nI s) = some (nI (VP K (sB K s) (K 8) 255 0), w') ∧ PX (plC K (sB K s) (K 8) 255 0 (wR K)) (frm K) w' ∧ TD (plC K (sB K s) (K 8) 255 0 (wR K)) (sB K s) (frm K) w' (frm K) ∧ Sx sc w w' := by
  obtain ⟨w1, q1, q2, q3, q4⟩ := worthOfPlans_ok (tk := 0) (au := 255) W HN HC (sB_256 W s) (lt31 W W.mk) (by omega) (by omega)
  have e : fX9_worthOfPlan w (nI s) = some (nI (VP K (sB K s) (K 8) 255 0), w1) := by
    unfold fX9_worthOfPlan
    simp only [now_ok HN]
    rw [X0_billsOf_ok HC W (by omega), bI_some, HC.c5, show fX9_worthOfPlans w (nI (sB K s)) (nI (K 8)) 255 0 = _ from q1, bW_some]
  exact ⟨w1, e, q2, q3, q4⟩
end PCL
section PCM
variable {K : Nat → Nat} {w : HW} {t28 t29 t30 s bn : Nat}
theorem RelC.rp (C : RelC w) : RP w 0 0 0 0 := ⟨C.2.1, C.2.2.1, C.2.2.2.1, C.2.2.2.2⟩
theorem ow_side (W : WF K) (hs : s ≤ 1) : ∀ b, b < K 5 → (sB K s).testBit b = ow K s 0 b := by
  intro b hb
  unfold sB ow
  rw [bS_bit, decide_eq_true hb, decide_eq_false (show ¬ s = 2 by omega), decide_eq_true (show (0 : Nat) ≠ b + 1 by omega), Bool.true_and, Bool.true_and, Bool.false_or, Bool.and_true]
  by_cases e : K (33 + 3 * b) = s
  · rw [decide_eq_true e, e]; simp
  · rw [decide_eq_false e]; simp [e]
theorem refPlans_ok (W : WF K) (hs : s ≤ 2) (HR : RC w K) (R : RP w t28 t29 t30 bn) (hbn : bn < 100) {M : Nat} (hM : ∀ b, b < K 5 → M.testBit b = ow K s bn b) (hG : 1 ≤ K 2) : ∃ w', fX10_layPlans w (nI s) = some (nI (VP K M (nd (K 8) t30) (nd 255 t29) t28), w') ∧ RC w' K ∧ OL K t28 t29 t30 s bn w' (K 5) ∧ TF K s bn (plC K M (nd (K 8) t30) (nd 255 t29) t28 (wR K)) (plC K M (nd (K 8) t30) (nd 255 t29) t28 oneR) w' 0 ∧ Sx sc w w' :=
  layPlans_ok W hs HR R hbn (PH_plC W hM hG (fun b hb => (W.bil hb).2.1)) (PH_plC W hM hG (fun b hb => (by decide : (1 : Nat) ≤ 99))) hG
theorem refPlan_ok (W : WF K) (hs : s ≤ 1) (HR : RC w K) (C : RelC w) (hG : 1 ≤ K 2) : ∃ w', fX10_layPlans w (nI s) = some (nI (VP K (sB K s) (K 8) 255 0), w') ∧ RC w' K ∧ OL K 0 0 0 s 0 w' (K 5) ∧ TF K s 0 (plC K (sB K s) (K 8) 255 0 (wR K)) (plC K (sB K s) (K 8) 255 0 oneR) w' 0 ∧ Sx sc w w' := by
  have z := refPlans_ok W (by omega) HR C.rp (by omega) (ow_side W hs) hG
  rw [nd_0, nd_0] at z
  exact z
end PCM
theorem ag_plan {w : HW} (H : Rel w) (x : Int32) : Agree w (fX9_plan · x) (fX10_plan · x) := by
  obtain ⟨HO, K, W, HR, kn, ks, HN, HC⟩ := id H
  have hb := W.b
  by_cases h : 0 < K 7 ∧ (x = 0 ∨ x = 1)
  · obtain ⟨s, hs, rfl⟩ := side_of h.2
    have hG := (W.2.2.1 h.1).2
    obtain ⟨w1, p1, _, _, p3⟩ := worthOfPlan_ok W HN HC hs
    obtain ⟨w2, q1, _, _, _, q2⟩ := refPlan_ok W hs (HR.sx p3) (HO.sx p3).2.2.1 hG
    refine ⟨nI (VP K (sB K s) (K 8) 255 0), w1, w2, ?_, ?_, (H.sx p3).sx q2⟩
    · show fX9_plan w (nI s) = some (nI (VP K (sB K s) (K 8) 255 0), w1)
      unfold fX9_plan
      simp only [now_ok HN, X0_hasSide_ok HC W, bI_some, if_b01, and_dec]
      rw [if_pos h, p1, bW_some]
    · show fX10_plan w1 (nI s) = _
      unfold fX10_plan
      rw [X10_isSide_ok (HR.sx p3) W, bI_some, if_b01, and_dec, if_pos h, q1, bW_some]
  · refine ⟨-2, w, w, ?_, ?_, H⟩
    · show fX9_plan w x = _
      unfold fX9_plan
      simp only [now_ok HN, X0_hasSide_ok HC W, bI_some, if_b01, and_dec]
      rw [if_neg h]
    · show fX10_plan w x = _
      unfold fX10_plan
      rw [X10_isSide_ok HR W, bI_some, if_b01, and_dec, if_neg h]
theorem ag_ways {w : HW} (H : Rel w) (x : Int32) : Agree w (fX9_ways · x) (fX10_ways · x) := by
  obtain ⟨HO, K, W, HR, kn, ks, HN, HC⟩ := id H
  have hb := W.b
  by_cases h : 0 < K 7 ∧ (x = 0 ∨ x = 1)
  · obtain ⟨s, hs, rfl⟩ := side_of h.2
    have hG := (W.2.2.1 h.1).2
    have hfr : frm K ≤ K 0 := Nat.min_le_left _ _
    obtain ⟨w1, p1, p2, p4, p3⟩ := worthOfPlan_ok W HN HC hs
    obtain ⟨w2, q1, q3, q4, q5, q2⟩ := refPlan_ok W hs (HR.sx p3) (HO.sx p3).2.2.1 hG
    refine ⟨((plC K (sB K s) (K 8) 255 0 (wR K)).W (frm K) 0).2, w1, w2, ?_, ?_, (H.sx p3).sx q2⟩
    · show fX9_ways w (nI s) = _
      unfold fX9_ways
      simp only [now_ok HN, X0_hasSide_ok HC W, bI_some, if_b01', and_dec]
      have z := p4 (frm K) 0 (by omega) (Nat.le_refl _) hfr (Nat.zero_and _) (Or.inr (by rw [show cB 0 14 = 0 from rfl, Nat.zero_mul, Nat.zero_add]; exact Nat.le_refl _))
      rw [Nat.add_zero] at z
      rw [if_pos h, p1, bW_some]
      unfold fX3_howManyPlans
      rw [p2.1, m256, if_pos (inB_nI (by omega) (by omega)), ix_nI (by omega), z.2, bI_some]
    · show fX10_ways w1 (nI s) = _
      have t := q5 0 (min (K 2) (K 1)) 0 (Nat.le_refl _) (Nat.zero_le _) (by omega) (Nat.two_pow_pos _)
      have hx : stR 0 (min (K 2) (K 1)) 0 < 38400 := stR_lt (by omega) (by omega) (by omega)
      have P : PH K 0 0 0 s 0 (plC K (sB K s) (nd (K 8) 0) (nd 255 0) 0 (wR K)) (wR K) := PH_plC W (ow_side W hs) hG (fun b hb => (W.bil hb).2.1)
      rw [nd_0, nd_0] at P
      unfold fX10_ways
      rw [X10_isSide_ok (HR.sx p3) W, bI_some, if_b01', and_dec, if_pos h, q1, bW_some, start_ok W q3, bI_some, if_pos (inB_nI hx (by omega)), ix_nI (by omega), t.2.1, W_frm P]
  · refine ⟨-2, w, w, ?_, ?_, H⟩
    · show fX9_ways w x = _
      unfold fX9_ways
      simp only [now_ok HN, X0_hasSide_ok HC W, bI_some, if_b01', and_dec]
      rw [if_neg h]
    · show fX10_ways w x = _
      unfold fX10_ways
      rw [X10_isSide_ok HR W, bI_some, if_b01', and_dec, if_neg h]
theorem ag_many {w : HW} (H : Rel w) (x : Int32) : Agree w (fX9_many · x) (fX10_many · x) := by
  obtain ⟨HO, K, W, HR, kn, ks, HN, HC⟩ := id H
  have hb := W.b
  by_cases h : 0 < K 7 ∧ (x = 0 ∨ x = 1)
  · obtain ⟨s, hs, rfl⟩ := side_of h.2
    have hG := (W.2.2.1 h.1).2
    obtain ⟨w0, a1, a2⟩ := alike_L W HN.k26 FU 0 w (Nat.zero_le _) (by rw [FU_eq]; omega) HC (fun c hc => by omega)
    have a1' : fX3_billsAlike w kn = some w0 := a1
    have s0 : Sx sc w w0 := rX3_billsAlike Sx.rf _ _ a1'
    obtain ⟨w1, r1, r2, r3⟩ := solve_ok (u := oneR) (M := sB K s) (mk := K 8) (au := 255) (tk := 0) (HC.sx s0) W HN.k26 (sB_256 W s) (lt31 W W.mk) (by omega) (by omega) (fun b hb => ⟨by show 1 ≤ 99; omega, a2 b hb⟩)
    have ex : fX9_many w (nI s) = some (nI ((plC K (sB K s) (K 8) 255 0 oneR).W (frm K) 0).1, w1) := by
      unfold fX9_many
      simp only [now_ok HN, X0_hasSide_ok HC W, bI_some, if_b01', and_dec]
      rw [if_pos h, a1', bI_some]
      simp only [now_ok (HN.sx s0)]
      rw [X0_billsOf_ok (HC.sx s0) W (by omega), bI_some, (HC.sx s0).c5, show fX3_solve w0 kn (nI (sB K s)) (nI (K 8)) 255 0 = _ from r1, bW_some]
    have p3 : Sx sc w w1 := rX9_many Sx.rf _ _ ex
    obtain ⟨w2, q1, q3, q4, q5, q2⟩ := refPlan_ok W hs (HR.sx p3) (HO.sx p3).2.2.1 hG
    refine ⟨_, w1, w2, ex, ?_, (H.sx p3).sx q2⟩
    show fX10_many w1 (nI s) = _
    have t := q5 0 (min (K 2) (K 1)) 0 (Nat.le_refl _) (Nat.zero_le _) (by omega) (Nat.two_pow_pos _)
    have hx : stR 0 (min (K 2) (K 1)) 0 < 38400 := stR_lt (by omega) (by omega) (by omega)
    have P : PH K 0 0 0 s 0 (plC K (sB K s) (nd (K 8) 0) (nd 255 0) 0 oneR) oneR := PH_plC W (ow_side W hs) hG (fun b hb => (by decide : (1 : Nat) ≤ 99))
    rw [nd_0, nd_0] at P
    unfold fX10_many
    rw [X10_isSide_ok (HR.sx p3) W, bI_some, if_b01', and_dec, if_pos h, q1, bW_some, start_ok W q3, bI_some, if_pos (inB_nI hx (by omega)), ix_nI (by omega), t.2.2, W_frm P]
  · refine ⟨-2, w, w, ?_, ?_, H⟩
    · show fX9_many w x = _
      unfold fX9_many
      simp only [now_ok HN, X0_hasSide_ok HC W, bI_some, if_b01', and_dec]
      rw [if_neg h]
    · show fX10_many w x = _
      unfold fX10_many
      rw [X10_isSide_ok HR W, bI_some, if_b01', and_dec, if_neg h]
theorem ag_together {w : HW} (H : Rel w) : Agree w fX9_together fX10_together := by
  obtain ⟨HO, K, W, HR, kn, ks, HN, HC⟩ := id H
  have hb := W.b
  by_cases h : 0 < K 7
  · have hG := (W.2.2.1 h).2
    have hM : 2 ^ K 5 - 1 < 256 := by
      have : 2 ^ K 5 ≤ 2 ^ 8 := Nat.pow_le_pow_right (by omega) (by omega)
      omega
    obtain ⟨w1, p1, _, _, p3⟩ := worthOfPlans_ok (tk := 0) (au := 255) W HN HC hM (lt31 W W.mk) (by omega) (by omega)
    have hMo : ∀ b, b < K 5 → (2 ^ K 5 - 1).testBit b = ow K 2 0 b := fun b hb => by
      unfold ow
      rw [Nat.testBit_two_pow_sub_one, decide_eq_true hb]
      rfl
    have z := refPlans_ok (s := 2) W (by omega) (HR.sx p3) (HO.sx p3).2.2.1.rp (by omega) hMo hG
    rw [nd_0, nd_0] at z
    obtain ⟨w2, q1, _, _, _, q2⟩ := z
    refine ⟨nI (VP K (2 ^ K 5 - 1) (K 8) 255 0), w1, w2, ?_, ?_, (H.sx p3).sx q2⟩
    · show fX9_together w = some (nI (VP K (2 ^ K 5 - 1) (K 8) 255 0), w1)
      unfold fX9_together
      simp only [now_ok HN, X0_isTold_ok HC W, bI_some, if_b01, ite_dec]
      rw [if_pos h, X0_allBills_ok HC W, bI_some, HC.c5, show fX9_worthOfPlans w (nI (2 ^ K 5 - 1)) (nI (K 8)) 255 0 = _ from p1, bW_some]
    · show fX10_together w1 = _
      unfold fX10_together
      rw [X10_isCamp_ok (HR.sx p3) W, bI_some, if_b01, if_pos (decide_eq_true h), show fX10_layPlans w1 2 = _ from q1, bW_some]
  · refine ⟨-2, w, w, ?_, ?_, H⟩
    · unfold fX9_together
      simp only [now_ok HN, X0_isTold_ok HC W, bI_some, if_b01, ite_dec]
      rw [if_neg h]
    · unfold fX10_together
      rw [X10_isCamp_ok HR W, bI_some, if_b01, if_neg (fun z => h (of_decide_eq_true z))]
/-- outside scratch nothing differs but the number at 79, f0 -/
def Sy (f0 : Nat) (w w' : HW) : Prop := ∀ c f, sc c f = false → (¬ (c = 79 ∧ f = f0) → gI w' c f = gI w c f) ∧ gL w' c f = gL w c f ∧ gR w' c f = gR w c f
theorem Sx.sy {f0 : Nat} {w w' : HW} (h : Sx sc w w') : Sy f0 w w' := fun c f q => ⟨fun _ => (h c f q).1, (h c f q).2.1, (h c f q).2.2⟩
theorem Sy.tr {f0 : Nat} {w w' w2 : HW} (h : Sy f0 w w') (h2 : Sy f0 w' w2) : Sy f0 w w2 := fun c f q => ⟨fun z => ((h2 c f q).1 z).trans ((h c f q).1 z), (h2 c f q).2.1.trans (h c f q).2.1, (h2 c f q).2.2.trans (h c f q).2.2⟩
theorem Sy.put {f0 : Nat} {w w' : HW} {v : Int32} (h : Sy f0 w w') : Sy f0 w (uI w' 79 f0 v) := fun c f q => by
  obtain ⟨h1, h2, h3⟩ := h c f q
  rw [gI_uI, gL_uI, gR_uI]
  exact ⟨fun z => by rw [if_neg z]; exact h1 z, h2, h3⟩
theorem Sy.fin {f0 : Nat} {w w' : HW} (h : Sy f0 w w') (e : gI w' 79 f0 = gI w 79 f0) : Sx sc w w' := fun c f q => by
  obtain ⟨h1, h2, h3⟩ := h c f q
  refine ⟨?_, h2, h3⟩
  by_cases z : c = 79 ∧ f = f0
  · obtain ⟨rfl, rfl⟩ := z; exact e
  · exact h1 z
theorem RC.sy {K : Nat → Nat} {f0 : Nat} {w w' : HW} (HR : RC w K) (h : Sy f0 w w') : RC w' K := HR.cell (fun f => (h 80 f (sc_hi (by simp))).1 (by omega))
section WOU
variable {K : Nat → Nat} {w : HW}
theorem ow_out (W : WF K) {b : Nat} (hb : b < K 5) : ∀ c, c < K 5 → (nd (sB K (K (33 + 3 * b))) (2 ^ b)).testBit c = ow K (K (33 + 3 * b)) (b + 1) c := by
  intro c hc
  have hB := W.bil hb
  unfold sB ow
  rw [nd_bit, bS_bit, Nat.testBit_two_pow, decide_eq_true hc, decide_eq_false (show ¬ K (33 + 3 * b) = 2 by omega)]
  by_cases e : K (33 + 3 * c) = K (33 + 3 * b)
  · by_cases e2 : b = c
    · simp [e2]
    · simp [e, e2]
  · simp [e]
theorem withoutOf_ok (W : WF K) (HR : RC w K) (C : RelC w) (hG : 1 ≤ K 2) {b : Nat} (hb : b < K 5) : ∃ w', fX10_withoutOf w (nI b) = some (nI (VP K (nd (sB K (K (33 + 3 * b))) (2 ^ b)) (K 8) 255 0), w') ∧ Sx sc w w' := by
  have hB := W.bil hb
  have hb8 := W.b
  have s1 : Sy 32 w (uI w 79 32 (nI b)) := (Sx.rf).sy.put
  have R : RP (uI w 79 32 (nI b)) 0 0 0 (b + 1) := ⟨(gI_uI_nf (by omega)).trans C.2.1, (gI_uI_nf (by omega)).trans C.2.2.1, (gI_uI_nf (by omega)).trans C.2.2.2.1, by rw [gI_uI_at, aI_s]⟩
  have z := refPlans_ok W (by omega) (HR.sy s1) R (by omega) (ow_out W hb) hG
  rw [nd_0, nd_0] at z
  obtain ⟨w2, q1, _, _, _, q2⟩ := z
  refine ⟨uI w2 79 32 (-1), ?_, ((s1.tr q2.sy).put).fin (by rw [gI_uI_at]; exact C.2.2.2.2.symm)⟩
  unfold fX10_withoutOf
  rw [lT_eq, X10_of_0 (HR.sy s1) W hb, bI_some, q1, bW_some, lT_eq]
theorem worthWithout_ok {kn ks : Nat} (W : WF K) (HN : RelN w kn ks) (HC : CC w kn K) {b : Nat} (hb : b < K 5) : ∃ w', fX9_worthWithout w (nI b) = some (nI (VP K (nd (sB K (K (33 + 3 * b))) (2 ^ b)) (K 8) 255 0), w') ∧ Sx sc w w' := by
  have hB := W.bil hb
  have hb8 := W.b
  obtain ⟨w1, p1, _, _, p3⟩ := worthOfPlans_ok (M := nd (sB K (K (33 + 3 * b))) (2 ^ b)) (tk := 0) (au := 255) W HN HC (nd_lt (n := 8) (sB_256 W _)) (lt31 W W.mk) (by omega) (by omega)
  refine ⟨w1, ?_, p3⟩
  unfold fX9_worthWithout
  simp only [now_ok HN]
  rw [if_pos (inB_nI (by omega) (by omega)), ix_nI (by omega), (HC.bil hb).1, X0_billsOf_ok HC W (by omega), bI_some, iSl_1 (by omega), nI_nd, lT_eq, HC.c5, show fX9_worthOfPlans w (nI (nd (sB K (K (33 + 3 * b))) (2 ^ b))) (nI (K 8)) 255 0 = _ from p1, bW_some]
end WOU
theorem ag_without {w : HW} (H : Rel w) (x : Int32) : Agree w (fX9_without · x) (fX10_without · x) := by
  obtain ⟨HO, K, W, HR, kn, ks, HN, HC⟩ := id H
  have hb := W.b
  by_cases h : 0 ≤ x ∧ x < nI (K 5)
  · obtain ⟨b, hbl, rfl⟩ := rng_of (by omega) h
    have h7 : 0 < K 7 := by
      have := W.2.1
      omega
    have hG := (W.2.2.1 h7).2
    obtain ⟨w1, p1, p3⟩ := worthWithout_ok W HN HC hbl
    obtain ⟨w2, q1, q2⟩ := withoutOf_ok W (HR.sx p3) (HO.sx p3).2.2.1 hG hbl
    refine ⟨nI (VP K (nd (sB K (K (33 + 3 * b))) (2 ^ b)) (K 8) 255 0), w1, w2, ?_, ?_, (H.sx p3).sx q2⟩
    · show fX9_without w (nI b) = some (nI (VP K (nd (sB K (K (33 + 3 * b))) (2 ^ b)) (K 8) 255 0), w1)
      unfold fX9_without
      simp only [now_ok HN, X0_hasBill_ok HC W, bI_some, if_b01, ite_dec]
      rw [if_pos h, p1, bW_some]
    · show fX10_without w1 (nI b) = _
      unfold fX10_without
      rw [X10_isBill_ok (HR.sx p3) W, bI_some, if_b01, if_pos (decide_eq_true h), q1, bW_some]
  · refine ⟨-2, w, w, ?_, ?_, H⟩
    · show fX9_without w x = _
      unfold fX9_without
      simp only [now_ok HN, X0_hasBill_ok HC W, bI_some, if_b01, ite_dec]
      rw [if_neg h]
    · show fX10_without w x = _
      unfold fX10_without
      rw [X10_isBill_ok HR W, bI_some, if_b01, if_neg (fun z => h (of_decide_eq_true z))]
theorem ag_value {w : HW} (H : Rel w) (x : Int32) : Agree w (fX9_value · x) (fX10_value · x) := by
  obtain ⟨HO, K, W, HR, kn, ks, HN, HC⟩ := id H
  have hb := W.b
  by_cases h : 0 ≤ x ∧ x < nI (K 5)
  · obtain ⟨b, hbl, rfl⟩ := rng_of (by omega) h
    have hB := W.bil hbl
    have h7 : 0 < K 7 := by
      have := W.2.1
      omega
    have hG := (W.2.2.1 h7).2
    obtain ⟨w1, p1, _, _, p3⟩ := worthOfPlan_ok (s := K (33 + 3 * b)) W HN HC (by omega)
    obtain ⟨w2, p4, p5⟩ := worthWithout_ok W (HN.sx p3) (HC.sx p3) hbl
    have p6 := p3.tr p5
    obtain ⟨w3, q1, _, _, _, q2⟩ := refPlan_ok (s := K (33 + 3 * b)) W (by omega) (HR.sx p6) (HO.sx p6).2.2.1 hG
    have p7 := p6.tr q2
    obtain ⟨w4, r1, r2⟩ := withoutOf_ok W (HR.sx p7) (HO.sx p7).2.2.1 hG hbl
    refine ⟨nI (VP K (sB K (K (33 + 3 * b))) (K 8) 255 0) - nI (VP K (nd (sB K (K (33 + 3 * b))) (2 ^ b)) (K 8) 255 0), w2, w4, ?_, ?_, (H.sx p7).sx r2⟩
    · show fX9_value w (nI b) = some (nI (VP K (sB K (K (33 + 3 * b))) (K 8) 255 0) - nI (VP K (nd (sB K (K (33 + 3 * b))) (2 ^ b)) (K 8) 255 0), w2)
      unfold fX9_value
      simp only [now_ok HN, X0_hasBill_ok HC W, bI_some, if_b01', ite_dec]
      rw [if_pos h, if_pos (inB_nI (by omega) (by omega)), ix_nI (by omega), (HC.bil hbl).1, p1, bW_some, p4, bW_some]
    · show fX10_value w2 (nI b) = _
      unfold fX10_value
      rw [X10_isBill_ok (HR.sx p6) W, bI_some, if_b01, if_pos (decide_eq_true h), X10_of_0 (HR.sx p6) W hbl, bI_some, q1, bW_some, r1, bW_some]
  · refine ⟨-2, w, w, ?_, ?_, H⟩
    · show fX9_value w x = _
      unfold fX9_value
      simp only [now_ok HN, X0_hasBill_ok HC W, bI_some, if_b01', ite_dec]
      rw [if_neg h]
    · show fX10_value w x = _
      unfold fX10_value
      rw [X10_isBill_ok HR W, bI_some, if_b01, if_neg (fun z => h (of_decide_eq_true z))]
