/-! DRAWN, LUCK -/
section LUC
variable {w : HW} {K : Nat → Nat}
theorem goDrawn33_L (W : WF K) (HR : RC w K) {V : Nat → Nat} (h89 : ∀ b, b < 8 → gI w 89 b = aI (V b)) (hV : ∀ b, V b < 100) : ∀ F i, i ≤ K 5 → K 5 - i < F → fX10_goDrawn_33 F w (nI (bS (fun b => decide (V b ≠ 0)) i)) (nI i) = some (nI (bS (fun b => decide (V b ≠ 0)) (K 5)), w) := by
  have hb := W.b
  intro F
  induction F with
  | zero => intro i a b; omega
  | succ F ih =>
    intro i a b
    rw [fX10_goDrawn_33, if_pos (show inB 5 77 = true from rfl), ix_5, HR.r5]
    by_cases hi : i < K 5
    · have hVi := hV i
      have i1 := ih (i + 1) (by omega) (by omega)
      rw [bS] at i1
      rw [if_pos (nI_lt hi (by omega)), if_pos (inB_nI (by omega) (by omega)), ix_nI (by omega), h89 i (by omega), iSl_1 (by omega), nI_or, lT_eq, lT_eq, or_0, nI_1]
      by_cases c : V i = 0
      · rw [if_neg (by simp [c])] at i1
        rw [if_pos ((aI_m1 (by omega)).mpr c)]; exact i1
      · rw [if_pos (decide_eq_true c)] at i1
        rw [if_neg (fun z => c ((aI_m1 (by omega)).mp z))]; exact i1
    · have e : i = K 5 := by omega
      rw [if_neg (nI_nlt (by omega) (by omega)), e]
theorem goDrawn_ok (W : WF K) (HR : RC w K) (C : RelC w) (x : Int64) : ∃ w', fX10_goDrawn w x = some (nI (bS (fun b => decide ((sea K true x (K 0)).1 b ≠ 0)) (K 5)), w') ∧ gI w' 79 22 = nI (sea K true x (K 0)).2.2 ∧ Sx sc w w' := by
  obtain ⟨w1, p1, p2, p3, p4, p5⟩ := layAsked_ok HR W
  have s1 : Sx sc w w1 := rX10_layAsked (w := w) Sx.rf _ p1
  obtain ⟨w2, q1, q2⟩ := goDays_ok (w := uI (uI (uL w1 79 20 x) 79 22 0) 79 21 1) (dr := true) (s0 := x) W (HR.cell (fun f => by rw [gI_uI_ne (by omega), gI_uI_ne (by omega), gI_uL]; exact p4 80 f (by omega) (by omega))) (fun d hd => by rw [gI_uI_ne (by omega), gI_uI_ne (by omega), gI_uL]; exact p2 d hd) (fun d hd => by rw [gI_uI_ne (by omega), gI_uI_ne (by omega), gI_uL]; exact p3 d hd) gI_uI_at (fun _ => ⟨by rw [gI_uI_nf (by omega), gI_uI_at], by rw [gL_uI, gL_uI, gL_uL_at]⟩)
  have s2 : Sx sc (uI (uI (uL w1 79 20 x) 79 22 0) 79 21 1) w2 := rX10_goDays (w := uI (uI (uL w1 79 20 x) 79 22 0) 79 21 1) Sx.rf _ q1
  have HR3 : RC (uI w2 79 21 0) K := q2.1.cell (fun f => gI_uI_ne (by omega))
  have e33 := goDrawn33_L (w := uI w2 79 21 0) W HR3 (V := (sea K true x (K 0)).1) (fun b hb => by rw [gI_uI_ne (by omega)]; exact q2.2.2.1 b hb) (fun b => sea_lt W true x b) FU 0 (by omega) (by have := W.b; rw [FU_eq]; omega)
  refine ⟨uI w2 79 21 0, ?_, ?_, fun c f hs => ?_⟩
  · unfold fX10_goDrawn
    rw [p1, bI_some, lT_eq, lT_eq, lT_eq, q1, bI_some, lT_eq]
    exact e33
  · rw [gI_uI_nf (by omega)]
    exact (q2.2.2.2.2.2.2.2 rfl).1
  · obtain ⟨a1, a2, a3⟩ := s1 c f hs
    obtain ⟨b1, b2, b3⟩ := s2 c f hs
    have n20 : ¬ (c = 79 ∧ f = 20) := fun z => by rw [z.1, z.2] at hs; cases hs
    have n22 : ¬ (c = 79 ∧ f = 22) := fun z => by rw [z.1, z.2] at hs; cases hs
    refine ⟨?_, ?_, ?_⟩
    · rw [gI_uI]
      by_cases h : c = 79 ∧ f = 21
      · rw [if_pos h, h.1, h.2]; exact C.1.symm
      · rw [if_neg h, b1, gI_uI, if_neg h, gI_uI, if_neg n22, gI_uL]; exact a1
    · rw [gL_uI, b2, gL_uI, gL_uI, gL_uL, if_neg n20]; exact a2
    · rw [gR_uI, b3, gR_uI, gR_uI, gR_uL]; exact a3
theorem draw_ok {kn ks : Nat} (W : WF K) (HN : RelN w kn ks) (HC : CC w kn K) (x : Int32) : ∃ w', fX6_draw w kn x = some w' ∧ CS K true x.toInt64 w' (K 0) ∧ Sx sc w w' := by
  have hkn : 26 ≤ kn := by have := HN.2.2; omega
  obtain ⟨w', p1, p2⟩ := live_ok (w := uL w 4 7 x.toInt64) (HC.of (fun c a b f => gI_uL _ _ _ _ _ _)) hkn W true x.toInt64 (fun _ => gL_uL_at)
  have e : fX6_draw w kn x = some w' := by
    unfold fX6_draw
    rw [lT_eq, show fX6_live (uL w 4 7 x.toInt64) kn 1 = some w' from p1, bI_some]
  exact ⟨w', e, p2, rX6_draw Sx.rf kn x _ e⟩
theorem X9_isSeed_ok (w : HW) (x : Int32) : fX9_isSeed w x = some (b01 (decide (0 ≤ x ∧ x < nI 2000000001))) := by
  have e1 : (nI 2000000001).toInt = 2000000001 := rfl
  have e2 : (2000000000 : Int32).toInt = 2000000000 := rfl
  unfold fX9_isSeed
  by_cases h1 : x < 0
  · rw [if_neg (fun z => z h1), decide_eq_false (fun z => by have := z.1; rw [fa_le] at this; rw [fa_lt] at h1; omega)]; rfl
  · rw [if_pos h1]
    by_cases h2 : 2000000000 < x
    · rw [if_neg (fun z => z h2), decide_eq_false (fun z => by have := z.2; rw [fa_lt] at this h2; omega)]; rfl
    · rw [if_pos h2, decide_eq_true ⟨Int32.not_lt.mp h1, by have := Int32.not_lt.mp h2; rw [fa_le] at this; rw [fa_lt]; omega⟩]; rfl
theorem X10_isSeed_ok (w : HW) (x : Int32) : fX10_isSeed w x = some (b01 (decide (0 ≤ x ∧ x < nI 2000000001))) := by
  unfold fX10_isSeed
  rw [in_lit w x 2000000000 2000000000 2000000000 rfl rfl (by omega), bI_some, if_pos (zB_b01 _)]
end LUC
theorem ag_drawn {w : HW} (H : Rel w) (x y : Int32) : Agree w (fX9_drawn · x y) (fX10_drawn · x y) := by
  obtain ⟨HO, K, W, HR, kn, ks, HN, HC⟩ := id H
  have hb := W.b
  by_cases c : (0 ≤ x ∧ x < nI 2000000001) ∧ (y = 0 ∨ y = 1) ∧ 0 < K 7
  · obtain ⟨c1, c2, c3⟩ := c
    obtain ⟨w1, p1, p2, p3⟩ := draw_ok W HN HC x
    obtain ⟨w2, q1, q2, q3⟩ := goDrawn_ok W (HR.sx p3) (HO.sx p3).2.2.1 x.toInt64
    have ex : fX9_drawn w x y = if y = 0 then some (nI (bS (fun b => decide ((sea K true x.toInt64 (K 0)).1 b ≠ 0)) (K 5)), w1) else some (nI (sea K true x.toInt64 (K 0)).2.2, w1) := by
      unfold fX9_drawn
      simp only [now_ok HN, X9_isSeed_ok, X9_isChoice_ok, X0_isTold_ok HC W, bI_some, if_b01, if_b01', ite_dec]
      rw [if_pos c1, if_pos c2, if_pos c3, p1, bI_some]
      simp only [now_ok (HN.sx p3)]
      rw [passing_ok (HC.sx p3) W p2.2.1 (fun b => sea_lt W true x.toInt64 b), bI_some, p2.2.2.2.2.2.2.1]
    have em : fX10_drawn w1 x y = if y = 0 then some (nI (bS (fun b => decide ((sea K true x.toInt64 (K 0)).1 b ≠ 0)) (K 5)), w2) else some (nI (sea K true x.toInt64 (K 0)).2.2, w2) := by
      unfold fX10_drawn
      rw [X10_isCamp_ok (HR.sx p3) W, bI_some, if_b01, if_pos (decide_eq_true c3), X10_isSeed_ok, bI_some, if_b01, if_pos (decide_eq_true c1), in_01, bI_some, if_b01', if_pos (decide_eq_true c2), q1, bW_some, q2]
    by_cases h : y = 0
    · rw [if_pos h] at ex em
      exact ⟨_, _, _, ex, em, (H.sx p3).sx q3⟩
    · rw [if_neg h] at ex em
      exact ⟨_, _, _, ex, em, (H.sx p3).sx q3⟩
  · refine ⟨-2, w, w, ?_, ?_, H⟩
    · show fX9_drawn w x y = _
      unfold fX9_drawn
      simp only [now_ok HN, X9_isSeed_ok, X9_isChoice_ok, X0_isTold_ok HC W, bI_some, if_b01, if_b01', ite_dec]
      by_cases c1 : 0 ≤ x ∧ x < nI 2000000001
      · rw [if_pos c1]
        by_cases c2 : y = 0 ∨ y = 1
        · rw [if_pos c2, if_neg (fun z => c ⟨c1, c2, z⟩)]
        · rw [if_neg c2]
      · rw [if_neg c1]
    · show fX10_drawn w x y = _
      unfold fX10_drawn
      rw [X10_isCamp_ok HR W, bI_some, if_b01, X10_isSeed_ok, bI_some, if_b01, in_01, bI_some, if_b01']
      by_cases c3 : 0 < K 7
      · rw [if_pos (decide_eq_true c3)]
        by_cases c1 : 0 ≤ x ∧ x < nI 2000000001
        · rw [if_pos (decide_eq_true c1), if_neg (fun z => c ⟨c1, of_decide_eq_true z, c3⟩)]
        · rw [if_neg (fun z => c1 (of_decide_eq_true z))]
      · rw [if_neg (fun z => c3 (of_decide_eq_true z))]
theorem luck_L {K : Nat → Nat} {kn ks : Nat} (W : WF K) {x : Int32} (hx : 0 ≤ x ∧ x < nI 2000000001) {n b : Nat} (hn : n ≤ 20) (hbl : b < K 5) : ∀ F i (w w' : HW) (a : Nat), i ≤ n → n - i < F → RelN w kn ks → CC w kn K → ∃ r w1, fX9_luck_38 x (nI n) (nI b) F w (nI a) (nI i) = some (r, w1) ∧ Sx sc w w1 ∧ (RC w' K → RelC w' → ∃ w2, fX10_luck_36 x (nI n) (nI b) F w' (nI a) (nI i) = some (r, w2) ∧ Sx sc w' w2) := by
  have hb := W.b
  intro F
  induction F with
  | zero => intro i w w' a h1 h2; omega
  | succ F ih =>
    intro i w w' a h1 h2 HN HC
    by_cases hi : i < n
    · obtain ⟨w1, p1, p2, p3⟩ := draw_ok W HN HC (x + nI i)
      have es : (x + nI i).toInt64 = x.toInt64 + (nI i).toInt64 := by
        have e1 : (nI 2000000001).toInt = 2000000001 := rfl
        have e0 : (0 : Int32).toInt = 0 := rfl
        have g1 := hx.1
        have g2 := hx.2
        rw [fa_le] at g1
        rw [fa_lt] at g2
        have ei : (nI i).toInt = i := nI_toInt (by omega)
        have ea : (x + nI i).toInt = x.toInt + i := by
          rw [Int32.toInt_add, ei]
          exact Int.bmod_eq_of_le (by omega) (by omega)
        apply Int64.toInt_inj.mp
        rw [Int32.toInt_toInt64, ea, fb_addL (by rw [Int32.toInt_toInt64, Int32.toInt_toInt64, ei]; omega) (by rw [Int32.toInt_toInt64, Int32.toInt_toInt64, ei]; omega), Int32.toInt_toInt64, Int32.toInt_toInt64, ei]
      have hv := sea_lt W true (x + nI i).toInt64 (d := K 0) b
      have st : ∀ a' : Nat, (a' = if (sea K true (x + nI i).toInt64 (K 0)).1 b = 0 then a else a + 1) → ∃ r w2, fX9_luck_38 x (nI n) (nI b) F w1 (nI a') (nI (i + 1)) = some (r, w2) ∧ Sx sc w w2 ∧ (RC w' K → RelC w' → ∃ w2, fX10_luck_36 x (nI n) (nI b) (F + 1) w' (nI a) (nI i) = some (r, w2) ∧ Sx sc w' w2) := by
        intro a' ha'
        by_cases hh : RC w' K ∧ RelC w'
        · obtain ⟨HR, C⟩ := hh
          obtain ⟨w2, q1, q2, q3⟩ := goDrawn_ok W HR C (x + nI i).toInt64
          obtain ⟨r, w3, r1, r2, r3⟩ := ih (i + 1) w1 w2 a' (by omega) (by omega) (HN.sx p3) (HC.sx p3)
          refine ⟨r, w3, r1, p3.tr r2, fun _ _ => ?_⟩
          obtain ⟨w4, t1, t2⟩ := r3 (HR.sx q3) (C.of (fun f hf => (q3 79 f (by rcases hf with rfl | rfl | rfl | rfl | rfl <;> rfl)).1))
          refine ⟨w4, ?_, q3.tr t2⟩
          rw [fX10_luck_36, if_pos (nI_lt hi (by omega)), ← es, q1, bW_some, bit_ok w2 (bS_lt31 _ (by omega)) (by omega), bI_some, lT_eq, bS_bit, decide_eq_true hbl, Bool.true_and, nI_1]
          by_cases c : (sea K true (x + nI i).toInt64 (K 0)).1 b = 0
          · rw [if_pos c] at ha'
            subst ha'
            rw [show decide ((sea K true (x + nI i).toInt64 (K 0)).1 b ≠ 0) = false by simp [c], show nI a' + b01 false = nI a' from nI_add a' 0]
            exact t1
          · rw [if_neg c] at ha'
            subst ha'
            rw [decide_eq_true c, show nI a + b01 true = nI (a + 1) from nI_add a 1]
            exact t1
        · obtain ⟨r, w3, r1, r2, r3⟩ := ih (i + 1) w1 w' a' (by omega) (by omega) (HN.sx p3) (HC.sx p3)
          exact ⟨r, w3, r1, p3.tr r2, fun h1 h2 => absurd ⟨h1, h2⟩ hh⟩
      rw [fX9_luck_38, if_pos (nI_lt hi (by omega))]
      simp only [now_ok HN]
      rw [p1, bI_some, if_pos (inB_nI (by omega) (by omega)), ix_nI (by omega), p2.2.1 b (by omega), nI_1, nI_1]
      by_cases c : (sea K true (x + nI i).toInt64 (K 0)).1 b = 0
      · rw [if_neg (fun z => z ((aI_m1 (by omega)).mpr c))]
        exact st a (by rw [if_pos c])
      · rw [if_pos (fun z => c ((aI_m1 (by omega)).mp z))]
        exact st (a + 1) (by rw [if_neg c])
    · rw [fX9_luck_38, fX10_luck_36, if_neg (nI_nlt (by omega) (by omega)), if_neg (nI_nlt (by omega) (by omega))]
      exact ⟨_, _, rfl, Sx.rf, fun _ _ => ⟨_, rfl, Sx.rf⟩⟩
theorem ag_luck {w : HW} (H : Rel w) (x y z : Int32) : Agree w (fX9_luck · x y z) (fX10_luck · x y z) := by
  obtain ⟨HO, K, W, HR, kn, ks, HN, HC⟩ := id H
  have hb := W.b
  have e1 : (1 : Int32).toInt = 1 := rfl
  have e20 : (20 : Int32).toInt = 20 := rfl
  have in20 : ∀ w : HW, fX10_in w y.toInt64 1 20 = some (if 1 ≤ y ∧ y ≤ 20 then 1 else 0) := fun w => in_ok w y 1 20
  by_cases c1 : 0 ≤ x ∧ x < nI 2000000001
  · by_cases c2 : 1 ≤ y ∧ y ≤ 20
    · have h1 : ¬ y < 1 := fun q => by have := c2.1; rw [fa_le] at this; rw [fa_lt] at q; omega
      have h2 : ¬ 20 < y := fun q => by have := c2.2; rw [fa_le] at this; rw [fa_lt] at q; omega
      by_cases c3 : 0 ≤ z ∧ z < nI (K 5)
      · obtain ⟨b, hbl, rfl⟩ := rng_of (by omega) c3
        obtain ⟨n, hn, rfl⟩ := rng_of (n := 21) (x := y) (by omega) ⟨by have := c2.1; rw [fa_le] at this ⊢; have e0 : (0 : Int32).toInt = 0 := rfl; omega, by have := c2.2; rw [fa_le] at this; rw [fa_lt]; have e : (nI 21).toInt = 21 := rfl; omega⟩
        obtain ⟨r, w1, r1, r2, _⟩ := luck_L (kn := kn) (ks := ks) W c1 (n := n) (b := b) (by omega) hbl FU 0 w w 0 (by omega) (by rw [FU_eq]; omega) HN HC
        obtain ⟨r', w1', s1, s2, s3⟩ := luck_L (kn := kn) (ks := ks) W c1 (n := n) (b := b) (by omega) hbl FU 0 w w1 0 (by omega) (by rw [FU_eq]; omega) HN HC
        rw [r1] at s1
        cases s1
        obtain ⟨w2, t1, t2⟩ := s3 (HR.sx r2) (HO.sx r2).2.2.1
        refine ⟨r, w1, w2, ?_, ?_, (H.sx r2).sx t2⟩
        · show fX9_luck w x (nI n) (nI b) = _
          unfold fX9_luck
          simp only [now_ok HN, X9_isSeed_ok, X0_hasBill_ok HC W, bI_some, if_b01, if_b01', ite_dec]
          rw [if_pos c1, if_pos h1, if_pos h2, if_pos c3]
          exact r1
        · show fX10_luck w1 x (nI n) (nI b) = _
          unfold fX10_luck
          rw [X10_isSeed_ok, bI_some, if_b01, if_pos (decide_eq_true c1), in20, if_pos c2, bI_some, if_pos (by decide), X10_isBill_ok (HR.sx r2) W, bI_some, if_b01', if_pos (decide_eq_true c3)]
          exact t1
      · refine ⟨-2, w, w, ?_, ?_, H⟩
        · show fX9_luck w x y z = _
          unfold fX9_luck
          simp only [now_ok HN, X9_isSeed_ok, X0_hasBill_ok HC W, bI_some, if_b01, if_b01', ite_dec]
          rw [if_pos c1, if_pos h1, if_pos h2, if_neg c3]
        · show fX10_luck w x y z = _
          unfold fX10_luck
          rw [X10_isSeed_ok, bI_some, if_b01, if_pos (decide_eq_true c1), in20, if_pos c2, bI_some, if_pos (by decide), X10_isBill_ok HR W, bI_some, if_b01', if_neg (fun q => c3 (of_decide_eq_true q))]
    · refine ⟨-2, w, w, ?_, ?_, H⟩
      · show fX9_luck w x y z = _
        unfold fX9_luck
        simp only [now_ok HN, X9_isSeed_ok, X0_hasBill_ok HC W, bI_some, if_b01, if_b01', ite_dec]
        rw [if_pos c1]
        by_cases h1 : y < 1
        · rw [if_neg (fun q => q h1)]
        · rw [if_pos h1]
          by_cases h2 : 20 < y
          · rw [if_neg (fun q => q h2)]
          · exact absurd ⟨Int32.not_lt.mp h1, Int32.not_lt.mp h2⟩ c2
      · show fX10_luck w x y z = _
        unfold fX10_luck
        rw [X10_isSeed_ok, bI_some, if_b01, if_pos (decide_eq_true c1), in20, if_neg c2, bI_some, if_neg (by decide)]
  · refine ⟨-2, w, w, ?_, ?_, H⟩
    · show fX9_luck w x y z = _
      unfold fX9_luck
      simp only [now_ok HN, X9_isSeed_ok, X0_hasBill_ok HC W, bI_some, if_b01, if_b01', ite_dec]
      rw [if_neg c1]
    · show fX10_luck w x y z = _
      unfold fX10_luck
      rw [X10_isSeed_ok, bI_some, if_b01, if_neg (fun q => c1 (of_decide_eq_true q))]
