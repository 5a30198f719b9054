/-! SLOTS: row, write, paste -/
/-- only slots have changed -/
theorem Rel.slots {w w' : HW} (H : Rel w) (hS : ∀ s, s < 4 → RelS w' s) (h : ∀ c f, ¬ (44 ≤ c ∧ c ≤ 51) → c ≠ 98 → c ≠ 99 → gI w' c f = gI w c f) (hR : ∀ c f, gR w' c f = gR w c f) : Rel w' := by
  obtain ⟨HO, K, HK⟩ := H
  refine ⟨⟨HO.1.of ?_ ?_ (fun i => ?_) (fun i => ?_), HO.2.1.of (fun f hf => ?_) ?_ ?_, HO.2.2.1.of (fun f hf => ?_), fun k q => (HO.2.2.2.1 k q).of ?_ ?_ (fun i q => ?_) (fun c a b f => ?_) (fun g g' K W h1 h2 => RCg.of W h1 h2), hS⟩, K, HK.of (fun f => ?_) (fun c f a b => ?_) (fun f => hR _ _)⟩
  all_goals exact h _ _ (by omega) (by omega) (by omega)
theorem cut_bits (v : BitVec 64) {m : Nat} (h0 : 0 < m) (hm : m ≤ 32) : (v <<< (64 - m)).sshiftRight (64 - m) = (v.signExtend m).signExtend 64 := by
  apply BitVec.eq_of_getLsbD_eq
  intro i hi
  rw [BitVec.getLsbD_sshiftRight, BitVec.getLsbD_signExtend, BitVec.msb_eq_getLsbD_last, BitVec.msb_eq_getLsbD_last]
  simp only [BitVec.getLsbD_shiftLeft, BitVec.getLsbD_signExtend]
  by_cases h : i < m
  · have e1 : 64 - m + i < 64 := by omega
    have e2 : ¬ 64 - m + i < 64 - m := by omega
    have e3 : 64 - m + i - (64 - m) = i := by omega
    have e4 : i < 64 := hi
    simp [h, e1, e2, e3, e4, hi]
  · have e1 : ¬ 64 - m + i < 64 := by omega
    have e4 : m - 1 < 64 := by omega
    have e5 : 64 - 1 - (64 - m) = m - 1 := by omega
    have e6 : ¬ 63 < 64 - m := by omega
    have e7 : m - 1 < m := by omega
    have e8 : 63 - (64 - m) = m - 1 := by omega
    simp [h, e1, e4, e5, e6, e7, e8, hi]
theorem cut_two (v : BitVec 64) {m : Nat} (h0 : 0 < m) (hm : m ≤ 32) : ((v.signExtend 32).signExtend m).signExtend 64 = (v.signExtend m).signExtend 64 := by
  apply BitVec.eq_of_getLsbD_eq
  intro i hi
  have e7 : m - 1 < m := by omega
  have e8 : m - 1 < 32 := by omega
  have e9 : m - 1 < 64 := by omega
  simp only [BitVec.getLsbD_signExtend, BitVec.msb_eq_getLsbD_last]
  by_cases h : i < m
  · have e1 : i < 32 := by omega
    simp [h, e1, hi, e7, e8, e9]
  · simp [h, hi, e7, e8, e9]
theorem cut_one8 {m : Nat} (v : BitVec m) (hm : m ≤ 32) : ((v.signExtend 32).signExtend 64) = v.signExtend 64 := by
  apply BitVec.eq_of_getLsbD_eq
  intro i hi
  simp only [BitVec.getLsbD_signExtend, BitVec.msb_eq_getLsbD_last]
  by_cases h : i < 32
  · simp [h, hi]
  · have e1 : ¬ i < m := by omega
    simp only [h, hi, e1, if_false, decide_true, Bool.true_and]
    by_cases e2 : 31 < m
    · have e3 : m = 32 := by omega
      subst e3; simp
    · simp [e2]
theorem cut_ok {w w' : HW} {k d : Nat} (hd : d ≤ 3) (h : gI w k 1 = nI d) (x : Int64) : ∃ r, fX5_cut w k x = some r ∧ fX10_cut w' x (nI d) = some r := by
  unfold fX5_cut fX10_cut
  rw [h, lT_eq]
  rcases (show d = 0 ∨ d = 1 ∨ d = 2 ∨ d = 3 by omega) with rfl | rfl | rfl | rfl
  · refine ⟨_, if_pos rfl, congrArg some ?_⟩
    apply Int64.toBitVec_inj.mp
    show (x.toBitVec <<< (64 - 8)).sshiftRight (64 - 8) = (((x.toBitVec.signExtend 32).signExtend 8).signExtend 32).signExtend 64
    rw [cut_bits _ (by omega) (by omega), ← cut_two _ (by omega) (by omega)]
    exact (cut_one8 _ (by omega)).symm
  · refine ⟨_, (if_neg (by decide)).trans (if_pos rfl), congrArg some ?_⟩
    apply Int64.toBitVec_inj.mp
    show (x.toBitVec <<< (64 - 16)).sshiftRight (64 - 16) = (((x.toBitVec.signExtend 32).signExtend 16).signExtend 32).signExtend 64
    rw [cut_bits _ (by omega) (by omega), ← cut_two _ (by omega) (by omega)]
    exact (cut_one8 _ (by omega)).symm
  · refine ⟨_, (if_neg (by decide)).trans ((if_neg (by decide)).trans (if_pos rfl)), congrArg some ?_⟩
    apply Int64.toBitVec_inj.mp
    show (x.toBitVec <<< (64 - 32)).sshiftRight (64 - 32) = (x.toBitVec.signExtend 32).signExtend 64
    rw [cut_bits _ (by omega) (by omega)]
  · refine ⟨_, (if_neg (by decide)).trans ((if_neg (by decide)).trans (if_neg (by decide))), congrArg some ?_⟩
    apply Int64.toBitVec_inj.mp
    show (x.toBitVec <<< 0).sshiftRight 0 = x.toBitVec
    simp
theorem X9_hasSlot_ok (w : HW) (x : Int32) : fX9_hasSlot w x = some (b01 (decide (0 ≤ x ∧ x < nI 4))) := in_dec (n := 4) (by omega) _ rfl
theorem X10_isSlot_ok (w : HW) (x : Int32) : fX10_isSlot w x = some (b01 (decide (0 ≤ x ∧ x < nI 4))) := by
  unfold fX10_isSlot
  rw [in_lit w x 3 3 3 rfl rfl (by omega), bI_some, if_pos (zB_b01 _)]
theorem gL_uL_ne {w : HW} {c f a b : Nat} {v : Int64} (h : a ≠ c) : gL (uL w c f v) a b = gL w a b := by rw [gL_uL, if_neg (fun z => h z.1)]
theorem gL_uL_nf {w : HW} {c f b : Nat} {v : Int64} (h : b ≠ f) : gL (uL w c f v) c b = gL w c b := by rw [gL_uL, if_neg (fun z => h z.2)]
theorem gL_uL_at {w : HW} {c f : Nat} {v : Int64} : gL (uL w c f v) c f = v := by rw [gL_uL, if_pos ⟨rfl, rfl⟩]
theorem begin_L {k : Nat} : ∀ F i (w : HW), i ≤ 60 → 60 - i < F → ∃ w', fX5_begin_12 k F w (nI i) = some w' ∧ (∀ j, i ≤ j → j < 60 → gL w' (k + 1) j = 0) ∧ (∀ c j, (c ≠ k + 1 ∨ j < i) → gL w' c j = gL w c j) ∧ (∀ c f, gI w' c f = gI w c f) ∧ (∀ c f, gR w' c f = gR w c f) := by
  intro F
  induction F with
  | zero => intro i w h1 h2; omega
  | succ F ih =>
    intro i w h1 h2
    rw [fX5_begin_12]
    by_cases hi : i < 60
    · rw [if_pos (show nI i < 60 from nI_lt (b := 60) hi (by omega)), if_pos (inB_nI (by omega) (by omega)), ix_nI (by omega), lT_eq, nI_1]
      obtain ⟨w', e, a1, a2, a3, a4⟩ := ih (i + 1) (uL w (k + 1) i 0) (by omega) (by omega)
      refine ⟨w', e, fun j p q => ?_, fun c j p => ?_, a3, a4⟩
      · by_cases hj : j = i
        · subst hj
          rw [a2 _ _ (by omega), gL_uL_at]
        · exact a1 j (by omega) q
      · rw [a2 c j (by omega), gL_uL, if_neg (by omega)]
    · rw [if_neg (show ¬ nI i < 60 from nI_nlt (b := 60) (by omega) (by omega))]
      exact ⟨_, rfl, fun j p q => by omega, fun c j p => rfl, fun c f => rfl, fun c f => rfl⟩
theorem idx60 {k i : Nat} : (60 : Int32) * nI k + nI i = nI (60 * k + i) := by
  rw [show (60 : Int32) = nI 60 from rfl, pk_mul, nI_add]
theorem rowR_L {k : Nat} (hk : k < 4) : ∀ F i (w : HW), i ≤ 60 → 60 - i < F → ∃ w', fX10_row_52 (nI k) F w (nI i) = some (0, w') ∧ (∀ j, i ≤ j → j < 60 → gL w' 100 (60 * k + j) = 0) ∧ (∀ c j, (c ≠ 100 ∨ j < 60 * k + i ∨ 60 * k + 60 ≤ j) → gL w' c j = gL w c j) ∧ (∀ c f, gI w' c f = gI w c f) ∧ (∀ c f, gR w' c f = gR w c f) := by
  intro F
  induction F with
  | zero => intro i w h1 h2; omega
  | succ F ih =>
    intro i w h1 h2
    rw [fX10_row_52]
    by_cases hi : i < 60
    · rw [if_pos (show nI i < 60 from nI_lt (b := 60) hi (by omega)), idx60, if_pos (inB_nI (by omega) (by omega)), ix_nI (by omega), lT_eq, nI_1]
      obtain ⟨w', e, a1, a2, a3, a4⟩ := ih (i + 1) (uL w 100 (60 * k + i) 0) (by omega) (by omega)
      refine ⟨w', e, fun j p q => ?_, fun c j p => ?_, a3, a4⟩
      · by_cases hj : j = i
        · subst hj
          rw [a2 _ _ (by omega), gL_uL_at]
        · exact a1 j (by omega) q
      · rw [a2 c j (by omega), gL_uL, if_neg (by omega)]
    · rw [if_neg (show ¬ nI i < 60 from nI_nlt (b := 60) (by omega) (by omega))]
      exact ⟨_, rfl, fun j p q => by omega, fun c j p => rfl, fun c f => rfl, fun c f => rfl⟩
/-- the slot s has been changed on both sides -/
theorem RelS.at {w w' : HW} {s t : Nat} (H : RelS w s) (hs : s ≠ t) (h1 : ∀ c f, c ≠ 44 + 2 * t → (c ≠ 98 ∨ f ≠ t) → (c ≠ 99 ∨ f ≠ t) → gI w' c f = gI w c f) (h2 : ∀ c f, c ≠ 45 + 2 * t → (c ≠ 100 ∨ f < 60 * t ∨ 60 * t + 60 ≤ f) → c ≠ 101 → gL w' c f = gL w c f) (q : s < 4) (q2 : t < 4) : RelS w' s := by
  refine H.of (fun i qi => ?_) (fun i qi => ?_) (fun f => ?_) ?_ ?_
  · exact h2 _ _ (by omega) (by omega) (by omega)
  · exact h2 _ _ (by omega) (by omega) (by omega)
  all_goals exact h1 _ _ (by omega) (by omega) (by omega)
theorem in_03 (w : HW) (x : Int32) : fX10_in w x.toInt64 0 3 = some (b01 (decide (0 ≤ x ∧ x < nI 4))) := in_lit w x 3 3 3 rfl rfl (by omega)
theorem ag_row {w : HW} (H : Rel w) (x y z : Int32) : Agree w (fX9_row · x y z) (fX10_row · x y z) := by
  have HO := H.1
  have hn : ∀ v : HW, (¬ (0 ≤ x ∧ x < nI 4)) → fX9_row v x y z = some (-2, v) ∧ fX10_row v x y z = some (-2, v) := by
    intro v c
    unfold fX9_row fX10_row
    rw [X9_hasSlot_ok, X10_isSlot_ok, bI_some, bI_some, if_b01, if_b01, if_neg (fun z => c (of_decide_eq_true z)), if_neg (fun z => c (of_decide_eq_true z))]
    exact ⟨rfl, rfl⟩
  by_cases c : 0 ≤ x ∧ x < nI 4
  · obtain ⟨s, hs, rfl⟩ := rng_of (by omega) c
    have e1 : fX9_row w (nI s) y z = if 0 ≤ y ∧ y < nI 4 then (if 60 < z then some (-2, w) else if z < 0 then some (-3, w) else bI (fX5_begin w (44 + 2 * s) y z) fun w_10 => some (0, w_10)) else some (-2, w) := by
      unfold fX9_row
      rw [X9_hasSlot_ok, bI_some, if_b01, if_pos (decide_eq_true c), if_pos (inB_nI (by omega) (by omega)), ix_nI (by omega)]
      by_cases h1 : y < 0
      · rw [if_neg (fun z => z h1), if_neg (fun z => by have := z.1; rw [fa_le] at this; rw [fa_lt] at h1; omega)]
      · rw [if_pos h1]
        by_cases h2 : (3 : Int32) < y
        · rw [if_neg (fun z => z h2), if_neg (fun z => by have := z.2; rw [fa_lt] at this h2; have e : (nI 4).toInt = 4 := rfl; have e2 : (3 : Int32).toInt = 3 := rfl; omega)]
        · rw [if_pos h2, if_pos (show 0 ≤ y ∧ y < nI 4 from ⟨Int32.not_lt.mp h1, by have := Int32.not_lt.mp h2; rw [fa_le] at this; rw [fa_lt]; have e : (nI 4).toInt = 4 := rfl; have e2 : (3 : Int32).toInt = 3 := rfl; omega⟩)]
    have e2 : ∀ v, fX10_row v (nI s) y z = if 0 ≤ y ∧ y < nI 4 then (if 60 < z then some (-2, v) else if z < 0 then some (-3, v) else fX10_row_52 (nI s) FU (uI (uI v 98 s z) 99 s y) 0) else some (-2, v) := by
      intro v
      unfold fX10_row
      rw [X10_isSlot_ok, bI_some, if_b01, if_pos (decide_eq_true c), in_03, bI_some, if_b01, if_pos (inB_nI (by omega) (by omega)), ix_nI (by omega), ite_dec]
      simp only [if_pos (inB_nI (N := 4) hs (by omega)), lT_eq]
    by_cases c1 : 0 ≤ y ∧ y < nI 4
    · by_cases c2 : 60 < z
      · exact ⟨_, _, _, e1.trans ((if_pos c1).trans (if_pos c2)), (e2 w).trans ((if_pos c1).trans (if_pos c2)), H⟩
      · by_cases c3 : z < 0
        · exact ⟨_, _, _, e1.trans ((if_pos c1).trans ((if_neg c2).trans (if_pos c3))), (e2 w).trans ((if_pos c1).trans ((if_neg c2).trans (if_pos c3))), H⟩
        · obtain ⟨d, hd, rfl⟩ := rng_of (by omega) c1
          obtain ⟨n, hn, rfl⟩ := rng_of (n := 61) (x := z) (by omega) ⟨Int32.not_lt.mp c3, by have := Int32.not_lt.mp c2; rw [fa_le] at this; rw [fa_lt]; have e : (nI 61).toInt = 61 := rfl; have e2 : (60 : Int32).toInt = 60 := rfl; omega⟩
          obtain ⟨w1, b0, b1, b2, b3, b4⟩ := begin_L (k := 44 + 2 * s) FU 0 (uI (uI w (44 + 2 * s) 1 (nI d)) (44 + 2 * s) 2 (nI n)) (by omega) (by rw [FU_eq]; omega)
          have e3 : fX9_row w (nI s) (nI d) (nI n) = some (0, w1) := by
            rw [e1, if_pos c1, if_neg c2, if_neg c3]
            unfold fX5_begin
            rw [lT_eq, lT_eq, show (0 : Int32) = nI 0 from rfl, b0, bI_some]
          obtain ⟨w2, r0, r1, r2, r3, r4⟩ := rowR_L (k := s) hs FU 0 (uI (uI w1 98 s (nI n)) 99 s (nI d)) (by omega) (by rw [FU_eq]; omega)
          have e4 : fX10_row w1 (nI s) (nI d) (nI n) = some (0, w2) := by
            rw [e2, if_pos c1, if_neg c2, if_neg c3]
            exact r0
          have g : ∀ c f, c ≠ 44 + 2 * s → (c ≠ 98 ∨ f ≠ s) → (c ≠ 99 ∨ f ≠ s) → gI w2 c f = gI w c f := by
            intro c f h1 h2 h3
            rw [r3, gI_uI, if_neg (by omega), gI_uI, if_neg (by omega), b3, gI_uI_ne h1, gI_uI_ne h1]
          refine ⟨_, _, _, e3, e4, H.slots (fun t ht => ?_) (fun c f h1 h2 h3 => g c f (by omega) (by omega) (by omega)) (fun c f => (r4 c f).trans (b4 c f))⟩
          by_cases hst : t = s
          · subst hst
            refine ⟨fun i hi => ?_, Or.inr ⟨d, n, by omega, by omega, ?_, ?_, ?_, ?_⟩⟩
            · rw [r1 i (by omega) hi, r2 _ _ (by omega)]
              show gL w1 (45 + 2 * t) i = 0
              rw [show 45 + 2 * t = 44 + 2 * t + 1 by omega]
              exact b1 i (by omega) hi
            · rw [r3, gI_uI_ne (by omega), gI_uI_ne (by omega), b3, gI_uI_nf (by omega), gI_uI_at]
            · rw [r3, gI_uI_ne (by omega), gI_uI_ne (by omega), b3, gI_uI_at]
            · rw [r3, gI_uI_ne (by omega), gI_uI_at]
            · rw [r3, gI_uI_at]
          · refine (HO.2.2.2.2 t ht).at hst g (fun c f h1 h2 h3 => ?_) ht hs
            rw [r2 _ _ (by omega)]
            exact b2 c f (Or.inl (by omega))
    · exact ⟨_, _, _, e1.trans (if_neg c1), (e2 w).trans (if_neg c1), H⟩
  · exact ⟨_, _, _, (hn w c).1, (hn w c).2, H⟩
theorem RelS.none_iff {w : HW} {s : Nat} (H : RelS w s) : gI w (44 + 2 * s) 1 = -1 ↔ gI w 98 s = -1 := by
  rcases H.2 with ⟨h1, h2⟩ | ⟨d, n, hd, hn, h1, h2, h3, h4⟩
  · exact ⟨fun _ => h2, fun _ => h1⟩
  · rw [h1, h3]
    exact ⟨fun z => absurd z (nI_ne_m1 (by omega)), fun z => absurd z (nI_ne_m1 (by omega))⟩
theorem isThere_s {w : HW} {k d : Nat} (h : gI w k 1 = nI d) (hd : d ≤ 3) : fX5_isThere w k = some 1 := by
  unfold fX5_isThere
  rw [if_pos (by rw [h]; exact nI_ne_m1 (by omega))]
theorem isThere_n {w : HW} {k : Nat} (h : gI w k 1 = -1) : fX5_isThere w k = some 0 := by
  unfold fX5_isThere
  rw [if_neg (fun z => z h)]
theorem ag_write {w : HW} (H : Rel w) (x y : Int32) (v : Int64) : Agree w (fX9_write · x y v) (fX10_write · x y v) := by
  have HO := H.1
  by_cases c : 0 ≤ x ∧ x < nI 4
  · obtain ⟨s, hs, rfl⟩ := rng_of (by omega) c
    have HS := HO.2.2.2.2 s hs
    rcases HS.2 with ⟨h1, h2⟩ | ⟨d, n, hd, hn, h1, h2, h3, h4⟩
    · refine ⟨-6, w, w, ?_, ?_, H⟩
      · show fX9_write w (nI s) y v = _
        unfold fX9_write
        rw [X9_hasSlot_ok, bI_some, if_b01', if_pos (decide_eq_true c), if_pos (inB_nI (by omega) (by omega)), ix_nI (by omega), isThere_n h1, bI_some]
        rfl
      · show fX10_write w (nI s) y v = _
        unfold fX10_write
        rw [X10_isSlot_ok, bI_some, if_b01', if_pos (decide_eq_true c), if_pos (inB_nI (by omega) (by omega)), ix_nI (by omega), if_pos h2]
    · obtain ⟨r, q1, q2⟩ := cut_ok (w := w) (w' := w) (k := 44 + 2 * s) hd h1 v
      have e1 : fX9_write w (nI s) y v = if 0 ≤ y ∧ y < nI n then (if inB y 60 = true then some (0, uL w (44 + 2 * s + 1) (ix y) r) else none) else some (-7, w) := by
        unfold fX9_write
        rw [X9_hasSlot_ok, bI_some, if_b01', if_pos (decide_eq_true c), if_pos (inB_nI (by omega) (by omega)), ix_nI (by omega), isThere_s h1 hd, bI_some, if_neg (by decide), h2, q1, bI_some]
        by_cases k1 : y < 0
        · rw [if_neg (fun z => z k1), if_neg (fun z => by have := z.1; rw [fa_le] at this; rw [fa_lt] at k1; omega)]
        · rw [if_pos k1]
          by_cases k2 : y < nI n
          · rw [if_neg (fun z => z k2), if_pos (show 0 ≤ y ∧ y < nI n from ⟨Int32.not_lt.mp k1, k2⟩), lT_eq]
          · rw [if_pos k2, if_neg (fun z => k2 z.2)]
      have e2 : ∀ w', (gI w' 98 s = nI n) → (gI w' 99 s = nI d) → fX10_write w' (nI s) y v = if 0 ≤ y ∧ y < nI n then (if inB (60 * nI s + y) 240 = true then some (0, uL w' 100 (ix (60 * nI s + y)) r) else none) else some (-7, w') := by
        intro w' h3 h4
        obtain ⟨r', q1', q2'⟩ := cut_ok (w := w) (w' := w') (k := 44 + 2 * s) hd h1 v
        have er : r' = r := by rw [q1] at q1'; exact (Option.some.inj q1').symm
        subst er
        unfold fX10_write
        rw [X10_isSlot_ok, bI_some, if_b01', if_pos (decide_eq_true c)]
        simp only [if_pos (inB_nI (N := 4) hs (by omega)), ix_nI (show s < 2 ^ 31 by omega), h3, h4]
        rw [if_neg (nI_ne_m1 (by omega)), in_n (by omega), bI_some, if_b01', ite_dec, q2', bI_some, lT_eq]
      by_cases k1 : 0 ≤ y ∧ y < nI n
      · obtain ⟨j, hj, rfl⟩ := rng_of (by omega) k1
        rw [if_pos k1, if_pos (inB_nI (by omega) (by omega)), ix_nI (by omega)] at e1
        have e3 := e2 (uL w (44 + 2 * s + 1) j r) h3 h4
        rw [if_pos k1, idx60, if_pos (inB_nI (by omega) (by omega)), ix_nI (by omega)] at e3
        refine ⟨_, _, _, e1, e3, H.slots (fun t ht => ?_) (fun c f h1 h2 h3 => rfl) (fun c f => rfl)⟩
        by_cases hst : t = s
        · subst hst
          refine ⟨fun i hi => ?_, HS.2⟩
          have := HS.1 i hi
          rw [gL_uL_ne (by omega), gL_uL, gL_uL, gL_uL_ne (by omega), this]
          by_cases hij : i = j
          · rw [if_pos (by omega), if_pos (by omega)]
          · rw [if_neg (by omega), if_neg (by omega)]
        · refine (HO.2.2.2.2 t ht).at hst (fun c f _ _ _ => rfl) (fun c f h1 h2 h3 => ?_) ht hs
          rw [gL_uL, if_neg (by omega), gL_uL, if_neg (by omega)]
      · exact ⟨_, _, _, e1.trans (if_neg k1), (e2 w h3 h4).trans (if_neg k1), H⟩
  · refine ⟨-2, w, w, ?_, ?_, H⟩
    · show fX9_write w x y v = _
      unfold fX9_write
      rw [X9_hasSlot_ok, bI_some, if_b01', if_neg (fun z => c (of_decide_eq_true z))]
    · show fX10_write w x y v = _
      unfold fX10_write
      rw [X10_isSlot_ok, bI_some, if_b01', if_neg (fun z => c (of_decide_eq_true z))]
/-- both rows reach as far -/
theorem long_le {x z : Int32} {n : Nat} (hn : n ≤ 60) (hx : ¬ x < 0) (hz : ¬ z < 0) : (0 < lg_cmp (x.toInt64 + z.toInt64) (nI n).toInt64) ↔ ¬ (x.toInt + z.toInt ≤ n) := by
  rw [fa_lt] at hx hz
  have e0 : (0 : Int32).toInt = 0 := rfl
  have h1 := Int32.toInt_lt x
  have h2 := Int32.toInt_lt z
  have e : (x.toInt64 + z.toInt64).toInt = x.toInt + z.toInt := by
    rw [Int64.toInt_add, Int32.toInt_toInt64, Int32.toInt_toInt64]
    exact Int.bmod_eq_of_le (by omega) (by omega)
  have e2 : (nI n).toInt64.toInt = n := by rw [Int32.toInt_toInt64, nI_toInt (by omega)]
  have q : (x.toInt64 + z.toInt64 > (nI n).toInt64) ↔ ¬ (x.toInt + z.toInt ≤ n) := by
    show (nI n).toInt64 < x.toInt64 + z.toInt64 ↔ _
    rw [Int64.lt_iff_toInt_lt, e, e2]; omega
  unfold lg_cmp
  by_cases c : x.toInt64 + z.toInt64 > (nI n).toInt64
  · rw [if_pos c]; exact ⟨fun _ => q.mp c, fun _ => by decide⟩
  · rw [if_neg c]
    refine ⟨fun h => ?_, fun h => absurd (q.mpr h) c⟩
    split at h
    · exact absurd h (by decide)
    · exact absurd h (by decide)
def rch (n : Nat) (x z : Int32) : Prop := 0 ≤ x ∧ 0 ≤ z ∧ x.toInt + z.toInt ≤ n
theorem rch_nat {n : Nat} (hn : n ≤ 60) {x z : Int32} (h : rch n x z) : ∃ a m : Nat, x = nI a ∧ z = nI m ∧ a + m ≤ n := by
  obtain ⟨h1, h2, h3⟩ := h
  rw [fa_le] at h1 h2
  have e0 : (0 : Int32).toInt = 0 := rfl
  refine ⟨x.toInt.toNat, z.toInt.toNat, ?_, ?_, by omega⟩
  · apply Int32.toInt_inj.mp
    rw [nI_toInt (by omega)]; omega
  · apply Int32.toInt_inj.mp
    rw [nI_toInt (by omega)]; omega
theorem reaches_ok {w : HW} {k n : Nat} (hn : n ≤ 60) (h : gI w k 2 = nI n) (x z : Int32) : (rch n x z → fX5_reaches w k x z = some 1) ∧ (¬ rch n x z → fX5_reaches w k x z = some 0) := by
  unfold fX5_reaches rch
  rw [h]
  have e0 : (0 : Int32).toInt = 0 := rfl
  have en : (nI n).toInt = n := nI_toInt (by omega)
  by_cases h1 : x < 0
  · rw [if_neg (fun q => q h1)]
    refine ⟨fun q => ?_, fun _ => rfl⟩
    have := q.1; rw [fa_le] at this; rw [fa_lt] at h1; omega
  · rw [if_pos h1]
    by_cases h2 : z < 0
    · rw [if_neg (fun q => q h2)]
      refine ⟨fun q => ?_, fun _ => rfl⟩
      have := q.2.1; rw [fa_le] at this; rw [fa_lt] at h2; omega
    · rw [if_pos h2]
      have h1' := h1
      have h2' := h2
      rw [fa_lt] at h1' h2'
      by_cases h3 : nI n < x
      · rw [if_neg (fun q => q h3)]
        refine ⟨fun q => ?_, fun _ => rfl⟩
        have := q.2.2; rw [fa_lt] at h3; omega
      · rw [if_pos h3]
        rw [fa_lt] at h3
        have e : (nI n - x).toInt = n - x.toInt := by
          rw [Int32.toInt_sub, en]
          exact Int.bmod_eq_of_le (by omega) (by omega)
        by_cases h4 : nI n - x < z
        · rw [if_neg (fun q => q h4)]
          refine ⟨fun q => ?_, fun _ => rfl⟩
          have := q.2.2; rw [fa_lt] at h4; omega
        · rw [if_pos h4]
          refine ⟨fun _ => rfl, fun q => absurd ⟨Int32.not_lt.mp h1, Int32.not_lt.mp h2, ?_⟩ q⟩
          rw [fa_lt] at h4; omega
theorem cpB_ok {a b m : Nat} (h1 : a + m ≤ 60) (h2 : b + m ≤ 60) : cpB (nI a) (nI b) (nI m) 60 60 = true := by
  simp only [cpB, Bool.and_eq_true, decide_eq_true_eq]
  exact ⟨⟨⟨⟨nI_pos (by omega), nI_pos (by omega)⟩, nI_pos (by omega)⟩, by rw [ix_nI (by omega), ix_nI (by omega)]; omega⟩, by rw [ix_nI (by omega), ix_nI (by omega)]; omega⟩
theorem paste2_L {t b m : Nat} (ht : t < 4) (hb : b + m ≤ 60) : ∀ F i (w : HW), i ≤ m → m - i < F → ∃ w', fX10_paste_150 (nI t) (nI b) (nI m) F w (nI i) = some (0, w') ∧ (∀ j, i ≤ j → j < m → gL w' 100 (60 * t + b + j) = gL w 101 j) ∧ (∀ c j, (c ≠ 100 ∨ j < 60 * t + b + i ∨ 60 * t + b + m ≤ j) → gL w' c j = gL w c j) ∧ (∀ c f, gI w' c f = gI w c f) ∧ (∀ c f, gR w' c f = gR w c f) := by
  intro F
  induction F with
  | zero => intro i w h1 h2; omega
  | succ F ih =>
    intro i w h1 h2
    rw [fX10_paste_150]
    by_cases hi : i < m
    · rw [if_pos (nI_lt hi (by omega)), idx60, nI_add, if_pos (inB_nI (by omega) (by omega)), if_pos (inB_nI (by omega) (by omega)), ix_nI (by omega), ix_nI (by omega), lT_eq, nI_1]
      obtain ⟨w', e, a1, a2, a3, a4⟩ := ih (i + 1) (uL w 100 (60 * t + b + i) (gL w 101 i)) (by omega) (by omega)
      refine ⟨w', e, fun j p q => ?_, fun c j p => ?_, a3, a4⟩
      · by_cases hj : j = i
        · subst hj
          rw [a2 _ _ (by omega), gL_uL_at]
        · rw [a1 j (by omega) q, gL_uL_ne (by omega)]
      · rw [a2 c j (by omega), gL_uL, if_neg (by omega)]
    · rw [if_neg (nI_nlt (by omega) (by omega))]
      exact ⟨_, rfl, fun j p q => by omega, fun c j p => rfl, fun c f => rfl, fun c f => rfl⟩
theorem paste1_L {s a t b m : Nat} (hs : s < 4) (ha : a + m ≤ 60) (ht : t < 4) (hb : b + m ≤ 60) : ∀ F i (w : HW), i ≤ m → m - i < F → (∀ j, j < i → gL w 101 j = gL w 100 (60 * s + a + j)) → ∃ w', fX10_paste_113 (nI s) (nI a) (nI t) (nI b) (nI m) F w (nI i) = some (0, w') ∧ (∀ j, j < m → gL w' 100 (60 * t + b + j) = gL w 100 (60 * s + a + j)) ∧ (∀ c j, c ≠ 101 → (c ≠ 100 ∨ j < 60 * t + b ∨ 60 * t + b + m ≤ j) → gL w' c j = gL w c j) ∧ (∀ c f, gI w' c f = gI w c f) ∧ (∀ c f, gR w' c f = gR w c f) := by
  intro F
  induction F with
  | zero => intro i w h1 h2; omega
  | succ F ih =>
    intro i w h1 h2 hj
    rw [fX10_paste_113]
    by_cases hi : i < m
    · rw [if_pos (nI_lt hi (by omega)), idx60, nI_add, if_pos (inB_nI (by omega) (by omega)), if_pos (inB_nI (by omega) (by omega)), ix_nI (by omega), ix_nI (by omega), lT_eq, nI_1]
      obtain ⟨w', e, a1, a2, a3, a4⟩ := ih (i + 1) (uL w 101 i (gL w 100 (60 * s + a + i))) (by omega) (by omega) (fun j q => by
        rw [gL_uL, gL_uL_ne (by omega)]
        by_cases h : j = i
        · subst h; rw [if_pos ⟨rfl, rfl⟩]
        · rw [if_neg (by omega)]; exact hj j (by omega))
      refine ⟨w', e, fun j q => ?_, fun c j p q => ?_, a3, a4⟩
      · rw [a1 j q, gL_uL_ne (by omega)]
      · rw [a2 c j p q, gL_uL_ne p]
    · have e : i = m := by omega
      subst e
      rw [if_neg (nI_nlt (by omega) (by omega))]
      obtain ⟨w', e, a1, a2, a3, a4⟩ := paste2_L ht hb FU 0 w (by omega) (by rw [FU_eq]; omega)
      exact ⟨w', e, fun j q => (a1 j (by omega) q).trans (hj j q), fun c j p q => a2 c j (by omega), a3, a4⟩
theorem far_no {α : Type} {n n' : Nat} (hn : n ≤ 60) (hn' : n' ≤ 60) {y y' z : Int32} {A B : α} (h : ¬ (rch n y z ∧ rch n' y' z)) : (if ¬ y < 0 then (if ¬ y' < 0 then (if ¬ z < 0 then (if ¬ 0 < lg_cmp (y.toInt64 + z.toInt64) (nI n).toInt64 then (if 0 < lg_cmp (y'.toInt64 + z.toInt64) (nI n').toInt64 then A else B) else A) else A) else A) else A) = A := by
  by_cases h1 : y < 0
  · rw [if_neg (fun q => q h1)]
  · rw [if_pos h1]
    by_cases h2 : y' < 0
    · rw [if_neg (fun q => q h2)]
    · rw [if_pos h2]
      by_cases h3 : z < 0
      · rw [if_neg (fun q => q h3)]
      · rw [if_pos h3]
        by_cases h4 : y.toInt + z.toInt ≤ n
        · rw [if_pos (fun q => (long_le hn h1 h3).mp q h4)]
          by_cases h5 : y'.toInt + z.toInt ≤ n'
          · exact absurd ⟨⟨Int32.not_lt.mp h1, Int32.not_lt.mp h3, h4⟩, ⟨Int32.not_lt.mp h2, Int32.not_lt.mp h3, h5⟩⟩ h
          · rw [if_pos ((long_le hn' h2 h3).mpr h5)]
        · rw [if_neg (fun q => q ((long_le hn h1 h3).mpr h4))]
theorem ag_paste {w : HW} (H : Rel w) (x y x' y' z : Int32) : Agree w (fX9_paste · x y x' y' z) (fX10_paste · x y x' y' z) := by
  have HO := H.1
  by_cases c : 0 ≤ x ∧ x < nI 4
  · by_cases c' : 0 ≤ x' ∧ x' < nI 4
    · obtain ⟨s, hs, rfl⟩ := rng_of (by omega) c
      obtain ⟨t, ht, rfl⟩ := rng_of (by omega) c'
      have HS := HO.2.2.2.2 s hs
      have HT := HO.2.2.2.2 t ht
      have e1 : fX9_paste w (nI s) y (nI t) y' z = (bI (fX5_isThere w (44 + 2 * s)) fun r_9 =>
        if ¬ r_9 = 0 then
          bI (fX5_isThere w (44 + 2 * t)) fun r_12 =>
          if r_12 = 0 then some (-6, w) else
          if ¬ gI w (44 + 2 * s) 1 = gI w (44 + 2 * t) 1 then some (-8, w) else
          bI (fX5_reaches w (44 + 2 * s) y z) fun r_16 =>
          if ¬ r_16 = 0 then
            bI (fX5_reaches w (44 + 2 * t) y' z) fun r_19 =>
            if r_19 = 0 then some (-7, w) else
            if cpB y y' z 60 60 = true then
              some (0, uCL w (44 + 2 * s + 1) (44 + 2 * t + 1) (ix y) (ix y') (ix z))
            else none
          else some (-7, w)
        else some (-6, w)) := by
        unfold fX9_paste
        rw [X9_hasSlot_ok, bI_some, if_b01, if_pos (decide_eq_true c), X9_hasSlot_ok, bI_some, if_b01', if_pos (decide_eq_true c'), if_pos (inB_nI (by omega) (by omega)), if_pos (inB_nI (by omega) (by omega)), ix_nI (by omega), ix_nI (by omega)]
        rfl
      have e2 : ∀ v, fX10_paste v (nI s) y (nI t) y' z = if ¬ gI v 98 s = -1 then (if gI v 98 t = -1 then some (-6, v) else if ¬ gI v 99 s = gI v 99 t then some (-8, v) else
          if ¬ y < 0 then (if ¬ y' < 0 then (if ¬ z < 0 then (if ¬ 0 < lg_cmp (y.toInt64 + z.toInt64) (gI v 98 s).toInt64 then (if 0 < lg_cmp (y'.toInt64 + z.toInt64) (gI v 98 t).toInt64 then some (-7, v) else fX10_paste_113 (nI s) y (nI t) y' z FU v 0) else some (-7, v)) else some (-7, v)) else some (-7, v)) else some (-7, v)) else some (-6, v) := by
        intro v
        unfold fX10_paste
        rw [X10_isSlot_ok, bI_some, if_b01, if_pos (decide_eq_true c), X10_isSlot_ok, bI_some, if_b01', if_pos (decide_eq_true c')]
        simp only [if_pos (inB_nI (N := 4) hs (by omega)), if_pos (inB_nI (N := 4) ht (by omega)), ix_nI (show s < 2 ^ 31 by omega), ix_nI (show t < 2 ^ 31 by omega)]
      rcases HS.2 with ⟨h1, h2⟩ | ⟨d, n, hd, hn, h1, h2, h3, h4⟩
      · refine ⟨-6, w, w, e1.trans ?_, (e2 w).trans ?_, H⟩
        · rw [isThere_n h1, bI_some]; rfl
        · rw [if_neg (fun q => q h2)]
      · rcases HT.2 with ⟨k1, k2⟩ | ⟨d', n', hd', hn', k1, k2, k3, k4⟩
        · refine ⟨-6, w, w, e1.trans ?_, (e2 w).trans ?_, H⟩
          · rw [isThere_s h1 hd, bI_some, if_pos (by decide), isThere_n k1, bI_some]; rfl
          · rw [if_pos (by rw [h3]; exact nI_ne_m1 (by omega)), if_pos k2]
        · rw [isThere_s h1 hd, bI_some, if_pos (by decide), isThere_s k1 hd', bI_some, if_neg (by decide), h1, k1] at e1
          have e2' : ∀ v, (∀ c f, gI v c f = gI w c f) → fX10_paste v (nI s) y (nI t) y' z = if ¬ nI d = nI d' then some (-8, v) else
            if ¬ y < 0 then (if ¬ y' < 0 then (if ¬ z < 0 then (if ¬ 0 < lg_cmp (y.toInt64 + z.toInt64) (nI n).toInt64 then (if 0 < lg_cmp (y'.toInt64 + z.toInt64) (nI n').toInt64 then some (-7, v) else fX10_paste_113 (nI s) y (nI t) y' z FU v 0) else some (-7, v)) else some (-7, v)) else some (-7, v)) else some (-7, v) := by
            intro v hv
            rw [e2 v, hv, h3, if_pos (nI_ne_m1 (by omega)), hv, k3, if_neg (nI_ne_m1 (by omega)), hv, hv, h4, k4]
          clear e2
          by_cases q : nI d = nI d'
          · rw [if_neg (fun h => h q)] at e1
            have e2 : ∀ v, (∀ c f, gI v c f = gI w c f) → fX10_paste v (nI s) y (nI t) y' z = if ¬ y < 0 then (if ¬ y' < 0 then (if ¬ z < 0 then (if ¬ 0 < lg_cmp (y.toInt64 + z.toInt64) (nI n).toInt64 then (if 0 < lg_cmp (y'.toInt64 + z.toInt64) (nI n').toInt64 then some (-7, v) else fX10_paste_113 (nI s) y (nI t) y' z FU v 0) else some (-7, v)) else some (-7, v)) else some (-7, v)) else some (-7, v) := fun v hv => (e2' v hv).trans (if_neg (fun h => h q))
            clear e2'
            by_cases r1 : rch n y z
            · rw [(reaches_ok hn h2 _ _).1 r1, bI_some, if_pos (by decide)] at e1
              by_cases r2 : rch n' y' z
              · obtain ⟨a, m, rfl, rfl, ham⟩ := rch_nat hn r1
                obtain ⟨b, m', rfl, em, hbm⟩ := rch_nat hn' r2
                have hm : m = m' := (nI_eq (by omega) (by omega)).mp em
                subst hm
                rw [(reaches_ok hn' k2 _ _).1 r2, bI_some, if_neg (by decide), if_pos (cpB_ok (by omega) (by omega)), ix_nI (by omega), ix_nI (by omega), ix_nI (by omega)] at e1
                obtain ⟨w2, p0, p1, p2, p3, p4⟩ := paste1_L (s := s) (a := a) (t := t) (b := b) (m := m) hs (by omega) ht (by omega) FU 0 (uCL w (44 + 2 * s + 1) (44 + 2 * t + 1) a b m) (by omega) (by rw [FU_eq]; omega) (fun j q => by omega)
                have e3 := e2 (uCL w (44 + 2 * s + 1) (44 + 2 * t + 1) a b m) (fun c f => rfl)
                rw [if_pos (nI_pos (by omega)), if_pos (nI_pos (by omega)), if_pos (nI_pos (by omega)), if_pos (fun z => (long_le hn (nI_pos (by omega)) (nI_pos (by omega))).mp z r1.2.2), if_neg (fun z => (long_le hn' (nI_pos (by omega)) (nI_pos (by omega))).mp z r2.2.2)] at e3
                refine ⟨_, _, _, e1, e3.trans p0, H.slots (fun u hu => ?_) (fun c f h1 h2 h3 => (p3 c f).trans rfl) (fun c f => (p4 c f).trans rfl)⟩
                by_cases hut : u = t
                · subst hut
                  refine ⟨fun i hi => ?_, Or.inr ⟨d', n', hd', hn', (p3 _ _).trans k1, (p3 _ _).trans k2, (p3 _ _).trans k3, (p3 _ _).trans k4⟩⟩
                  rw [p2 _ _ (by omega) (by omega), gL_uCL]
                  by_cases hin : b ≤ i ∧ i < b + m
                  · obtain ⟨j, hj, rfl⟩ : ∃ j, j < m ∧ i = b + j := ⟨i - b, by omega, by omega⟩
                    rw [if_pos ⟨by omega, by omega, by omega⟩, show 60 * u + (b + j) = 60 * u + b + j by omega, p1 j hj, gL_uCL, if_neg (by omega), show 44 + 2 * s + 1 = 45 + 2 * s by omega, show b + j - b = j by omega, HS.1 _ (by omega), Nat.add_assoc]
                  · rw [if_neg (by omega), p2 _ _ (by omega) (by omega), gL_uCL, if_neg (by omega)]
                    exact HT.1 i hi
                · refine (HO.2.2.2.2 u hu).at hut (fun c f _ _ _ => (p3 c f).trans rfl) (fun c f h1 h2 h3 => ?_) hu ht
                  rw [p2 _ _ h3 (by omega), gL_uCL, if_neg (by omega)]
              · rw [(reaches_ok hn' k2 _ _).2 r2, bI_some, if_pos rfl] at e1
                exact ⟨_, _, _, e1, (e2 w (fun c f => rfl)).trans (far_no hn hn' (fun q => r2 q.2)), H⟩
            · rw [(reaches_ok hn h2 _ _).2 r1, bI_some, if_neg (by decide)] at e1
              exact ⟨_, _, _, e1, (e2 w (fun c f => rfl)).trans (far_no hn hn' (fun q => r1 q.1)), H⟩
          · rw [if_pos q] at e1
            exact ⟨_, _, _, e1, (e2' w (fun c f => rfl)).trans (if_pos q), H⟩
    · refine ⟨-2, w, w, ?_, ?_, H⟩
      · show fX9_paste w x y x' y' z = _
        unfold fX9_paste
        rw [X9_hasSlot_ok, bI_some, if_b01, if_pos (decide_eq_true c), X9_hasSlot_ok, bI_some, if_b01', if_neg (fun z => c' (of_decide_eq_true z))]
      · show fX10_paste w x y x' y' z = _
        unfold fX10_paste
        rw [X10_isSlot_ok, bI_some, if_b01, if_pos (decide_eq_true c), X10_isSlot_ok, bI_some, if_b01', if_neg (fun z => c' (of_decide_eq_true z))]
  · refine ⟨-2, w, w, ?_, ?_, H⟩
    · show fX9_paste w x y x' y' z = _
      unfold fX9_paste
      rw [X9_hasSlot_ok, bI_some, if_b01, if_neg (fun z => c (of_decide_eq_true z))]
    · show fX10_paste w x y x' y' z = _
      unfold fX10_paste
      rw [X10_isSlot_ok, bI_some, if_b01, if_neg (fun z => c (of_decide_eq_true z))]
