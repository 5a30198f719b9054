/-! IMAGES and the feeding of the tape -/
section IMG
variable {w w' : HW} {K : Nat → Nat}
theorem CC.like {a b : Nat} (H : CC w b K) (W : WF K) (ha : isC a = true) (h1 : ∀ f, f < 7 ∨ f = 10 ∨ f = 14 → gI w' a f = gI w b f) (h2 : ∀ j i, 1 ≤ j → j ≤ 6 → i < 8 → gI w' (a + j) i = gI w (b + j) i) (h3 : ∀ j i, 7 ≤ j → j ≤ 8 → i < 20 → gI w' (a + j) i = gI w (b + j) i) : CC w' a K := by
  have hb := W.b
  obtain ⟨h0, ⟨c0, c1, c2, c3, c4, c5, c6, c10, c14⟩, hA, hB, hC⟩ := H
  refine ⟨ha, ⟨(h1 0 (by omega)).trans c0, (h1 1 (by omega)).trans c1, (h1 2 (by omega)).trans c2, (h1 3 (by omega)).trans c3, (h1 4 (by omega)).trans c4, (h1 5 (by omega)).trans c5, (h1 6 (by omega)).trans c6, (h1 10 (by omega)).trans c10, (h1 14 (by omega)).trans c14⟩, fun a q => ?_, fun b q => ?_, fun i q => ?_⟩
  · obtain ⟨x, y, z⟩ := hA a q
    exact ⟨(h2 1 a (by omega) (by omega) (by omega)).trans x, (h2 2 a (by omega) (by omega) (by omega)).trans y, (h2 3 a (by omega) (by omega) (by omega)).trans z⟩
  · obtain ⟨x, y, z⟩ := hB b q
    exact ⟨(h2 4 b (by omega) (by omega) (by omega)).trans x, (h2 5 b (by omega) (by omega) (by omega)).trans y, (h2 6 b (by omega) (by omega) (by omega)).trans z⟩
  · obtain ⟨x, y⟩ := hC i q
    exact ⟨(h3 7 i (by omega) (by omega) (by omega)).trans x, (h3 8 i (by omega) (by omega) (by omega)).trans y⟩
end IMG
theorem X9_hasImage_ok (w : HW) (x : Int32) : fX9_hasImage w x = some (b01 (decide (0 ≤ x ∧ x < nI 3))) := in_dec (n := 3) (by omega) _ rfl
theorem in_img (w : HW) (x : Int32) : fX10_in w x.toInt64 0 2 = some (b01 (decide (0 ≤ x ∧ x < nI 3))) := in_lit w x 2 2 2 rfl rfl (by omega)
theorem idx77 {k i : Nat} : (77 : Int32) * nI k + nI i = nI (77 * k + i) := by
  rw [show (77 : Int32) = nI 77 from rfl, pk_mul, nI_add]
theorem img_L {k : Nat} (hk : k < 3) : ∀ F i (w : HW), i ≤ 77 → 77 - i < F → ∃ w', fX10_image_17 (nI k) F w (nI i) = some (0, w') ∧ (∀ j, i ≤ j → j < 77 → gI w' 81 (77 * k + j) = gI w 80 j) ∧ (∀ j, (j < 77 * k + i ∨ 77 * k + 77 ≤ j) → gI w' 81 j = gI w 81 j) ∧ gI w' 82 k = 1 ∧ (∀ c f, c ≠ 81 → (c ≠ 82 ∨ f ≠ k) → gI w' c f = gI w c f) ∧ (∀ c f, gL w' c f = gL w c f) ∧ (∀ c f, gR w' c f = gR w c f) := by
  intro F
  induction F with
  | zero => intro i w h1 h2; omega
  | succ F ih =>
    intro i w h1 h2
    rw [fX10_image_17]
    by_cases hi : i < 77
    · rw [if_pos (show nI i < 77 from nI_lt (b := 77) hi (by omega)), if_pos (inB_nI (by omega) (by omega)), idx77, if_pos (inB_nI (by omega) (by omega)), ix_nI (by omega), ix_nI (by omega), lT_eq, nI_1]
      obtain ⟨w', e, a1, a2, a3, a4, a5, a6⟩ := ih (i + 1) (uI w 81 (77 * k + i) (gI w 80 i)) (by omega) (by omega)
      refine ⟨w', e, fun j p q => ?_, fun j p => ?_, a3, fun c f p q => ?_, a5, a6⟩
      · by_cases hj : j = i
        · subst hj
          rw [a2 _ (by omega), gI_uI_at]
        · rw [a1 j (by omega) q, gI_uI_ne (by omega)]
      · rw [a2 j (by omega), gI_uI_nf (by omega)]
      · rw [a4 c f p q, gI_uI_ne (by omega)]
    · rw [if_neg (show ¬ nI i < 77 from nI_nlt (b := 77) (by omega) (by omega)), if_pos (inB_nI (by omega) (by omega)), ix_nI (by omega), lT_eq]
      refine ⟨_, rfl, fun j p q => by omega, fun j p => gI_uI_ne (by omega), gI_uI_at, fun c f p q => ?_, fun c f => rfl, fun c f => rfl⟩
      rw [gI_uI, if_neg (by omega)]
theorem back_L {k : Nat} (hk : k < 3) : ∀ F i (w : HW), i ≤ 77 → 77 - i < F → ∃ w', fX10_back_29 (nI k) F w (nI i) = some (0, w') ∧ (∀ j, i ≤ j → j < 77 → gI w' 80 j = gI w 81 (77 * k + j)) ∧ (∀ j, (j < i ∨ 77 ≤ j) → gI w' 80 j = gI w 80 j) ∧ (∀ c f, c ≠ 80 → gI w' c f = gI w c f) ∧ (∀ c f, gL w' c f = gL w c f) ∧ (∀ c f, gR w' c f = gR w c f) := by
  intro F
  induction F with
  | zero => intro i w h1 h2; omega
  | succ F ih =>
    intro i w h1 h2
    rw [fX10_back_29]
    by_cases hi : i < 77
    · rw [if_pos (show nI i < 77 from nI_lt (b := 77) hi (by omega)), idx77, if_pos (inB_nI (by omega) (by omega)), if_pos (inB_nI (by omega) (by omega)), ix_nI (by omega), ix_nI (by omega), lT_eq, nI_1]
      obtain ⟨w', e, a1, a2, a4, a5, a6⟩ := ih (i + 1) (uI w 80 i (gI w 81 (77 * k + i))) (by omega) (by omega)
      refine ⟨w', e, fun j p q => ?_, fun j p => ?_, fun c f p => ?_, a5, a6⟩
      · by_cases hj : j = i
        · subst hj
          rw [a2 _ (by omega), gI_uI_at]
        · rw [a1 j (by omega) q, gI_uI_ne (by omega)]
      · rw [a2 j (by omega), gI_uI_nf (by omega)]
      · rw [a4 c f p, gI_uI_ne (by omega)]
    · rw [if_neg (show ¬ nI i < 77 from nI_nlt (b := 77) (by omega) (by omega))]
      exact ⟨_, rfl, fun j p q => by omega, fun j p => rfl, fun c f p => rfl, fun c f => rfl, fun c f => rfl⟩
theorem ag_image {w : HW} (H : Rel w) (x : Int32) : Agree w (fX9_image · x) (fX10_image · x) := by
  obtain ⟨HO, K, W, HR, kn, ks, HN, HC⟩ := id H
  have hb := W.b
  have hkn : kn = 26 ∨ kn = 35 := by have := HN.2.2; omega
  by_cases c : 0 ≤ x ∧ x < nI 3
  · obtain ⟨k, hk, rfl⟩ := rng_of (by omega) c
    have hC : isC (52 + 9 * k) = true := by rcases (show k = 0 ∨ k = 1 ∨ k = 2 by omega) with rfl | rfl | rfl <;> rfl
    obtain ⟨w1, e1, a1, a2, a3, a4, a5, a6⟩ := becomeLike_ok hC HC.1 (by omega)
    have e2 : fX9_image w (nI k) = some (0, uI w1 25 k 1) := by
      unfold fX9_image
      simp only [now_ok HN]
      rw [X9_hasImage_ok, bI_some, if_b01', if_pos (decide_eq_true c), if_pos (inB_nI (by omega) (by omega)), ix_nI (by omega), e1, bI_some, if_pos (inB_nI (by omega) (by omega)), lT_eq]
      rfl
    obtain ⟨w2, e3, b1, b2, b3, b4, b5, b6⟩ := img_L hk FU 0 (uI w1 25 k 1) (by omega) (by rw [FU_eq]; omega)
    have e4 : fX10_image (uI w1 25 k 1) (nI k) = some (0, w2) := by
      unfold fX10_image
      rw [in_img, bI_some, if_b01', if_pos (decide_eq_true c)]
      exact e3
    have g : ∀ c f, ¬ (52 + 9 * k ≤ c ∧ c ≤ 60 + 9 * k) → c ≠ 81 → (c ≠ 25 ∨ f ≠ k) → (c ≠ 82 ∨ f ≠ k) → gI w2 c f = gI w c f := by
      intro c f h1 h2 h3 h4
      rw [b4 c f h2 h4, gI_uI, if_neg (by omega), a4 c f (by omega)]
    have gl : ∀ c f, gL w2 c f = gL w c f := fun c f => (b5 c f).trans (a5 c f)
    refine ⟨_, _, _, e2, e4, ⟨HO.1.of ?_ ?_ (fun i => ?_) (fun i => ?_), HO.2.1.of (fun f hf => ?_) ?_ ?_, HO.2.2.1.of (fun f hf => ?_), fun k' q => ?_, fun s q => (HO.2.2.2.2 s q).of (fun i q => ?_) (fun i q => ?_) (fun f => ?_) ?_ ?_⟩, K, W, ?_, kn, ks, ⟨?_, ?_, HN.2.2⟩, HC.of (fun c a b f => ?_)⟩
    iterate 8 exact g _ _ (by omega) (by omega) (by omega) (by omega)
    · by_cases hkk : k' = k
      · subst hkk
        refine ⟨?_, Or.inr ⟨?_, K, W, ?_, (HC.like W hC (w' := w1) a1 a2 a3).of (fun c a b f => ?_)⟩⟩
        · rw [b3, b4 _ _ (by omega) (by omega), gI_uI_at]
        · rw [b4 _ _ (by omega) (by omega), gI_uI_at]
        · refine RCg.of (g := gI w 80) W (fun i hi => ?_) HR
          rw [b1 i (by omega) hi, gI_uI_ne (by omega), a4 _ _ (by omega)]
        · rw [b4 _ _ (by omega) (by omega), gI_uI_ne (by omega)]
      · refine (HO.2.2.2.1 k' q).of ?_ ?_ (fun i q => ?_) (fun c a b f => ?_) (fun g g' K W h1 h2 => RCg.of W h1 h2)
        · exact g _ _ (by omega) (by omega) (by omega) (by omega)
        · exact g _ _ (by omega) (by omega) (by omega) (by omega)
        · rw [b2 _ (by omega), gI_uI_ne (by omega), a4 _ _ (by omega)]
        · exact g _ _ (by omega) (by omega) (by omega) (by omega)
    · exact gl _ _
    · exact gl _ _
    iterate 3 exact g _ _ (by omega) (by omega) (by omega) (by omega)
    · unfold RC
      rw [show gI w2 80 = gI w 80 from funext fun f => g _ _ (by omega) (by omega) (by omega) (by omega)]
      exact HR
    · exact ((b6 _ _).trans (a6 _ _)).trans HN.1
    · exact ((b6 _ _).trans (a6 _ _)).trans HN.2.1
    · exact g _ _ (by omega) (by omega) (by omega) (by omega)
  · refine ⟨-2, w, w, ?_, ?_, H⟩
    · show fX9_image w x = _
      unfold fX9_image
      rw [X9_hasImage_ok, bI_some, if_b01', if_neg (fun z => c (of_decide_eq_true z))]
    · show fX10_image w x = _
      unfold fX10_image
      rw [in_img, bI_some, if_b01', if_neg (fun z => c (of_decide_eq_true z))]
theorem ag_back {w : HW} (H : Rel w) (x : Int32) : Agree w (fX9_back · x) (fX10_back · x) := by
  obtain ⟨HO, K, W, HR, kn, ks, HN, HC⟩ := id H
  have hkn : kn = 26 ∨ kn = 35 := by have := HN.2.2; omega
  by_cases c : 0 ≤ x ∧ x < nI 3
  · obtain ⟨k, hk, rfl⟩ := rng_of (by omega) c
    have hC : isC (52 + 9 * k) = true := by rcases (show k = 0 ∨ k = 1 ∨ k = 2 by omega) with rfl | rfl | rfl <;> rfl
    obtain ⟨i1, i2⟩ := HO.2.2.2.1 k hk
    rcases i2 with i2 | ⟨i2, K', W', R', C'⟩
    · refine ⟨-6, w, w, ?_, ?_, H⟩
      · show fX9_back w (nI k) = _
        unfold fX9_back
        rw [X9_hasImage_ok, bI_some, if_b01', if_pos (decide_eq_true c), if_pos (inB_nI (by omega) (by omega)), ix_nI (by omega), if_pos i2]
      · show fX10_back w (nI k) = _
        unfold fX10_back
        rw [in_img, bI_some, if_b01', if_pos (decide_eq_true c), if_pos (inB_nI (by omega) (by omega)), ix_nI (by omega), if_pos (i1 ▸ i2)]
    · obtain ⟨w1, e1, a1, a2, a3, a4, a5, a6⟩ := becomeLike_ok HC.1 hC (by omega)
      have e2 : fX9_back w (nI k) = some (0, w1) := by
        unfold fX9_back
        simp only [now_ok HN]
        rw [X9_hasImage_ok, bI_some, if_b01', if_pos (decide_eq_true c), if_pos (inB_nI (by omega) (by omega)), ix_nI (by omega), if_neg (by rw [i2]; decide), if_pos (inB_nI (by omega) (by omega)), e1, bI_some]
      obtain ⟨w2, e3, b1, b2, b4, b5, b6⟩ := back_L hk FU 0 w1 (by omega) (by rw [FU_eq]; omega)
      have e4 : fX10_back w1 (nI k) = some (0, w2) := by
        unfold fX10_back
        rw [in_img, bI_some, if_b01', if_pos (decide_eq_true c), if_pos (inB_nI (by omega) (by omega)), ix_nI (by omega), if_neg (by rw [a4 _ _ (by omega), ← i1, i2]; decide)]
        exact e3
      refine ⟨_, _, _, e2, e4, HO.of (fun c f h1 h2 h3 _ => ⟨(b4 _ _ h2).trans (a4 _ _ (by omega)), (b5 _ _).trans (a5 _ _)⟩), K', W', ?_, kn, ks, ⟨((b6 _ _).trans (a6 _ _)).trans HN.1, ((b6 _ _).trans (a6 _ _)).trans HN.2.1, HN.2.2⟩, (C'.like W' HC.1 a1 a2 a3).of (fun c a b f => b4 _ _ (by omega))⟩
      refine RCg.of W' (fun i hi => ?_) R'
      show gI w2 80 i = gI w 81 (77 * k + i)
      rw [b1 i (by omega) hi, a4 _ _ (by omega)]
  · refine ⟨-2, w, w, ?_, ?_, H⟩
    · show fX9_back w x = _
      unfold fX9_back
      rw [X9_hasImage_ok, bI_some, if_b01', if_neg (fun z => c (of_decide_eq_true z))]
    · show fX10_back w x = _
      unfold fX10_back
      rw [in_img, bI_some, if_b01', if_neg (fun z => c (of_decide_eq_true z))]
/-- one byte of a number -/
def byteOf (x : Int32) (j : Nat) : Int32 := vp_nar .byte (iB (iSr x (nI (24 - 8 * j))))
theorem byteOf_by (x : Int32) (j : Nat) : isBy (byteOf x j) := by
  unfold isBy byteOf iB
  rw [pk_vb]
  simp
theorem app_step {w : HW} {t s : Nat} (F : Nat) (x : Int32) (ht : t < 800) (hs : s < 2 ^ 31) (h : gI w 1 1 = nI t) : fX8_append_3 x (F + 1) w (nI s) = fX8_append_3 x F (uI (uI w 2 t (vp_nar .byte (iB (iSr x (nI s))))) 1 1 (nI (t + 1))) (nI s + (-8)) := by
  rw [fX8_append_3, h, if_pos (nI_pos hs), if_pos (nI_pos (by omega)), if_pos (show nI t < 800 from nI_lt (b := 800) ht (by omega)), if_pos (inB_nI ht (by omega)), ix_nI (by omega), lT_eq, lT_eq, gI_uI_ne (by omega), h, nI_1]
theorem append_ok {w : HW} {t : Nat} (x : Int32) (ht : t + 4 ≤ 800) (h : gI w 1 1 = nI t) : ∃ w', fX8_append w x = some w' ∧ gI w' 1 1 = nI (t + 4) ∧ (∀ c f, c ≠ 2 → (c ≠ 1 ∨ f ≠ 1) → gI w' c f = gI w c f) ∧ (∀ f, (f < t ∨ t + 4 ≤ f) → gI w' 2 f = gI w 2 f) ∧ (∀ j, j < 4 → gI w' 2 (t + j) = byteOf x j) ∧ (∀ c f, gL w' c f = gL w c f) ∧ (∀ c f, gR w' c f = gR w c f) := by
  unfold fX8_append
  rw [show FU = 99995 + 1 + 1 + 1 + 1 + 1 from rfl, show (24 : Int32) = nI 24 from rfl]
  rw [app_step _ x (by omega) (by omega) h, show nI 24 + (-8) = nI 16 from rfl]
  rw [app_step _ x (t := t + 1) (by omega) (by omega) gI_uI_at, show nI 16 + (-8) = nI 8 from rfl]
  rw [app_step _ x (t := t + 1 + 1) (by omega) (by omega) gI_uI_at, show nI 8 + (-8) = nI 0 from rfl]
  rw [app_step _ x (t := t + 1 + 1 + 1) (by omega) (by omega) gI_uI_at, show nI 0 + (-8) = -8 from rfl]
  rw [fX8_append_3, if_neg (fun z => z (by decide))]
  refine ⟨_, rfl, gI_uI_at, fun c f h1 h2 => ?_, fun f h1 => ?_, fun j hj => ?_, fun c f => rfl, fun c f => rfl⟩
  · simp only [gI_uI]
    rw [if_neg (by omega), if_neg (by omega), if_neg (by omega), if_neg (by omega), if_neg (by omega), if_neg (by omega), if_neg (by omega), if_neg (by omega)]
  · simp (disch := omega) only [gI_uI_ne, gI_uI_nf]
  · rcases (show j = 0 ∨ j = 1 ∨ j = 2 ∨ j = 3 by omega) with rfl | rfl | rfl | rfl
    all_goals simp (disch := omega) only [gI_uI_ne, gI_uI_nf, gI_uI_at, Nat.add_assoc, Nat.reduceAdd, Nat.add_zero]
    all_goals rfl
theorem feedR_L {t : Nat} (ht : t + 20 ≤ 800) (xs : Nat → Int32) : ∀ F i (w : HW), i ≤ 20 → 20 - i < F → gI w 79 5 = nI t → (∀ q, q < 5 → gI w 84 q = xs q) → ∃ w', fX10_feed_55 F w (nI i) = some (nI (t + 20), w') ∧ gI w' 79 5 = nI (t + 20) ∧ (∀ c f, c ≠ 83 → (c ≠ 79 ∨ f ≠ 5) → gI w' c f = gI w c f) ∧ (∀ f, (f < t + i ∨ t + 20 ≤ f) → gI w' 83 f = gI w 83 f) ∧ (∀ j, i ≤ j → j < 20 → gI w' 83 (t + j) = byteOf (xs (j / 4)) (j % 4)) ∧ (∀ c f, gL w' c f = gL w c f) ∧ (∀ c f, gR w' c f = gR w c f) := by
  intro F
  induction F with
  | zero => intro i w h1 h2; omega
  | succ F ih =>
    intro i w h1 h2 h3 h4
    rw [fX10_feed_55]
    by_cases hi : i < 20
    · have e1 : nI i / 4 = nI (i / 4) := pk_div (d := 4) (by omega) (by omega) (by omega)
      have e2 : iRm (nI i) 4 = nI (i % 4) := pk_rem (d := 4) (by omega) (by omega) (by omega)
      have e3 : (24 : Int32) - 8 * nI (i % 4) = nI (24 - 8 * (i % 4)) := by
        rw [show (8 : Int32) = nI 8 from rfl, pk_mul, show (24 : Int32) = nI 24 from rfl, nI_subI (by omega)]
      rw [if_pos (show nI i < 20 from nI_lt (b := 20) hi (by omega)), e1, e2, e3, h3, if_pos (inB_nI (by omega) (by omega)), nI_add, if_pos (inB_nI (by omega) (by omega)), ix_nI (by omega), ix_nI (by omega), h4 _ (by omega), lT_eq, nI_1]
      obtain ⟨w', e, a1, a2, a3, a4, a5, a6⟩ := ih (i + 1) (uI w 83 (t + i) (byteOf (xs (i / 4)) (i % 4))) (by omega) (by omega) (by rw [gI_uI_ne (by omega)]; exact h3) (fun q hq => by rw [gI_uI_ne (by omega)]; exact h4 q hq)
      refine ⟨w', e, a1, fun c f p q => ?_, fun f p => ?_, fun j p q => ?_, a5, a6⟩
      · rw [a2 c f p q, gI_uI_ne (by omega)]
      · rw [a3 f (by omega), gI_uI_nf (by omega)]
      · by_cases hj : j = i
        · subst hj
          rw [a3 _ (by omega), gI_uI_at]
        · exact a4 j (by omega) q
    · rw [if_neg (show ¬ nI i < 20 from nI_nlt (b := 20) (by omega) (by omega))]
      unfold fX10_feed_101
      rw [lT_eq, gI_uI_at, h3, show nI t + 20 = nI (t + 20) from nI_add t 20]
      refine ⟨_, rfl, gI_uI_at, fun c f p q => ?_, fun f p => gI_uI_ne (by omega), fun j p q => by omega, fun c f => rfl, fun c f => rfl⟩
      rw [gI_uI, if_neg (by omega)]
/-- cells of the tapes alone have changed -/
theorem Rel.tape {w w' : HW} (H : Rel w) (hT : RelT w') (h : ∀ c f, c ≠ 1 → c ≠ 2 → c ≠ 83 → c ≠ 84 → (c ≠ 79 ∨ f ≠ 5) → gI w' c f = gI w c f) (hl : ∀ c f, gL w' c f = gL w c f) (hR : ∀ c f, gR w' c f = gR w c f) : Rel w' := by
  obtain ⟨HO, K, HK⟩ := H
  refine ⟨⟨hT, HO.2.1.of (fun f hf => ?_) ?_ ?_, HO.2.2.1.of (fun f hf => ?_), fun k q => (HO.2.2.2.1 k q).of ?_ ?_ (fun i q => ?_) (fun c a b f => ?_) (fun g g' K W h1 h2 => RCg.of W h1 h2), fun s q => (HO.2.2.2.2 s q).of (fun i q => ?_) (fun i q => ?_) (fun f => ?_) ?_ ?_⟩, K, HK.of (fun f => ?_) (fun c f a b => ?_) (fun f => hR _ _)⟩
  all_goals first | exact hl _ _ | exact h _ _ (by omega) (by omega) (by omega) (by omega) (by omega)
theorem ag_feed {w : HW} (H : Rel w) (x0 x1 x2 x3 x4 : Int32) : Agree w (fX9_feed · x0 x1 x2 x3 x4) (fX10_feed · x0 x1 x2 x3 x4) := by
  obtain ⟨HO, K, HK⟩ := id H
  obtain ⟨⟨t, t1, t2, t3⟩, t4⟩ := HO.1
  by_cases c : t ≤ 780
  · obtain ⟨v0, e0, a0, b0, c0, d0, f0, g0⟩ := append_ok (w := w) (t := t) x0 (by omega) t2
    obtain ⟨v1, e1, a1, b1, c1, d1, f1, g1⟩ := append_ok (w := v0) (t := t + 4) x1 (by omega) a0
    obtain ⟨v2, e2, a2, b2, c2, d2, f2, g2⟩ := append_ok (w := v1) (t := t + 4 + 4) x2 (by omega) a1
    obtain ⟨v3, e3, a3, b3, c3, d3, f3, g3⟩ := append_ok (w := v2) (t := t + 4 + 4 + 4) x3 (by omega) a2
    obtain ⟨v4, e4, a4, b4, c4, d4, f4, g4⟩ := append_ok (w := v3) (t := t + 4 + 4 + 4 + 4) x4 (by omega) a3
    have ex : fX9_feed w x0 x1 x2 x3 x4 = some (nI (t + 20), v4) := by
      unfold fX9_feed
      rw [t2, if_neg (show ¬ 780 < nI t from nI_nlt (a := 780) (by omega) (by omega)), e0, bI_some, e1, bI_some, e2, bI_some, e3, bI_some, e4, bI_some, a4]
    have gx : ∀ c f, c ≠ 2 → (c ≠ 1 ∨ f ≠ 1) → gI v4 c f = gI w c f := fun c f p q => by rw [b4 c f p q, b3 c f p q, b2 c f p q, b1 c f p q, b0 c f p q]
    obtain ⟨w2, em, am, bm, cm, dm, fm, gm⟩ := feedR_L (t := t) (by omega) (fun q => if q = 0 then x0 else if q = 1 then x1 else if q = 2 then x2 else if q = 3 then x3 else x4) FU 0 (uI (uI (uI (uI (uI v4 84 0 x0) 84 1 x1) 84 2 x2) 84 3 x3) 84 4 x4) (by omega) (by rw [FU_eq]; omega) (by
      simp (disch := omega) only [gI_uI_ne]
      rw [gx _ _ (by omega) (by omega)]; exact t3) (fun q hq => by
      rcases (show q = 0 ∨ q = 1 ∨ q = 2 ∨ q = 3 ∨ q = 4 by omega) with rfl | rfl | rfl | rfl | rfl
      all_goals simp (disch := omega) only [gI_uI_nf, gI_uI_at]
      all_goals rfl)
    have em2 : fX10_feed v4 x0 x1 x2 x3 x4 = some (nI (t + 20), w2) := by
      unfold fX10_feed
      rw [gx _ _ (by omega) (by omega), t3, show nI t + 20 = nI (t + 20) from nI_add t 20, if_neg (show ¬ 800 < nI (t + 20) from nI_nlt (a := 800) (by omega) (by omega))]
      simp only [if_pos (show inB 0 5 = true from rfl), if_pos (show inB 1 5 = true from rfl), if_pos (show inB 2 5 = true from rfl), if_pos (show inB 3 5 = true from rfl), if_pos (show inB 4 5 = true from rfl), ix_0, ix_1, ix_2, ix_3, ix_4, lT_eq]
      exact em
    refine ⟨_, _, _, ex, em2, H.tape ⟨⟨t + 20, by omega, ?_, am⟩, fun i hi => ?_⟩ (fun c f h1 h2 h3 h4 h5 => ?_) (fun c f => ?_) (fun c f => ?_)⟩
    · rw [bm _ _ (by omega) (by omega)]
      simp (disch := omega) only [gI_uI_ne]
      exact a4
    · refine ⟨?_, ?_⟩
      · rw [bm _ _ (by omega) (by omega)]
        simp (disch := omega) only [gI_uI_ne]
        by_cases q : i < t ∨ t + 20 ≤ i
        · rw [c4 _ (by omega), c3 _ (by omega), c2 _ (by omega), c1 _ (by omega), c0 _ (by omega), cm _ (by omega)]
          simp (disch := omega) only [gI_uI_ne]
          rw [gx _ _ (by omega) (by omega)]
          exact (t4 i hi).1
        · obtain ⟨j, hj, rfl⟩ : ∃ j, j < 20 ∧ i = t + j := ⟨i - t, by omega, by omega⟩
          rw [dm j (by omega) hj]
          rcases (show j / 4 = 0 ∨ j / 4 = 1 ∨ j / 4 = 2 ∨ j / 4 = 3 ∨ j / 4 = 4 by omega) with h | h | h | h | h
          · rw [c4 _ (by omega), c3 _ (by omega), c2 _ (by omega), c1 _ (by omega), show t + j = t + j % 4 by omega, d0 _ (by omega), h]; rfl
          · rw [c4 _ (by omega), c3 _ (by omega), c2 _ (by omega), show t + j = t + 4 + j % 4 by omega, d1 _ (by omega), h]; rfl
          · rw [c4 _ (by omega), c3 _ (by omega), show t + j = t + 4 + 4 + j % 4 by omega, d2 _ (by omega), h]; rfl
          · rw [c4 _ (by omega), show t + j = t + 4 + 4 + 4 + j % 4 by omega, d3 _ (by omega), h]; rfl
          · rw [show t + j = t + 4 + 4 + 4 + 4 + j % 4 by omega, d4 _ (by omega), h]; rfl
      · by_cases q : i < t ∨ t + 20 ≤ i
        · rw [cm _ (by omega)]
          simp (disch := omega) only [gI_uI_ne]
          rw [gx _ _ (by omega) (by omega)]
          exact (t4 i hi).2
        · obtain ⟨j, hj, rfl⟩ : ∃ j, j < 20 ∧ i = t + j := ⟨i - t, by omega, by omega⟩
          rw [dm j (by omega) hj]
          exact byteOf_by _ _
    · rw [bm _ _ (by omega) (by omega)]
      simp (disch := omega) only [gI_uI_ne]
      exact gx _ _ (by omega) (by omega)
    · rw [fm]
      exact (((((f4 c f).trans (f3 c f)).trans (f2 c f)).trans (f1 c f)).trans (f0 c f))
    · rw [gm]
      exact (((((g4 c f).trans (g3 c f)).trans (g2 c f)).trans (g1 c f)).trans (g0 c f))
  · refine ⟨-1, w, w, ?_, ?_, H⟩
    · show fX9_feed w x0 x1 x2 x3 x4 = _
      unfold fX9_feed
      rw [t2, if_pos (show 780 < nI t from nI_lt (a := 780) (by omega) (by omega))]
    · show fX10_feed w x0 x1 x2 x3 x4 = _
      unfold fX10_feed
      rw [t3, show nI t + 20 = nI (t + 20) from nI_add t 20, if_pos (show 800 < nI (t + 20) from nI_lt (a := 800) (by omega) (by omega))]
