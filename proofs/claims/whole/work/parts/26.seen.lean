/-! FITS, FED, STARVED, LEAST, ASK, LEAVES -/
theorem seen_ok {w : HW} {K : Nat → Nat} {kn ks : Nat} (HO : RelO w) (W : WF K) (HR : RC w K) (HN : RelN w kn ks) (HC : CC w kn K) (x : Int32) : ∃ (r : Int32) (A B : Nat) (Q : Nat → Nat → Bool), (r = 0 ∨ r = -2 ∨ r = -6) ∧ (r = 0 → 0 < K 0) ∧ (∃ w1, fX9_lookAtSeen w x = some (r, w1) ∧ Sx sc w w1 ∧ (r = 0 → HX K A B w1 Q)) ∧ ∀ w1, Sx sc w w1 → ∃ w2, fX10_layPairs w1 x = some (r, w2) ∧ Sx sc w1 w2 ∧ (r = 0 → HM K w2 Q) := by
  have hb := W.b
  have hkn : kn = 26 ∨ kn = 35 := by have := HN.2.2; omega
  have fx : ∀ (r : Int32) w1, fX9_lookAtSeen w x = some (r, w1) → Sx sc w w1 := fun r w1 h => rX9_lookAtSeen Sx.rf x _ h
  have fm : ∀ w0 (r : Int32) w1, fX10_layPairs w0 x = some (r, w1) → Sx sc w0 w1 := fun w0 r w1 h => rX10_layPairs Sx.rf x _ h
  have mk : ∀ (r : Int32) (A B : Nat) (Q : Nat → Nat → Bool), (r = 0 ∨ r = -2 ∨ r = -6) → (r = 0 → 0 < K 0) → (∃ w1, fX9_lookAtSeen w x = some (r, w1) ∧ (r = 0 → HX K A B w1 Q)) → (∀ w1, Sx sc w w1 → ∃ w2, fX10_layPairs w1 x = some (r, w2) ∧ (r = 0 → HM K w2 Q)) → ∃ (r : Int32) (A B : Nat) (Q : Nat → Nat → Bool), (r = 0 ∨ r = -2 ∨ r = -6) ∧ (r = 0 → 0 < K 0) ∧ (∃ w1, fX9_lookAtSeen w x = some (r, w1) ∧ Sx sc w w1 ∧ (r = 0 → HX K A B w1 Q)) ∧ ∀ w1, Sx sc w w1 → ∃ w2, fX10_layPairs w1 x = some (r, w2) ∧ Sx sc w1 w2 ∧ (r = 0 → HM K w2 Q) := by
    rintro r A B Q h1 h2 ⟨w1, a1, a2⟩ h4
    refine ⟨r, A, B, Q, h1, h2, ⟨w1, a1, fx _ _ a1, a2⟩, fun w1 hw => ?_⟩
    obtain ⟨w2, b1, b2⟩ := h4 w1 hw
    exact ⟨w2, b1, fm _ _ _ b1, b2⟩
  have ex : fX9_lookAtSeen w x = if 0 ≤ x ∧ x < nI 4 then (if 0 < K 7 then (if inB x 4 = true then bI (fX5_isThere w (44 + 2 * ix x)) fun r_9 => if r_9 = 0 then some (-6, w) else if inB x 4 = true then bW (fX2_look w kn (44 + 2 * ix x)) fun r_13 w_14 => if ¬ r_13 = 0 then some (0, w_14) else some (-2, w_14) else none else none) else some (-2, w)) else some (-2, w) := by
    unfold fX9_lookAtSeen
    simp only [now_ok HN, X9_hasSlot_ok, X0_isTold_ok HC W, bI_some, if_b01, if_b01', ite_dec]
  have em : ∀ w1, Sx sc w w1 → fX10_layPairs w1 x = if 0 ≤ x ∧ x < nI 4 then (if 0 < K 7 then (if inB x 4 = true then (if gI w1 98 (ix x) = -1 then some (-6, w1) else if inB x 4 = true then (if ¬ iRm (gI w1 98 (ix x)) 2 = 0 then some (-2, w1) else fX10_layPairs_46 x FU w1 0) else none) else none) else some (-2, w1)) else some (-2, w1) := by
    intro w1 hw
    unfold fX10_layPairs
    simp only [X10_isSlot_ok, X10_isCamp_ok (HR.sx hw) W, bI_some, if_b01, if_b01', ite_dec]
  by_cases c : 0 ≤ x ∧ x < nI 4
  · by_cases h7 : 0 < K 7
    · have h0 : 0 < K 0 := W.day.mpr h7
      obtain ⟨s, hs, rfl⟩ := rng_of (by omega) c
      have HS := HO.2.2.2.2 s hs
      rw [if_pos c, if_pos h7, if_pos (inB_nI (by omega) (by omega)), ix_nI (by omega)] at ex
      have em2 : ∀ w1, Sx sc w w1 → fX10_layPairs w1 (nI s) = (if gI w1 98 s = -1 then some (-6, w1) else (if ¬ iRm (gI w1 98 s) 2 = 0 then some (-2, w1) else fX10_layPairs_46 (nI s) FU w1 0)) := by
        intro w1 hw
        rw [em w1 hw, if_pos c, if_pos h7, if_pos (inB_nI (by omega) (by omega)), if_pos (inB_nI (by omega) (by omega)), ix_nI (by omega)]
      rcases HS.2 with ⟨h1, h2⟩ | ⟨d, n, hd, hn, h1, h2, h3, h4⟩
      · refine mk (-6) 0 0 (fun _ _ => true) (Or.inr (Or.inr rfl)) (fun _ => h0) ⟨w, ?_, fun z => absurd z (by decide)⟩ (fun w1 hw => ⟨w1, ?_, fun z => absurd z (by decide)⟩)
        · rw [ex, isThere_n h1, bI_some, if_pos rfl]
        · rw [em2 w1 hw, if_pos (by rw [(hw 98 s (sc_hi (by omega))).1]; exact h2)]
      · have e98 : ∀ w1, Sx sc w w1 → gI w1 98 s = nI n := fun w1 hw => (hw 98 s (sc_hi (by omega))).1.trans h3
        rw [isThere_s h1 hd, bI_some, if_neg (by decide), if_pos (inB_nI (by omega) (by omega))] at ex
        unfold fX2_look fX2_readRow at ex
        rw [lT_eq, lT_eq, gI_uI_ne (by omega), gI_uI_ne (by omega), h2] at ex
        by_cases ho : n % 2 = 0
        · rw [if_neg (fun z => z ((odd_n hn).mpr ho))] at ex
          obtain ⟨m, rfl⟩ : ∃ m, n = 2 * m := ⟨n / 2, by omega⟩
          obtain ⟨r, w1, a0, a1, a2⟩ := readRow_L W (k1 := kn) (k2 := 44 + 2 * s) (m := m) (by omega) (by omega) (fun i => gL w 100 (60 * s + i)) hn FU 0 (uI (uI w 20 5 0) 20 6 0) (by omega) (by rw [FU_eq]; omega) (by rw [gI_uI_ne (by omega), gI_uI_ne (by omega)]; exact HC.c1) (by rw [gI_uI_ne (by omega), gI_uI_ne (by omega)]; exact h2) (fun i hi => by
            rw [show 44 + 2 * s + 1 = 45 + 2 * s by omega]; exact HS.1 i hi) (fun p hp => by omega) (by rw [gI_uI_nf (by omega), gI_uI_at]; rfl) (by rw [gI_uI_at]; rfl)
          have a0' : fX2_readRow_23 kn (44 + 2 * s) FU (uI (uI w 20 5 0) 20 6 0) 0 = some (r, w1) := a0
          rw [a0', bW_some] at ex
          have mm : ∀ w1, Sx sc w w1 → ∃ r w2, fX10_layPairs w1 (nI s) = some (r, w2) ∧ ((r = 0 ∧ pOk (K 0) (fun i => gL w 100 (60 * s + i)) m ∧ HM K w2 (fun h g => fitB K (fun i => gL w 100 (60 * s + i)) h g m)) ∨ (r = -2 ∧ ¬ pOk (K 0) (fun i => gL w 100 (60 * s + i)) m)) := by
            intro w1 hw
            obtain ⟨r, w2, b0, b1⟩ := pairs46_L W h0 (s := s) (m := m) hs (v := fun i => gL w 100 (60 * s + i)) hn FU 0 w1 (by omega) (by rw [FU_eq]; omega) ⟨HR.sx hw, e98 _ hw, fun i hi => (hw _ _ (sc_hi (by omega))).2.1⟩ (fun p hp => by omega)
            refine ⟨r, w2, ?_, b1⟩
            rw [em2 w1 hw, e98 w1 hw, if_neg (nI_ne_m1 (by omega)), if_neg (fun z => z ((odd_n hn).mpr ho))]
            exact b0
          rcases a1 with ⟨rfl, hp, g5, g6⟩ | ⟨rfl, hp⟩
          · have fa := fun h g => fitAB_ok W (h := h) (g := g) m hp
            have hA := lt31 W (fa 0 0).2.1
            have hB := lt31 W (fa 0 0).2.2
            rw [if_neg (by decide), lT_eq, lT_eq, lT_eq, lT_eq] at ex
            obtain ⟨w2, y0, y1, y2⟩ := look33_L (k := kn) (by omega) W hA hB FU 0 (uI (uI (uI (uI w1 20 0 0) 20 1 0) 20 2 0) 20 3 (-1)) (by omega) (by rw [FU_eq]; omega) (by
              rw [gI_uI_ne (by omega), gI_uI_ne (by omega), gI_uI_ne (by omega), gI_uI_ne (by omega), a2 _ _ (by omega), gI_uI_ne (by omega), gI_uI_ne (by omega)]; exact HC.c1) (by
              rw [gI_uI_ne (by omega), gI_uI_ne (by omega), gI_uI_ne (by omega), gI_uI_ne (by omega), a2 _ _ (by omega), gI_uI_ne (by omega), gI_uI_ne (by omega)]; exact HC.c3) (by
              rw [gI_uI_nf (by omega), gI_uI_nf (by omega), gI_uI_nf (by omega), gI_uI_nf (by omega)]; exact g5) (by
              rw [gI_uI_nf (by omega), gI_uI_nf (by omega), gI_uI_nf (by omega), gI_uI_nf (by omega)]; exact g6) (by
              rw [gI_uI_nf (by omega), gI_uI_nf (by omega), gI_uI_nf (by omega), gI_uI_at]) (by
              rw [gI_uI_nf (by omega), gI_uI_nf (by omega), gI_uI_at]) (by
              rw [gI_uI_nf (by omega), gI_uI_at]) (by rw [gI_uI_at]) (fun d hd => by omega)
            have y0' : fX2_look_33 kn FU (uI (uI (uI (uI w1 20 0 0) 20 1 0) 20 2 0) 20 3 (-1)) 0 = some (1, w2) := y0
            rw [y0', bW_some, if_pos (by decide)] at ex
            rw [show fitAB K (aM (fun i => gL w 100 (60 * s + i)) m) (bM (fun i => gL w 100 (60 * s + i)) m) = (fun h g => fitB K (fun i => gL w 100 (60 * s + i)) h g m) from funext fun h => funext fun g => (fa h g).1] at y1
            refine mk 0 _ _ _ (Or.inl rfl) (fun _ => h0) ⟨w2, ex, fun _ => y1⟩ (fun w1 hw => ?_)
            obtain ⟨r, w2, b0, b1⟩ := mm w1 hw
            rcases b1 with ⟨rfl, _, b1⟩ | ⟨_, b1⟩
            · exact ⟨w2, b0, fun _ => b1⟩
            · exact absurd hp b1
          · rw [if_pos rfl, bW_some, if_neg (by decide)] at ex
            refine mk (-2) 0 0 (fun _ _ => true) (Or.inr (Or.inl rfl)) (fun _ => h0) ⟨w1, ex, fun z => absurd z (by decide)⟩ (fun w1 hw => ?_)
            obtain ⟨r, w2, b0, b1⟩ := mm w1 hw
            rcases b1 with ⟨_, b1, _⟩ | ⟨rfl, b1⟩
            · exact absurd b1 hp
            · exact ⟨w2, b0, fun z => absurd z (by decide)⟩
        · rw [if_pos (fun z => ho ((odd_n hn).mp z)), bW_some, if_pos rfl, bW_some, if_neg (by decide)] at ex
          refine mk (-2) 0 0 (fun _ _ => true) (Or.inr (Or.inl rfl)) (fun _ => h0) ⟨_, ex, fun z => absurd z (by decide)⟩ (fun w1 hw => ⟨w1, ?_, fun z => absurd z (by decide)⟩)
          rw [em2 w1 hw, e98 w1 hw, if_neg (nI_ne_m1 (by omega)), if_pos (fun z => ho ((odd_n hn).mp z))]
    · refine mk (-2) 0 0 (fun _ _ => true) (Or.inr (Or.inl rfl)) (fun z => absurd z (by decide)) ⟨w, ?_, fun z => absurd z (by decide)⟩ (fun w1 hw => ⟨w1, ?_, fun z => absurd z (by decide)⟩)
      · rw [ex, if_pos c, if_neg h7]
      · rw [em w1 hw, if_pos c, if_neg h7]
  · refine mk (-2) 0 0 (fun _ _ => true) (Or.inr (Or.inl rfl)) (fun z => absurd z (by decide)) ⟨w, ?_, fun z => absurd z (by decide)⟩ (fun w1 hw => ⟨w1, ?_, fun z => absurd z (by decide)⟩)
    · rw [ex, if_neg c]
    · rw [em w1 hw, if_neg c]
section ASK
variable {w : HW} {K : Nat → Nat} {Q : Nat → Nat → Bool}
/-- the feasts of the first n pairs -/
def gM (e : Nat → Nat × Nat) : Nat → Nat
  | 0 => 0
  | n + 1 => gM e n ||| 2 ^ (e n).2
theorem gM_ok (e : Nat → Nat × Nat) (N : Nat) : ∀ n, (∀ i, i < n → (e i).2 ≤ N) → gM e n < 2 ^ (N + 1) ∧ ∀ g, (gM e n).testBit g = decide (0 < cN (fun i => (e i).2 == g) n) := by
  intro n
  induction n with
  | zero => intro _; exact ⟨Nat.two_pow_pos _, fun g => by simp [gM, cN]⟩
  | succ n ih =>
    intro h
    obtain ⟨i1, i2⟩ := ih (fun i hi => h i (by omega))
    have := h n (by omega)
    refine ⟨or_lt i1 (Nat.pow_lt_pow_right (by omega) (by omega)), fun g => ?_⟩
    unfold gM cN
    rw [Nat.testBit_or, i2, Nat.testBit_two_pow]
    by_cases c : (e n).2 = g
    · rw [if_pos (by simp [c])]; simp [c]
    · rw [if_neg (by simp [c]), Nat.add_zero]; simp [c]
theorem fedSet_ok (H : HM K w Q) (W : WF K) : ∃ F, fX10_fedSet w = some (nI F) ∧ F < 2 ^ (K 0 + 1) ∧ ∀ g, F.testBit g = decide (0 < c2 (K 0) (fun h g' => Q h g' && (g' == g)) 10) := by
  have hb := W.b
  obtain ⟨n, e, h1, h2, h3, h4⟩ := H
  have hn : n ≤ 150 := by
    have := h3 tru
    rw [c2_tru] at this
    have e1 : cN (fun i => tru (e i).1 (e i).2) n = n := cN_tru n
    have := c2_le (K 0) Q 10
    omega
  have L : ∀ F i, i ≤ n → n - i < F → fX10_fedSet_4 w F (nI (gM e i)) (nI i) = some (nI (gM e n)) := by
    intro F
    induction F with
    | zero => intro i a b; omega
    | succ F ih =>
      intro i a b
      rw [fX10_fedSet_4, h1]
      by_cases hi : i < n
      · obtain ⟨k1, k2, k3⟩ := h2 i hi
        rw [if_pos (nI_lt hi (by omega)), if_pos (inB_nI (by omega) (by omega)), ix_nI (by omega), k1, show iRm (nI (100 * (e i).1 + (e i).2)) 100 = nI ((100 * (e i).1 + (e i).2) % 100) from pk_rem (d := 100) (by omega) (by omega) (by omega), show (100 * (e i).1 + (e i).2) % 100 = (e i).2 by omega, iSl_1 (by omega), nI_or, lT_eq, nI_1]
        exact ih (i + 1) (by omega) (by omega)
      · have e : i = n := by omega
        subst e
        rw [if_neg (nI_nlt (by omega) (by omega))]
  obtain ⟨g1, g2⟩ := gM_ok e (K 0) n (fun i hi => (h2 i hi).2.2)
  refine ⟨gM e n, L FU 0 (by omega) (by rw [FU_eq]; omega), g1, fun g => ?_⟩
  rw [g2 g, ← h3 (fun _ g' => g' == g)]
/-- how many that fit eat on a day -/
def eD (K : Nat → Nat) (Q : Nat → Nat → Bool) (d : Nat) : Nat := c2 (K 0) (fun h g => Q h g && eatq K h g d) 10
def lW (K : Nat → Nat) (Q : Nat → Nat → Bool) (d : Nat) : Nat := max (eD K Q d) (c2 (K 0) Q 10 - eD K Q d)
theorem eD_le (K : Nat → Nat) (Q : Nat → Nat → Bool) (d : Nat) : eD K Q d ≤ c2 (K 0) Q 10 := by
  have L : ∀ n (p q : Nat → Bool), cN (fun i => p i && q i) n ≤ cN p n := by
    intro n p q
    induction n with
    | zero => exact Nat.le_refl _
    | succ n ih =>
      unfold cN
      cases p n <;> cases q n <;> simp <;> omega
  have M : ∀ H, c2 (K 0) (fun h g => Q h g && eatq K h g d) H ≤ c2 (K 0) Q H := by
    intro H
    induction H with
    | zero => exact Nat.le_refl _
    | succ H ih =>
      have := L (K 0 + 1) (Q H) (fun g => eatq K H g d)
      unfold c2
      exact Nat.add_le_add ih this
  exact M 10
/-- the best day to ask about, one more, and what is left at worst -/
def bst (K : Nat → Nat) (Q : Nat → Nat → Bool) : Nat → Nat × Nat
  | 0 => (0, c2 (K 0) Q 10)
  | n + 1 => if lW K Q n < (bst K Q n).2 then (n + 1, lW K Q n) else bst K Q n
theorem bst_s (K : Nat → Nat) (Q : Nat → Nat → Bool) (n : Nat) : bst K Q (n + 1) = if lW K Q n < (bst K Q n).2 then (n + 1, lW K Q n) else bst K Q n := rfl
theorem cN_s (p : Nat → Bool) (n : Nat) : cN p (n + 1) = cN p n + if p n = true then 1 else 0 := rfl
theorem bst_ok (K : Nat → Nat) (Q : Nat → Nat → Bool) : ∀ n, (bst K Q n).2 ≤ c2 (K 0) Q 10 ∧ (((bst K Q n).1 = 0 ∧ (bst K Q n).2 = c2 (K 0) Q 10) ∨ (0 < (bst K Q n).1 ∧ (bst K Q n).1 ≤ n ∧ (bst K Q n).2 = lW K Q ((bst K Q n).1 - 1))) := by
  intro n
  induction n with
  | zero => exact ⟨Nat.le_refl _, Or.inl ⟨rfl, rfl⟩⟩
  | succ n ih =>
    unfold bst
    by_cases c : lW K Q n < (bst K Q n).2
    · rw [if_pos c]
      exact ⟨by show lW K Q n ≤ _; omega, Or.inr ⟨Nat.succ_pos n, Nat.le_refl _, rfl⟩⟩
    · rw [if_neg c]
      refine ⟨ih.1, ih.2.imp id (fun z => ⟨z.1, by omega, z.2.2⟩)⟩
theorem c2_150 (W : WF K) (Q : Nat → Nat → Bool) : c2 (K 0) Q 10 ≤ 150 := by
  have := W.b
  have := c2_le (K 0) Q 10
  omega
theorem left_ok {A B : Nat} (H : HX K A B w Q) (W : WF K) {d : Nat} (hd : d < K 0) : fX2_leftAtWorst w (nI d) = some (nI (lW K Q d)) := by
  have hb := W.b
  have h1 := c2_150 W Q
  have h2 := eD_le K Q d
  have e : gI w 21 d = nI (eD K Q d) := H.2.2.2.2.2.2 d hd
  unfold fX2_leftAtWorst
  rw [if_pos (nI_pos (by omega)), if_neg (fun z => z (show nI d < 14 from nI_lt (b := 14) (by omega) (by omega))), if_pos (inB_nI (by omega) (by omega)), if_pos (inB_nI (by omega) (by omega)), ix_nI (by omega), e, H.2.2.1, nI_subI h2, iMx_nI (by omega) (by omega)]
  rfl
theorem know_L {A B : Nat} (H : HX K A B w Q) (W : WF K) : ∀ F i, i ≤ K 0 → K 0 - i < F → fX2_dayToKnow_10 w (nI (K 0)) F (aI (bst K Q i).1) (nI (bst K Q i).2) (nI i) = some (aI (bst K Q (K 0)).1) := by
  have hb := W.b
  have h1 := c2_150 W Q
  intro F
  induction F with
  | zero => intro i a b; omega
  | succ F ih =>
    intro i a b
    rw [fX2_dayToKnow_10]
    by_cases hi : i < K 0
    · have h2 := eD_le K Q i
      have h3 := (bst_ok K Q i).1
      have h4 : lW K Q i ≤ 150 := Nat.max_le.mpr ⟨by omega, by omega⟩
      rw [if_pos (nI_lt hi (by omega)), left_ok H W hi, bI_some, bI_some, nI_1]
      have i1 := ih (i + 1) (by omega) (by omega)
      rw [bst_s] at i1
      by_cases c : lW K Q i < (bst K Q i).2
      · rw [if_pos c] at i1
        rw [if_pos (nI_lt c (by omega)), ← aI_s i]
        exact i1
      · rw [if_neg c] at i1
        rw [if_neg (nI_nlt (by omega) (by omega))]
        exact i1
    · have e : i = K 0 := by omega
      subst e
      rw [if_neg (nI_nlt (by omega) (by omega))]
theorem know_ok {A B : Nat} (H : HX K A B w Q) (W : WF K) : fX2_dayToKnow w (nI (K 0)) = some (aI (bst K Q (K 0)).1) := by
  have hb := W.b
  unfold fX2_dayToKnow
  rw [lT_eq, H.2.2.1]
  exact know_L H W FU 0 (by omega) (by rw [FU_eq]; omega)
theorem ask27_L (W : WF K) {d : Nat} (hd : d < K 0) (HR : RC w K) {n : Nat} {e : Nat → Nat × Nat} (hn : n ≤ 150) (h1 : gI w 79 35 = nI n) (h2 : ∀ i, i < n → gI w 96 i = nI (100 * (e i).1 + (e i).2) ∧ (e i).1 < 10 ∧ (e i).2 ≤ K 0) (K8 : HW → Int32 → Int32 → Option (Int32 × HW)) (x1 : Int32) : ∀ F i, i ≤ n → n - i < F → fX10_askOf_27 K8 x1 (nI d) F w (nI (cN (fun i => eatq K (e i).1 (e i).2 d) i)) (nI i) = fX10_askOf_65 w K8 x1 (nI d) (nI (cN (fun i => eatq K (e i).1 (e i).2 d) n)) := by
  intro F
  induction F with
  | zero => intro i a b; omega
  | succ F ih =>
    intro i a b
    rw [fX10_askOf_27, h1]
    by_cases hi : i < n
    · obtain ⟨k1, k2, k3⟩ := h2 i hi
      have i1 := ih (i + 1) (by omega) (by omega)
      rw [cN_s] at i1
      rw [if_pos (nI_lt hi (by omega)), if_pos (inB_nI (by omega) (by omega)), ix_nI (by omega), k1, eatsBy_ok HR W k2 k3 hd, bI_some, if_b01, lT_eq, lT_eq, nI_1, nI_1]
      by_cases c : eatq K (e i).1 (e i).2 d = true
      · rw [if_pos c] at i1 ⊢; exact i1
      · rw [if_neg c] at i1
        rw [if_neg c, show nI (cN (fun i => eatq K (e i).1 (e i).2 d) i) + 0 = nI (cN (fun i => eatq K (e i).1 (e i).2 d) i + 0) from nI_add _ 0]
        exact i1
    · have e : i = n := by omega
      subst e
      rw [if_neg (nI_nlt (by omega) (by omega))]
theorem ask12_L (W : WF K) : ∀ F i (w : HW), i ≤ K 0 → K 0 - i < F → RC w K → HM K w Q → gI w 79 36 = nI (bst K Q i).2 → ∃ w', fX10_askOf_12 F w (aI (bst K Q i).1) (nI i) = some (aI (bst K Q (K 0)).1, w') ∧ gI w' 79 36 = nI (bst K Q (K 0)).2 := by
  have hb := W.b
  have h1 := c2_150 W Q
  intro F
  induction F with
  | zero => intro i w a b; omega
  | succ F ih =>
    intro i w a b HR H h36
    rw [fX10_askOf_12, if_pos (show inB 0 77 = true from rfl), ix_0, HR.r0]
    by_cases hi : i < K 0
    · have h2 := eD_le K Q i
      have h3 := (bst_ok K Q i).1
      have h4 : lW K Q i ≤ 150 := Nat.max_le.mpr ⟨by omega, by omega⟩
      have hn := H.n
      obtain ⟨n, e, p1, p2, p3, p4⟩ := id H
      have hnn : n = c2 (K 0) Q 10 := by
        have := p3 tru
        rw [c2_tru] at this
        rw [← this]; exact (cN_tru n).symm
      rw [if_pos (nI_lt hi (by omega))]
      have st := ask27_L W hi HR (by omega) p1 p2 (fun w x1 x2 => fX10_askOf_12 F w x1 x2) (aI (bst K Q i).1) FU 0 (by omega) (by rw [FU_eq]; omega)
      have st' : fX10_askOf_27 (fun w x1 x2 => fX10_askOf_12 F w x1 x2) (aI (bst K Q i).1) (nI i) FU w 0 0 = _ := st
      rw [st', p3 (fun h g => eatq K h g i)]
      unfold fX10_askOf_65
      rw [hn, show c2 (K 0) (fun h g => Q h g && eatq K h g i) 10 = eD K Q i from rfl, nI_subI h2, iMx_nI (by omega) (by omega), show max (eD K Q i) (c2 (K 0) Q 10 - eD K Q i) = lW K Q i from rfl, lT_eq, h36, nI_1]
      have i1 := fun w => ih (i + 1) w (by omega) (by omega)
      simp only [bst_s] at i1
      by_cases c : lW K Q i < (bst K Q i).2
      · simp only [if_pos c] at i1
        rw [if_neg (fun z => z (nI_lt c (by omega))), lT_eq, ← aI_s i]
        refine i1 _ (HR.cell (fun f => gI_uI_ne (by omega))) ⟨n, e, ?_, fun j hj => ?_, p3, p4⟩ gI_uI_at
        · rw [gI_uI_nf (by omega)]; exact p1
        · rw [gI_uI_ne (by omega)]; exact p2 j hj
      · simp only [if_neg c] at i1
        rw [if_pos (nI_nlt (by omega) (by omega))]
        exact i1 w HR H h36
    · have e : i = K 0 := by omega
      subst e
      rw [if_neg (nI_nlt (by omega) (by omega))]
      exact ⟨w, rfl, h36⟩
theorem askOf_ok (W : WF K) (HR : RC w K) (H : HM K w Q) : ∃ w', fX10_askOf w = some (aI (bst K Q (K 0)).1, w') ∧ gI w' 79 36 = nI (bst K Q (K 0)).2 := by
  unfold fX10_askOf
  rw [lT_eq]
  obtain ⟨n, e, p1, p2, p3, p4⟩ := id H
  refine ask12_L W FU 0 _ (by omega) (by have := W.b; rw [FU_eq]; omega) (HR.cell (fun f => gI_uI_ne (by omega))) ⟨n, e, ?_, fun j hj => ?_, p3, p4⟩ ?_
  · rw [gI_uI_nf (by omega)]; exact p1
  · rw [gI_uI_ne (by omega)]; exact p2 j hj
  · rw [gI_uI_at]; exact H.n
end ASK
theorem ag_fits {w : HW} (H : Rel w) (x : Int32) : Agree w (fX9_fits · x) (fX10_fits · x) := by
  obtain ⟨HO, K, W, HR, kn, ks, HN, HC⟩ := id H
  obtain ⟨r, A, B, Q, hr, h0, ⟨w1, a1, a2, a3⟩, b⟩ := seen_ok HO W HR HN HC x
  obtain ⟨w2, b1, b2, b3⟩ := b w1 a2
  by_cases c : r = 0
  · subst c
    refine ⟨nI (c2 (K 0) Q 10), w1, w2, ?_, ?_, (H.sx a2).sx b2⟩
    · show fX9_fits w x = _
      unfold fX9_fits
      rw [a1, bW_some, if_neg (by decide), (a3 rfl).2.2.1]
    · show fX10_fits w1 x = _
      unfold fX10_fits
      rw [b1, bW_some, if_neg (by decide), (b3 rfl).n]
  · have hl := (r_neg hr).mpr c
    refine ⟨r, w1, w2, ?_, ?_, (H.sx a2).sx b2⟩
    · show fX9_fits w x = _
      unfold fX9_fits
      rw [a1, bW_some, if_pos hl]
    · show fX10_fits w1 x = _
      unfold fX10_fits
      rw [b1, bW_some, if_pos hl]
theorem ag_fed {w : HW} (H : Rel w) (x : Int32) : Agree w (fX9_fed · x) (fX10_fed · x) := by
  obtain ⟨HO, K, W, HR, kn, ks, HN, HC⟩ := id H
  obtain ⟨r, A, B, Q, hr, h0, ⟨w1, a1, a2, a3⟩, b⟩ := seen_ok HO W HR HN HC x
  obtain ⟨w2, b1, b2, b3⟩ := b w1 a2
  have hb := W.b
  by_cases c : r = 0
  · subst c
    obtain ⟨M, m1, m2, m3⟩ := (a3 rfl).2.2.2.1
    obtain ⟨F, f1, f2, f3⟩ := fedSet_ok (b3 rfl) W
    refine ⟨nI M, w1, w2, ?_, ?_, (H.sx a2).sx b2⟩
    · show fX9_fed w x = _
      unfold fX9_fed
      rw [a1, bW_some, if_neg (by decide), m2]
    · show fX10_fed w1 x = _
      unfold fX10_fed
      have e : nI F &&& (nI (2 ^ K 0) - 1) = nI M := by
        have hp := Nat.two_pow_pos (K 0)
        rw [show nI (2 ^ K 0) - 1 = nI (2 ^ K 0 - 1) from nI_subI (b := 1) hp, nI_and]
        refine congrArg nI (bit_ext (n := K 0) ?_ m1 (fun i hi => ?_))
        · exact Nat.lt_of_le_of_lt Nat.and_le_right (by omega)
        · rw [Nat.testBit_and, Nat.testBit_two_pow_sub_one, decide_eq_true hi, Bool.and_true, f3, m3 i hi]
      rw [b1, bW_some, if_neg (by decide), f1, bI_some, if_pos (show inB 0 77 = true from rfl), ix_0, ((HR.sx a2).sx b2).r0, iSl_1 (by omega), e]
  · have hl := (r_neg hr).mpr c
    refine ⟨r, w1, w2, ?_, ?_, (H.sx a2).sx b2⟩
    · show fX9_fed w x = _
      unfold fX9_fed
      rw [a1, bW_some, if_pos hl]
    · show fX10_fed w1 x = _
      unfold fX10_fed
      rw [b1, bW_some, if_pos hl]
theorem ag_starved {w : HW} (H : Rel w) (x : Int32) : Agree w (fX9_starved · x) (fX10_starved · x) := by
  obtain ⟨HO, K, W, HR, kn, ks, HN, HC⟩ := id H
  obtain ⟨r, A, B, Q, hr, h0, ⟨w1, a1, a2, a3⟩, b⟩ := seen_ok HO W HR HN HC x
  obtain ⟨w2, b1, b2, b3⟩ := b w1 a2
  have hb := W.b
  by_cases c : r = 0
  · subst c
    obtain ⟨F, f1, f2, f3⟩ := fedSet_ok (b3 rfl) W
    refine ⟨b01 (decide (0 < c2 (K 0) (fun h g' => Q h g' && (g' == K 0)) 10)), w1, w2, ?_, ?_, (H.sx a2).sx b2⟩
    · show fX9_starved w x = _
      unfold fX9_starved
      rw [a1, bW_some, if_neg (by decide), (a3 rfl).2.2.2.2.1]
    · show fX10_starved w1 x = _
      unfold fX10_starved
      have hF : F < 2 ^ 31 := Nat.lt_of_lt_of_le f2 (Nat.pow_le_pow_right (by omega) (by omega))
      rw [b1, bW_some, if_neg (by decide), f1, bI_some, if_pos (show inB 0 77 = true from rfl), ix_0, ((HR.sx a2).sx b2).r0, bit_ok w2 hF (by omega), bI_some, f3]
  · have hl := (r_neg hr).mpr c
    refine ⟨r, w1, w2, ?_, ?_, (H.sx a2).sx b2⟩
    · show fX9_starved w x = _
      unfold fX9_starved
      rw [a1, bW_some, if_pos hl]
    · show fX10_starved w1 x = _
      unfold fX10_starved
      rw [b1, bW_some, if_pos hl]
theorem ag_least {w : HW} (H : Rel w) (x : Int32) : Agree w (fX9_least · x) (fX10_least · x) := by
  obtain ⟨HO, K, W, HR, kn, ks, HN, HC⟩ := id H
  obtain ⟨r, A, B, Q, hr, h0, ⟨w1, a1, a2, a3⟩, b⟩ := seen_ok HO W HR HN HC x
  obtain ⟨w2, b1, b2, b3⟩ := b w1 a2
  have hb := W.b
  by_cases c : r = 0
  · subst c
    obtain ⟨l, l1, l2⟩ := (a3 rfl).2.2.2.2.2.1
    obtain ⟨n, e, p1, p2, p3, p4⟩ := b3 rfl
    have hnn : n = c2 (K 0) Q 10 := by
      have := p3 tru
      rw [c2_tru] at this
      rw [← this]; exact (cN_tru n).symm
    have hn := c2_150 W Q
    refine ⟨aI l, w1, w2, ?_, ?_, (H.sx a2).sx b2⟩
    · show fX9_least w x = _
      unfold fX9_least
      rw [a1, bW_some, if_neg (by decide), l1]
    · show fX10_least w1 x = _
      unfold fX10_least
      rw [b1, bW_some, if_neg (by decide), p1]
      by_cases hz : n = 0
      · subst hz
        rw [if_pos (show nI 0 = 0 from rfl)]
        have : LeastP (K 0) Q 0 := ⟨by omega, fun _ h g u v => by
          cases q : Q h g with
          | false => rfl
          | true =>
            have := (c2_pos (N := K 0) (q := Q) 10).mpr ⟨h, g, u, v, q⟩
            omega, fun z => by omega⟩
        rw [l2.eq this]
        rfl
      · obtain ⟨y1, y2⟩ := p4 (by omega)
        obtain ⟨k1, k2, k3⟩ := p2 0 (by omega)
        rw [if_neg (nI_ne0 (by omega) (by omega)), if_pos (show inB 0 150 = true from rfl), ix_0, k1, show nI (100 * (e 0).1 + (e 0).2) / 100 = nI ((100 * (e 0).1 + (e 0).2) / 100) from pk_div (d := 100) (by omega) (by omega) (by omega), show (100 * (e 0).1 + (e 0).2) / 100 = (e 0).1 by omega]
        have : LeastP (K 0) Q ((e 0).1 + 1) := ⟨by omega, fun z => by omega, fun _ => ⟨⟨(e 0).2, k3, by rw [Nat.add_sub_cancel]; exact y1⟩, fun h g u v z => by have := y2 h g u v z; omega⟩⟩
        rw [l2.eq this, aI_s]
  · have hl := (r_neg hr).mpr c
    refine ⟨r, w1, w2, ?_, ?_, (H.sx a2).sx b2⟩
    · show fX9_least w x = _
      unfold fX9_least
      rw [a1, bW_some, if_pos hl]
    · show fX10_least w1 x = _
      unfold fX10_least
      rw [b1, bW_some, if_pos hl]
theorem ag_ask {w : HW} (H : Rel w) (x : Int32) : Agree w (fX9_ask · x) (fX10_ask · x) := by
  obtain ⟨HO, K, W, HR, kn, ks, HN, HC⟩ := id H
  obtain ⟨r, A, B, Q, hr, h0, ⟨w1, a1, a2, a3⟩, b⟩ := seen_ok HO W HR HN HC x
  obtain ⟨w2, b1, b2, b3⟩ := b w1 a2
  by_cases c : r = 0
  · subst c
    obtain ⟨w3, q1, q2⟩ := askOf_ok W ((HR.sx a2).sx b2) (b3 rfl)
    refine ⟨aI (bst K Q (K 0)).1, w1, w3, ?_, ?_, ((H.sx a2).sx b2).sx (rX10_askOf Sx.rf _ q1)⟩
    · show fX9_ask w x = _
      unfold fX9_ask
      simp only [a1, bW_some, if_neg (show ¬ (0 : Int32) < 0 by decide), now_ok (HN.sx a2), (HC.sx a2).c1, know_ok (a3 rfl) W, bI_some]
    · show fX10_ask w1 x = _
      unfold fX10_ask
      rw [b1, bW_some, if_neg (by decide), q1, bW_some]
  · have hl := (r_neg hr).mpr c
    refine ⟨r, w1, w2, ?_, ?_, (H.sx a2).sx b2⟩
    · show fX9_ask w x = _
      unfold fX9_ask
      rw [a1, bW_some, if_pos hl]
    · show fX10_ask w1 x = _
      unfold fX10_ask
      rw [b1, bW_some, if_pos hl]
theorem ag_leaves {w : HW} (H : Rel w) (x : Int32) : Agree w (fX9_leaves · x) (fX10_leaves · x) := by
  obtain ⟨HO, K, W, HR, kn, ks, HN, HC⟩ := id H
  obtain ⟨r, A, B, Q, hr, h0, ⟨w1, a1, a2, a3⟩, b⟩ := seen_ok HO W HR HN HC x
  obtain ⟨w2, b1, b2, b3⟩ := b w1 a2
  have hb := W.b
  by_cases c : r = 0
  · subst c
    obtain ⟨w3, q1, q2⟩ := askOf_ok W ((HR.sx a2).sx b2) (b3 rfl)
    refine ⟨nI (bst K Q (K 0)).2, w1, w3, ?_, ?_, ((H.sx a2).sx b2).sx (rX10_askOf Sx.rf _ q1)⟩
    · show fX9_leaves w x = _
      unfold fX9_leaves
      simp only [a1, bW_some, if_neg (show ¬ (0 : Int32) < 0 by decide), now_ok (HN.sx a2), (HC.sx a2).c1, know_ok (a3 rfl) W, bI_some]
      rcases (bst_ok K Q (K 0)).2 with ⟨z1, z2⟩ | ⟨z1, z2, z3⟩
      · rw [z1, if_pos (show aI 0 = -1 from rfl), z2, (a3 rfl).2.2.1]
      · obtain ⟨d, hd⟩ : ∃ d, (bst K Q (K 0)).1 = d + 1 := ⟨(bst K Q (K 0)).1 - 1, by omega⟩
        rw [hd, aI_s, if_neg (nI_ne_m1 (by omega)), left_ok (a3 rfl) W (by omega), bI_some, z3, hd, Nat.add_sub_cancel]
    · show fX10_leaves w1 x = _
      unfold fX10_leaves
      rw [b1, bW_some, if_neg (by decide), q1, bW_some, q2]
  · have hl := (r_neg hr).mpr c
    refine ⟨r, w1, w2, ?_, ?_, (H.sx a2).sx b2⟩
    · show fX9_leaves w x = _
      unfold fX9_leaves
      rw [a1, bW_some, if_pos hl]
    · show fX10_leaves w1 x = _
      unfold fX10_leaves
      rw [b1, bW_some, if_pos hl]
