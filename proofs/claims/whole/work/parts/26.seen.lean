/-! FITS, FED, STARVED, LEAST, ASK, LEAVES -/
theorem seen_ok {w : HW} {K : Nat → Nat} {kn ks : Nat} (HO : RelO w) (W : WF K) (HR : RC w K) (HN : RelN w kn ks) (HC : CC w kn K) (x : Int32) : ∃ (r : Int32) (A B : Nat) (Q : Nat → Nat → Bool), (r = 0 ∨ r = -2 ∨ r = -6) ∧ (r = 0 → 0 < K 0) ∧ (∃ w1, fX9_lookAtSeen w x = some (r, w1) ∧ Sx sc w w1 ∧ (r = 0 → HX K A B w1 Q)) ∧ ∀ w1, Sx sc w w1 → ∃ w2, fX10_layPairs w1 x = some (r, w2) ∧ Sx sc w1 w2 ∧ (r = 0 → HM K w2 Q) := by
  have hb := W.b
  have hkn : kn = 26 ∨ kn = 35 := by have := HN.2.2; omega
  have fx : ∀ (r : Int32) w1, fX9_lookAtSeen w x = some (r, w1) → Sx sc w w1 := fun r w1 h => rX9_lookAtSeen Sx.rf x _ h
  have fm : ∀ w0 (r : Int32) w1, fX10_layPairs w0 x = some (r, w1) → Sx sc w0 w1 := fun w0 r w1 h => rX10_layPairs Sx.rf x _ h
  have mk : ∀ (r : Int32) (A B : Nat) (Q : Nat → Nat → Bool), (r = 0 ∨ r = -2 ∨ r = -6) → (r = 0 → 0 < K 0) → (∃ w1, fX9_lookAtSeen w x = some (r, w1) ∧ (r = 0 → HX K A B w1 Q)) → (∀ w1, Sx sc w w1 → ∃ w2, fX10_layPairs w1 x = some (r, w2) ∧ (r = 0 → HM K w2 Q)) → ∃ (r : Int32) (A B : Nat) (Q : Nat → Nat → Bool), (r = 0 ∨ r = -2 ∨ r = -6) ∧ (r = 0 → 0 < K 0) ∧ (∃ w1, fX9_lookAtSeen w x = some (r, w1) ∧ Sx sc w w1 ∧ (r = 0 → HX K A B w1 Q)) ∧ ∀ w1, Sx sc w w1 → ∃ w2, fX10_layPairs w1 x = some (r, w2) ∧ Sx sc w1 w2 ∧ (r = 0 → HM K w2 Q) := by
    rintro r A B Q h1 h2 ⟨w1, a1, a2⟩ h4
    refine ⟨r, A, B, Q, h1, h2, ⟨w1, a1, fx _ _ a1, a2⟩, fun w1 hw => ?_⟩
    obtain ⟨w2, b1, b2⟩ := h4 w1 hw
    exact ⟨w2, b1, fm _ _ _ b1, b2⟩
  have ex : fX9_lookAtSeen w x = if 0 ≤ x ∧ x < nI 4 then (if 0 < K 7 then (if inB x 4 = true then bI (fX5_isThere w (44 + 2 * ix x)) fun r_9 => if r_9 = 0 then some (-6, w) else if inB x 4 = true then bW (fX2_look w kn (44 + 2 * ix x)) fun r_13 w_14 => if ¬ r_13 = 0 then some (0, w_14) else some (-2, w_14) else none else none) else some (-2, w)) else some (-2, w) := by
    unfold fX9_lookAtSeen
    simp only [now_ok HN, X9_hasSlot_ok, X0_isTold_ok HC W, bI_some, if_b01, if_b01', ite_dec]
  have em : ∀ w1, Sx sc w w1 → fX10_layPairs w1 x = if 0 ≤ x ∧ x < nI 4 then (if 0 < K 7 then (if inB x 4 = true then (if gI w1 98 (ix x) = -1 then some (-6, w1) else if inB x 4 = true then (if ¬ iRm (gI w1 98 (ix x)) 2 = 0 then some (-2, w1) else fX10_layPairs_46 x FU w1 0) else none) else none) else some (-2, w1)) else some (-2, w1) := by
    intro w1 hw
    unfold fX10_layPairs
    simp only [X10_isSlot_ok, X10_isCamp_ok (HR.sx hw) W, bI_some, if_b01, if_b01', ite_dec]
  by_cases c : 0 ≤ x ∧ x < nI 4
  · by_cases h7 : 0 < K 7
    · have h0 : 0 < K 0 := W.day.mpr h7
      obtain ⟨s, hs, rfl⟩ := rng_of (by omega) c
      have HS := HO.2.2.2.2 s hs
      rw [if_pos c, if_pos h7, if_pos (inB_nI (by omega) (by omega)), ix_nI (by omega)] at ex
      have em2 : ∀ w1, Sx sc w w1 → fX10_layPairs w1 (nI s) = (if gI w1 98 s = -1 then some (-6, w1) else (if ¬ iRm (gI w1 98 s) 2 = 0 then some (-2, w1) else fX10_layPairs_46 (nI s) FU w1 0)) := by
        intro w1 hw
        rw [em w1 hw, if_pos c, if_pos h7, if_pos (inB_nI (by omega) (by omega)), if_pos (inB_nI (by omega) (by omega)), ix_nI (by omega)]
      rcases HS.2 with ⟨h1, h2⟩ | ⟨d, n, hd, hn, h1, h2, h3, h4⟩
      · refine mk (-6) 0 0 (fun _ _ => true) (Or.inr (Or.inr rfl)) (fun _ => h0) ⟨w, ?_, fun z => absurd z (by decide)⟩ (fun w1 hw => ⟨w1, ?_, fun z => absurd z (by decide)⟩)
        · rw [ex, isThere_n h1, bI_some, if_pos rfl]
        · rw [em2 w1 hw, if_pos (by rw [(hw 98 s (sc_hi (by omega))).1]; exact h2)]
      · have e98 : ∀ w1, Sx sc w w1 → gI w1 98 s = nI n := fun w1 hw => (hw 98 s (sc_hi (by omega))).1.trans h3
        rw [isThere_s h1 hd, bI_some, if_neg (by decide), if_pos (inB_nI (by omega) (by omega))] at ex
        unfold fX2_look fX2_readRow at ex
        rw [lT_eq, lT_eq, gI_uI_ne (by omega), gI_uI_ne (by omega), h2] at ex
        by_cases ho : n % 2 = 0
        · rw [if_neg (fun z => z ((odd_n hn).mpr ho))] at ex
          obtain ⟨m, rfl⟩ : ∃ m, n = 2 * m := ⟨n / 2, by omega⟩
          obtain ⟨r, w1, a0, a1, a2⟩ := readRow_L W (k1 := kn) (k2 := 44 + 2 * s) (m := m) (by omega) (by omega) (fun i => gL w 100 (60 * s + i)) hn FU 0 (uI (uI w 20 5 0) 20 6 0) (by omega) (by rw [FU_eq]; omega) (by rw [gI_uI_ne (by omega), gI_uI_ne (by omega)]; exact HC.c1) (by rw [gI_uI_ne (by omega), gI_uI_ne (by omega)]; exact h2) (fun i hi => by
            rw [show 44 + 2 * s + 1 = 45 + 2 * s by omega]; exact HS.1 i hi) (fun p hp => by omega) (by rw [gI_uI_nf (by omega), gI_uI_at]; rfl) (by rw [gI_uI_at]; rfl)
          have a0' : fX2_readRow_23 kn (44 + 2 * s) FU (uI (uI w 20 5 0) 20 6 0) 0 = some (r, w1) := a0
          rw [a0', bW_some] at ex
          have mm : ∀ w1, Sx sc w w1 → ∃ r w2, fX10_layPairs w1 (nI s) = some (r, w2) ∧ ((r = 0 ∧ pOk (K 0) (fun i => gL w 100 (60 * s + i)) m ∧ HM K w2 (fun h g => fitB K (fun i => gL w 100 (60 * s + i)) h g m)) ∨ (r = -2 ∧ ¬ pOk (K 0) (fun i => gL w 100 (60 * s + i)) m)) := by
            intro w1 hw
            obtain ⟨r, w2, b0, b1⟩ := pairs46_L W h0 (s := s) (m := m) hs (v := fun i => gL w 100 (60 * s + i)) hn FU 0 w1 (by omega) (by rw [FU_eq]; omega) ⟨HR.sx hw, e98 _ hw, fun i hi => (hw _ _ (sc_hi (by omega))).2.1⟩ (fun p hp => by omega)
            refine ⟨r, w2, ?_, b1⟩
            rw [em2 w1 hw, e98 w1 hw, if_neg (nI_ne_m1 (by omega)), if_neg (fun z => z ((odd_n hn).mpr ho))]
            exact b0
          rcases a1 with ⟨rfl, hp, g5, g6⟩ | ⟨rfl, hp⟩
          · have fa := fun h g => fitAB_ok W (h := h) (g := g) m hp
            have hA := lt31 W (fa 0 0).2.1
            have hB := lt31 W (fa 0 0).2.2
            rw [if_neg (by decide), lT_eq, lT_eq, lT_eq, lT_eq] at ex
            obtain ⟨w2, y0, y1, y2⟩ := look33_L (k := kn) (by omega) W hA hB FU 0 (uI (uI (uI (uI w1 20 0 0) 20 1 0) 20 2 0) 20 3 (-1)) (by omega) (by rw [FU_eq]; omega) (by
              rw [gI_uI_ne (by omega), gI_uI_ne (by omega), gI_uI_ne (by omega), gI_uI_ne (by omega), a2 _ _ (by omega), gI_uI_ne (by omega), gI_uI_ne (by omega)]; exact HC.c1) (by
              rw [gI_uI_ne (by omega), gI_uI_ne (by omega), gI_uI_ne (by omega), gI_uI_ne (by omega), a2 _ _ (by omega), gI_uI_ne (by omega), gI_uI_ne (by omega)]; exact HC.c3) (by
              rw [gI_uI_nf (by omega), gI_uI_nf (by omega), gI_uI_nf (by omega), gI_uI_nf (by omega)]; exact g5) (by
              rw [gI_uI_nf (by omega), gI_uI_nf (by omega), gI_uI_nf (by omega), gI_uI_nf (by omega)]; exact g6) (by
              rw [gI_uI_nf (by omega), gI_uI_nf (by omega), gI_uI_nf (by omega), gI_uI_at]) (by
              rw [gI_uI_nf (by omega), gI_uI_nf (by omega), gI_uI_at]) (by
              rw [gI_uI_nf (by omega), gI_uI_at]) (by rw [gI_uI_at]) (fun d hd => by omega)
            have y0' : fX2_look_33 kn FU (uI (uI (uI (uI w1 20 0 0) 20 1 0) 20 2 0) 20 3 (-1)) 0 = some (1, w2) := y0
            rw [y0', bW_some, if_pos (by decide)] at ex
            rw [show fitAB K (aM (fun i => gL w 100 (60 * s + i)) m) (bM (fun i => gL w 100 (60 * s + i)) m) = (fun h g => fitB K (fun i => gL w 100 (60 * s + i)) h g m) from funext fun h => funext fun g => (fa h g).1] at y1
            refine mk 0 _ _ _ (Or.inl rfl) (fun _ => h0) ⟨w2, ex, fun _ => y1⟩ (fun w1 hw => ?_)
            obtain ⟨r, w2, b0, b1⟩ := mm w1 hw
            rcases b1 with ⟨rfl, _, b1⟩ | ⟨_, b1⟩
            · exact ⟨w2, b0, fun _ => b1⟩
            · exact absurd hp b1
          · rw [if_pos rfl, bW_some, if_neg (by decide)] at ex
            refine mk (-2) 0 0 (fun _ _ => true) (Or.inr (Or.inl rfl)) (fun _ => h0) ⟨w1, ex, fun z => absurd z (by decide)⟩ (fun w1 hw => ?_)
            obtain ⟨r, w2, b0, b1⟩ := mm w1 hw
            rcases b1 with ⟨_, b1, _⟩ | ⟨rfl, b1⟩
            · exact absurd b1 hp
            · exact ⟨w2, b0, fun z => absurd z (by decide)⟩
        · rw [if_pos (fun z => ho ((odd_n hn).mp z)), bW_some, if_pos rfl, bW_some, if_neg (by decide)] at ex
          refine mk (-2) 0 0 (fun _ _ => true) (Or.inr (Or.inl rfl)) (fun _ => h0) ⟨_, ex, fun z => absurd z (by decide)⟩ (fun w1 hw => ⟨w1, ?_, fun z => absurd z (by decide)⟩)
          rw [em2 w1 hw, e98 w1 hw, if_neg (nI_ne_m1 (by omega)), if_pos (fun z => ho ((odd_n hn).mp z))]
    · refine mk (-2) 0 0 (fun _ _ => true) (Or.inr (Or.inl rfl)) (fun z => absurd z (by decide)) ⟨w, ?_, fun z => absurd z (by decide)⟩ (fun w1 hw => ⟨w1, ?_, fun z => absurd z (by decide)⟩)
      · rw [ex, if_pos c, if_neg h7]
      · rw [em w1 hw, if_pos c, if_neg h7]
  · refine mk (-2) 0 0 (fun _ _ => true) (Or.inr (Or.inl rfl)) (fun z => absurd z (by decide)) ⟨w, ?_, fun z => absurd z (by decide)⟩ (fun w1 hw => ⟨w1, ?_, fun z => absurd z (by decide)⟩)
    · rw [ex, if_neg c]
    · rw [em w1 hw, if_neg c]
