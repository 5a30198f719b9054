/-! THE CALL camp -/
theorem gR_uR_at {w : HW} {c f : Nat} {v : Nat} : gR (uR w c f v) c f = v := by rw [gR_uR, if_pos ⟨rfl, rfl⟩]
theorem gR_uR_nf {w : HW} {c f b : Nat} {v : Nat} (h : b ≠ f) : gR (uR w c f v) c b = gR w c b := by rw [gR_uR, if_neg (fun z => h z.2)]
theorem gR_uR_ne {w : HW} {c f a b : Nat} {v : Nat} (h : a ≠ c) : gR (uR w c f v) a b = gR w a b := by rw [gR_uR, if_neg (fun z => h z.1)]
section AGC
variable {B : Nat → Int32} {t k : Nat} {w : HW}
/-- what the whole tape reads as -/
def rdA (B : Nat → Int32) (t : Nat) : ZZ × (Nat → Nat) := rdF B t 800 (zt B t 0 0 0) (fun _ => 0)
theorem readAll_ok (ht : t ≤ 800) (hk : 26 ≤ k) (hC : isC k = true) (h11 : gI w 1 1 = nI t) (hB : ∀ i, i < 800 → gI w 2 i = B i) : ∃ w', fX4_read w k = some (b01 (decide ((rdA B t).1.f = 0)), w') ∧ gI w' 3 0 = nI (rdA B t).1.f ∧ gI w' 3 1 = aI (rdA B t).1.p ∧ ((rdA B t).1.f = 0 → CC w' k (rdA B t).2) ∧ (∀ c f, c ≠ 3 → (c < k ∨ k + 8 < c) → gI w' c f = gI w c f ∧ gL w' c f = gL w c f ∧ gR w' c f = gR w c f) := by
  obtain ⟨w8, e8⟩ : ∃ w8, w8 = uI (uI (uI (uI (uI (uI (uI (uI (uI (uI (uI (uI (uR (uR w 3 2 1) 3 3 k) k 0 0) k 1 0) k 2 0) k 3 0) k 4 0) k 5 0) k 6 0) k 10 0) k 14 0) 3 0 0) 3 1 (-1)) 3 6 0 := ⟨_, rfl⟩
  have f8 : ∀ c f, c ≠ 3 → (c < k ∨ k + 8 < c) → gI w8 c f = gI w c f ∧ gL w8 c f = gL w c f ∧ gR w8 c f = gR w c f := fun c f h1 h2 => by
    rw [e8]
    refine ⟨?_, ?_, ?_⟩
    · simp (disch := omega) only [gI_uI_ne, gI_uR]
    · simp only [gL_uI, gL_uR]
    · simp (disch := omega) only [gR_uI, gR_uR_ne]
  have E : CE B t k w8 := by
    refine ⟨hC, ?_, ?_, ?_, fun i hi => ?_⟩
    · rw [e8]
      simp (disch := omega) only [gR_uI, gR_uR_nf, gR_uR_at]
    · rw [e8]
      simp only [gR_uI, gR_uR_at]
    · rw [(f8 1 1 (by omega) (by omega)).1]; exact h11
    · rw [(f8 2 i (by omega) (by omega)).1]; exact hB i hi
  have g0 : gI w8 3 0 = 0 := by rw [e8]; simp (disch := omega) only [gI_uI_nf, gI_uI_at]
  have g1 : gI w8 3 1 = -1 := by rw [e8]; simp (disch := omega) only [gI_uI_nf, gI_uI_at]
  have g6 : gI w8 3 6 = nI 0 := by rw [e8, gI_uI_at]; rfl
  have gk : ∀ f, (f = 0 ∨ f = 1 ∨ f = 2 ∨ f = 3 ∨ f = 4 ∨ f = 5 ∨ f = 6 ∨ f = 10 ∨ f = 14) → gI w8 k f = nI 0 := fun f hf => by
    rw [e8]
    rcases hf with rfl | rfl | rfl | rfl | rfl | rfl | rfl | rfl | rfl <;> simp (disch := omega) only [gI_uI_ne, gI_uI_nf, gI_uI_at] <;> rfl
  obtain ⟨w10, q1, q2, q3, q4, q5, q6⟩ := step_ok E ht g6 (Nat.zero_le _)
  have C10 : CR B t k w10 (zt B t 0 0 0) := ⟨E.of (q6.mono p43), ZI.mk0 (by omega) (by omega) (Nat.zero_le _), (q6 3 0 rfl).1.trans g0, (q6 3 1 rfl).1.trans g1, q2, q3, q4, q5⟩
  have gk' : ∀ f, (f = 0 ∨ f = 1 ∨ f = 2 ∨ f = 3 ∨ f = 4 ∨ f = 5 ∨ f = 6 ∨ f = 10 ∨ f = 14) → gI w10 k f = nI 0 := fun f hf => ((q6.mono p43) k f (p3_ne (by omega))).1.trans (gk f hf)
  have HC10 : CC w10 k (fun _ => 0) := ⟨hC, ⟨gk' 0 (by omega), gk' 1 (by omega), gk' 2 (by omega), gk' 3 (by omega), gk' 4 (by omega), gk' 5 (by omega), gk' 6 (by omega), gk' 10 (by omega), gk' 14 (by omega)⟩, fun a ha => absurd ha (Nat.not_lt_zero _), fun b hb => absurd hb (Nat.not_lt_zero _), fun i hi => absurd hi (Nat.not_lt_zero _)⟩
  obtain ⟨w11, r1, r2, r3, r4⟩ := readX_L ht hk FU 0 w10 (zt B t 0 0 0) (fun _ => 0) (by omega) (by rw [FU_eq]; omega) C10 JJ_0 (fun _ => HC10)
  refine ⟨w11, ?_, r2.2.2.1, r2.2.2.2.1, r4, fun c f h1 h2 => ?_⟩
  · unfold fX4_read
    rw [lT_eq, lT_eq, lT_eq, gR_uR_at, if_pos hC]
    unfold fX0_forget
    rw [lT_eq, lT_eq, lT_eq, lT_eq, lT_eq, lT_eq, lT_eq, lT_eq, lT_eq, bI_some, lT_eq, lT_eq, lT_eq, ← e8, q1, bI_some]
    exact r1
  · obtain ⟨x1, x2, x3⟩ := r3 c f (p3_ne h1) h2
    obtain ⟨y1, y2, y3⟩ := (q6.mono p43) c f (p3_ne h1)
    obtain ⟨z1, z2, z3⟩ := f8 c f h1 h2
    exact ⟨x1.trans (y1.trans z1), x2.trans (y2.trans z2), x3.trans (y3.trans z3)⟩
theorem p8_nf {f : Nat} (h : f < 8 ∨ 13 < f) : p8 79 f = false := by
  unfold p8
  cases q1 : Nat.ble 8 f
  · rfl
  · cases q2 : Nat.ble f 13
    · rfl
    · have := Nat.le_of_ble_eq_true q1
      have := Nat.le_of_ble_eq_true q2
      omega
theorem refC_ok (ht : t ≤ 800) (h5 : gI w 79 5 = nI t) (hB : ∀ i, i < 800 → gI w 83 i = B i) (hb : ∀ i, i < 800 → isBy (B i)) : ∃ w', fX10_camp w = (if (rdA B t).1.f = 0 then fX10_camp_86 FU w' 0 else some (-4, w')) ∧ gI w' 79 5 = 0 ∧ gI w' 79 12 = nI (rdA B t).1.f ∧ gI w' 79 13 = aI (rdA B t).1.p ∧ RCg (gI w' 85) (rdA B t).2 ∧ ((rdA B t).1.f = 0 → WF (rdA B t).2) ∧ (∀ c f, (c ≠ 79 ∨ (f ≠ 5 ∧ (f < 7 ∨ 13 < f))) → c ≠ 85 → gI w' c f = gI w c f ∧ gL w' c f = gL w c f ∧ gR w' c f = gR w c f) := by
  obtain ⟨w5, e5⟩ : ∃ w5, w5 = uI (uI (uI (uI (uI w 79 7 (nI t)) 79 5 0) 79 8 0) 79 12 0) 79 13 (-1) := ⟨_, rfl⟩
  have f5 : ∀ c f, (c ≠ 79 ∨ (f ≠ 5 ∧ (f < 7 ∨ 13 < f))) → gI w5 c f = gI w c f ∧ gL w5 c f = gL w c f ∧ gR w5 c f = gR w c f := fun c f h => by
    rw [e5]
    refine ⟨?_, rfl, rfl⟩
    rw [gI_uI, if_neg (by omega), gI_uI, if_neg (by omega), gI_uI, if_neg (by omega), gI_uI, if_neg (by omega), gI_uI, if_neg (by omega)]
  have E : ME B t w5 := ⟨by rw [e5]; simp (disch := omega) only [gI_uI_nf, gI_uI_at], fun i hi => by rw [(f5 83 i (by omega)).1]; exact hB i hi, hb⟩
  have g5 : gI w5 79 5 = 0 := by rw [e5]; simp (disch := omega) only [gI_uI_nf, gI_uI_at]
  have g8 : gI w5 79 8 = 0 := by rw [e5]; simp (disch := omega) only [gI_uI_nf, gI_uI_at]
  have g12 : gI w5 79 12 = 0 := by rw [e5]; simp (disch := omega) only [gI_uI_nf, gI_uI_at]
  have g13 : gI w5 79 13 = -1 := by rw [e5, gI_uI_at]
  obtain ⟨w6, q1, q2, q3, q4⟩ := camp30_L ht FU 0 w5 (Nat.zero_le _) (by rw [FU_eq]; omega) E g8 g12 g13 (fun j hj => by omega)
  obtain ⟨w7, r1, r2, r3, r4, r5⟩ := readM_L ht FU 0 w6 (zt B t 0 0 0) (fun _ => 0) (by omega) (by rw [FU_eq]; omega) q2 JJ_0 q4
  have S := q3.tr r3
  refine ⟨w7, ?_, ?_, r2.2.2.1, r2.2.2.2.1, r4, r5, fun c f h1 h2 => ?_⟩
  · unfold fX10_camp
    rw [h5, lT_eq, lT_eq, lT_eq, lT_eq, lT_eq, ← e5, show fX10_camp_30 FU w5 0 = _ from q1, r1]
    rfl
  · rw [(S 79 5 (p8_nf (by omega)) (by omega)).1]; exact g5
  · have hp : p8 c f = false := by
      by_cases e : c = 79
      · subst e; exact p8_nf (by omega)
      · exact p8_ne e
    obtain ⟨x1, x2, x3⟩ := S c f hp h2
    obtain ⟨y1, y2, y3⟩ := f5 c f h1
    exact ⟨x1.trans y1, x2.trans y2, x3.trans y3⟩
theorem RelO.camp {w w2 : HW} {ks : Nat} (HO : RelO w) (hk : ks = 26 ∨ ks = 35) (h1 : gI w2 1 1 = 0) (h5 : gI w2 79 5 = 0) (hF : RelF w2) (fr : ∀ c f, c ≠ 0 → c ≠ 1 → c ≠ 3 → c ≠ 80 → c ≠ 85 → (c < ks ∨ ks + 8 < c) → (c ≠ 79 ∨ (f ≠ 5 ∧ (f < 7 ∨ 13 < f))) → gI w2 c f = gI w c f ∧ gL w2 c f = gL w c f) : RelO w2 := by
  obtain ⟨hT, _, hc, hi, hs⟩ := HO
  refine ⟨⟨⟨0, by omega, h1, h5⟩, fun i q => ?_⟩, hF, hc.of (fun f hf => ?_), fun k q => (hi k q).of ?_ ?_ (fun i q => ?_) (fun c a b f => ?_) (fun g g' K W h1 h2 => RCg.of W h1 h2), fun s q => (hs s q).of (fun i q => ?_) (fun i q => ?_) (fun f => ?_) ?_ ?_⟩
  · rw [(fr 2 i (by omega) (by omega) (by omega) (by omega) (by omega) (by omega) (by omega)).1, (fr 83 i (by omega) (by omega) (by omega) (by omega) (by omega) (by omega) (by omega)).1]
    exact hT.2 i q
  · exact (fr 79 f (by omega) (by omega) (by omega) (by omega) (by omega) (by omega) (by omega)).1
  · exact (fr 25 k (by omega) (by omega) (by omega) (by omega) (by omega) (by omega) (by omega)).1
  · exact (fr 82 k (by omega) (by omega) (by omega) (by omega) (by omega) (by omega) (by omega)).1
  · exact (fr 81 _ (by omega) (by omega) (by omega) (by omega) (by omega) (by omega) (by omega)).1
  · exact (fr c f (by omega) (by omega) (by omega) (by omega) (by omega) (by omega) (by omega)).1
  · exact (fr _ i (by omega) (by omega) (by omega) (by omega) (by omega) (by omega) (by omega)).2
  · exact (fr 100 _ (by omega) (by omega) (by omega) (by omega) (by omega) (by omega) (by omega)).2
  · exact (fr _ f (by omega) (by omega) (by omega) (by omega) (by omega) (by omega) (by omega)).1
  · exact (fr 98 s (by omega) (by omega) (by omega) (by omega) (by omega) (by omega) (by omega)).1
  · exact (fr 99 s (by omega) (by omega) (by omega) (by omega) (by omega) (by omega) (by omega)).1
end AGC
theorem ag_camp {w : HW} (H : Rel w) : Agree w fX9_camp fX10_camp := by
  obtain ⟨HO, K, W, HR, kn, ks, HN, HC⟩ := id H
  obtain ⟨⟨t, t1, t2, t3⟩, t4⟩ := HO.1
  have hks : ks = 26 ∨ ks = 35 := by have := HN.2.2; omega
  have hkn : (kn < ks ∨ ks + 8 < kn) ∧ (kn + 8 < ks ∨ ks + 8 < kn) ∧ 26 ≤ kn ∧ kn ≤ 35 := by have := HN.2.2; omega
  have hCs : isC ks = true := HN.isC.2
  have hCn : isC kn = true := HN.isC.1
  obtain ⟨w1, a1, a2, a3, a4, a5⟩ := readAll_ok (B := gI w 2) (t := t) t1 (show 26 ≤ ks by omega) hCs t2 (fun i _ => rfl)
  -- the reference from any world behind the class
  have ref : ∀ w2 : HW, (∀ c f, c ≠ 0 → c ≠ 1 → c ≠ 3 → (c < ks ∨ ks + 8 < c) → gI w2 c f = gI w c f ∧ gL w2 c f = gL w c f) → ∃ w', fX10_camp w2 = (if (rdA (gI w 2) t).1.f = 0 then fX10_camp_86 FU w' 0 else some (-4, w')) ∧ gI w' 79 5 = 0 ∧ gI w' 79 12 = nI (rdA (gI w 2) t).1.f ∧ gI w' 79 13 = aI (rdA (gI w 2) t).1.p ∧ RCg (gI w' 85) (rdA (gI w 2) t).2 ∧ ((rdA (gI w 2) t).1.f = 0 → WF (rdA (gI w 2) t).2) ∧ (∀ c f, (c ≠ 79 ∨ (f ≠ 5 ∧ (f < 7 ∨ 13 < f))) → c ≠ 85 → gI w' c f = gI w2 c f ∧ gL w' c f = gL w2 c f ∧ gR w' c f = gR w2 c f) := by
    intro w2 fr
    refine refC_ok t1 ?_ (fun i hi => ?_) (fun i hi => ?_)
    · rw [(fr 79 5 (by omega) (by omega) (by omega) (by omega)).1]; exact t3
    · rw [(fr 83 i (by omega) (by omega) (by omega) (by omega)).1]; exact (t4 i hi).1.symm
    · have := (t4 i hi).2
      rw [← (t4 i hi).1] at this
      exact this
  by_cases hf : (rdA (gI w 2) t).1.f = 0
  · have HC1 := a4 hf
    obtain ⟨wx, ewx⟩ : ∃ wx, wx = uR (uR (uI w1 1 1 0) 0 10 ks) 0 11 kn := ⟨_, rfl⟩
    have ix : ∀ c f, c ≠ 1 → gI wx c f = gI w1 c f := fun c f h => by rw [ewx, gI_uR, gI_uR, gI_uI_ne h]
    have frx : ∀ c f, c ≠ 0 → c ≠ 1 → c ≠ 3 → (c < ks ∨ ks + 8 < c) → gI wx c f = gI w c f ∧ gL wx c f = gL w c f := fun c f h0 h1 h3 hk => by
      obtain ⟨x1, x2, _⟩ := a5 c f h3 hk
      refine ⟨(ix c f h1).trans x1, ?_⟩
      rw [ewx, gL_uR, gL_uR, gL_uI]; exact x2
    obtain ⟨w7, b1, b2, b3, b4, b5, b6, b7⟩ := ref wx frx
    obtain ⟨w8, d1, d2, d3, d4⟩ := camp86_L w7 FU 0 w7 (Nat.zero_le _) (by rw [FU_eq]; omega) (fun j hj => by omega) (fun _ _ _ => rfl)
    have W' := b6 hf
    have ex : fX9_camp w = some (nI ((rdA (gI w 2) t).2 7), wx) := by
      unfold fX9_camp
      rw [lT_eq, HN.2.1, if_pos hCs, a1, bW_some, lT_eq, if_b01', ite_dec, if_pos hf, lT_eq, gR_uI, (a5 0 10 (by omega) (by omega)).2.2, HN.1, if_pos hCn, lT_eq, gR_uI, (a5 0 11 (by omega) (by omega)).2.2, HN.2.1, if_pos hCs, lT_eq, lT_eq, lT_eq, gR_uR_nf (by omega), gR_uR_at, if_pos hCs, ← ewx, ix _ _ (by omega), HC1.c0]
    have em : fX10_camp wx = some (nI ((rdA (gI w 2) t).2 7), w8) := by
      rw [b1, if_pos hf, show fX10_camp_86 FU w7 0 = _ from d1, d2 7 (by omega), b5.1.2.2.2.2.2.2.2.1]
    have fr8 : ∀ c f, c ≠ 80 → (c ≠ 79 ∨ (f ≠ 5 ∧ (f < 7 ∨ 13 < f))) → c ≠ 85 → gI w8 c f = gI wx c f ∧ gL w8 c f = gL wx c f ∧ gR w8 c f = gR wx c f := fun c f h1 h2 h3 => by
      obtain ⟨x1, x2, x3⟩ := b7 c f h2 h3
      exact ⟨(d3 c f h1).trans x1, (d4 c f).1.trans x2, (d4 c f).2.trans x3⟩
    refine ⟨_, wx, w8, ex, em, HO.camp hks ?_ ?_ ⟨?_, ?_⟩ (fun c f h0 h1 h3 h80 h85 hk h79 => ?_), (rdA (gI w 2) t).2, W', ?_, ks, kn, ⟨?_, ?_, by have := HN.2.2; omega⟩, ?_⟩
    · rw [(fr8 1 1 (by omega) (by omega) (by omega)).1, ewx, gI_uR, gI_uR, gI_uI_at]
    · rw [d3 _ _ (by omega)]; exact b2
    · rw [(fr8 3 0 (by omega) (by omega) (by omega)).1, ix _ _ (by omega), a2, d3 _ _ (by omega), b3]
    · rw [(fr8 3 1 (by omega) (by omega) (by omega)).1, ix _ _ (by omega), a3, d3 _ _ (by omega), b4]
    · obtain ⟨x1, x2, _⟩ := fr8 c f h80 h79 h85
      obtain ⟨y1, y2⟩ := frx c f h0 h1 h3 hk
      exact ⟨x1.trans y1, x2.trans y2⟩
    · exact RCg.of W' (fun i hi => d2 i hi) b5
    · rw [(fr8 0 10 (by omega) (by omega) (by omega)).2.2, ewx, gR_uR_nf (by omega), gR_uR_at]
    · rw [(fr8 0 11 (by omega) (by omega) (by omega)).2.2, ewx, gR_uR_at]
    · exact HC1.of (fun c x y f => by rw [(fr8 c f (by omega) (by omega) (by omega)).1, ix c f (by omega)])
  · obtain ⟨wx, ewx⟩ : ∃ wx, wx = uI w1 1 1 0 := ⟨_, rfl⟩
    have ix : ∀ c f, c ≠ 1 → gI wx c f = gI w1 c f := fun c f h => by rw [ewx, gI_uI_ne h]
    have frx : ∀ c f, c ≠ 0 → c ≠ 1 → c ≠ 3 → (c < ks ∨ ks + 8 < c) → gI wx c f = gI w c f ∧ gL wx c f = gL w c f := fun c f h0 h1 h3 hk => by
      obtain ⟨x1, x2, _⟩ := a5 c f h3 hk
      refine ⟨(ix c f h1).trans x1, ?_⟩
      rw [ewx, gL_uI]; exact x2
    obtain ⟨w7, b1, b2, b3, b4, b5, b6, b7⟩ := ref wx frx
    have ex : fX9_camp w = some (-4, wx) := by
      unfold fX9_camp
      rw [lT_eq, HN.2.1, if_pos hCs, a1, bW_some, lT_eq, if_b01', ite_dec, if_neg hf, ← ewx]
    have em : fX10_camp wx = some (-4, w7) := by rw [b1, if_neg hf]
    have frR : ∀ f, gR w7 0 f = gR w 0 f := fun f => by
      rw [(b7 0 f (by omega) (by omega)).2.2, ewx, gR_uI]; exact (a5 0 f (by omega) (by omega)).2.2
    refine ⟨_, wx, w7, ex, em, HO.camp hks ?_ b2 ⟨?_, ?_⟩ (fun c f h0 h1 h3 h80 h85 hk h79 => ?_), K, W, ?_, kn, ks, ⟨(frR 10).trans HN.1, (frR 11).trans HN.2.1, HN.2.2⟩, ?_⟩
    · rw [(b7 1 1 (by omega) (by omega)).1, ewx, gI_uI_at]
    · rw [(b7 3 0 (by omega) (by omega)).1, ix _ _ (by omega), a2, b3]
    · rw [(b7 3 1 (by omega) (by omega)).1, ix _ _ (by omega), a3, b4]
    · obtain ⟨x1, x2, _⟩ := b7 c f h79 h85
      obtain ⟨y1, y2⟩ := frx c f h0 h1 h3 hk
      exact ⟨x1.trans y1, x2.trans y2⟩
    · exact HR.cell (fun f => by rw [(b7 80 f (by omega) (by omega)).1]; exact (frx 80 f (by omega) (by omega) (by omega) (by omega)).1)
    · exact HC.of (fun c x y f => by rw [(b7 c f (by omega) (by omega)).1]; exact (frx c f (by omega) (by omega) (by omega) (by omega)).1)
