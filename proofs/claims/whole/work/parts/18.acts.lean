/-! CALLS that change what is kept: end, feed, undo, anew, rate, image, back -/
section PARTS
variable {w w' : HW} {K : Nat → Nat}
theorem RelT.of (H : RelT w) (h1 : gI w' 1 1 = gI w 1 1) (h2 : gI w' 79 5 = gI w 79 5) (h3 : ∀ i, gI w' 2 i = gI w 2 i) (h4 : ∀ i, gI w' 83 i = gI w 83 i) : RelT w' := by
  obtain ⟨⟨t, t1, t2, t3⟩, t4⟩ := H
  exact ⟨⟨t, t1, h1.trans t2, h2.trans t3⟩, fun i hi => by rw [h3, h4]; exact t4 i hi⟩
theorem RelF.of (H : RelF w) (h : ∀ f, f < 2 → gI w' 3 f = gI w 3 f) (h2 : gI w' 79 12 = gI w 79 12) (h3 : gI w' 79 13 = gI w 79 13) : RelF w' :=
  ⟨by rw [h 0 (by omega), h2]; exact H.1, by rw [h 1 (by omega), h3]; exact H.2⟩
theorem RelC.of (H : RelC w) (h : ∀ f, f = 21 ∨ f = 28 ∨ f = 29 ∨ f = 30 ∨ f = 32 → gI w' 79 f = gI w 79 f) : RelC w' :=
  ⟨(h 21 (by omega)).trans H.1, (h 28 (by omega)).trans H.2.1, (h 29 (by omega)).trans H.2.2.1, (h 30 (by omega)).trans H.2.2.2.1, (h 32 (by omega)).trans H.2.2.2.2⟩
theorem RelI.of {k : Nat} (H : RelI w k) (h1 : gI w' 25 k = gI w 25 k) (h2 : gI w' 82 k = gI w 82 k) (h3 : ∀ i, i < 77 → gI w' 81 (77 * k + i) = gI w 81 (77 * k + i)) (h4 : ∀ c, 52 + 9 * k ≤ c → c ≤ 60 + 9 * k → ∀ f, gI w' c f = gI w c f) (hg : ∀ (g g' : Nat → Int32) (K : Nat → Nat), WF K → (∀ i, i < 77 → g' i = g i) → RCg g K → RCg g' K) : RelI w' k := by
  obtain ⟨i1, i2⟩ := H
  refine ⟨by rw [h1, h2]; exact i1, ?_⟩
  rcases i2 with i2 | ⟨i2, K, j1, j2, j3⟩
  · exact Or.inl (h1.trans i2)
  · exact Or.inr ⟨h1.trans i2, K, j1, hg _ _ K j1 h3 j2, j3.of (fun c a b f => h4 c a (by omega) f)⟩
theorem RelS.of {s : Nat} (H : RelS w s) (h1 : ∀ i, i < 60 → gL w' (45 + 2 * s) i = gL w (45 + 2 * s) i) (h2 : ∀ i, i < 60 → gL w' 100 (60 * s + i) = gL w 100 (60 * s + i)) (h3 : ∀ f, gI w' (44 + 2 * s) f = gI w (44 + 2 * s) f) (h4 : gI w' 98 s = gI w 98 s) (h5 : gI w' 99 s = gI w 99 s) : RelS w' s := by
  obtain ⟨s1, s2⟩ := H
  refine ⟨fun i qi => ?_, ?_⟩
  · rw [h1 i qi, h2 i qi]; exact s1 i qi
  · rw [h3, h3, h4, h5]; exact s2
theorem RCg.of {g g' : Nat → Int32} (W : WF K) (h : ∀ i, i < 77 → g' i = g i) (H : RCg g K) : RCg g' K := by
  have hb := W.b
  obtain ⟨⟨r0, r1, r2, r3, r4, r5, r6, r7, r8⟩, ha, hbi, hc⟩ := H
  refine ⟨⟨(h 0 (by omega)).trans r0, (h 1 (by omega)).trans r1, (h 2 (by omega)).trans r2, (h 3 (by omega)).trans r3, (h 4 (by omega)).trans r4, (h 5 (by omega)).trans r5, (h 6 (by omega)).trans r6, (h 7 (by omega)).trans r7, (h 8 (by omega)).trans r8⟩, fun a q => ?_, fun b q => ?_, fun i q => ?_⟩
  · obtain ⟨x, y, z⟩ := ha a q
    exact ⟨(h _ (by omega)).trans x, (h _ (by omega)).trans y, (h _ (by omega)).trans z⟩
  · obtain ⟨x, y, z⟩ := hbi b q
    exact ⟨(h _ (by omega)).trans x, (h _ (by omega)).trans y, (h _ (by omega)).trans z⟩
  · exact (h _ (by omega)).trans (hc i q)
/-- all but the camp in use stays: the two camps in turn, the reference's row, the class's own fields -/
theorem RelO.of (H : RelO w) (h : ∀ c f, (c < 26 ∨ 43 < c) → c ≠ 80 → c ≠ 0 → sc c f = false → gI w' c f = gI w c f ∧ gL w' c f = gL w c f) : RelO w' := by
  obtain ⟨ht, hf, hc, hi, hs⟩ := H
  refine ⟨ht.of ?_ ?_ (fun i => ?_) (fun i => ?_), hf.of (fun f hf => ?_) ?_ ?_, hc.of (fun f hf => ?_), fun k q => (hi k q).of ?_ ?_ (fun i q => ?_) (fun c a b f => ?_) (fun g g' K W h1 h2 => RCg.of W h1 h2), fun s q => (hs s q).of (fun i q => ?_) (fun i q => ?_) (fun f => ?_) ?_ ?_⟩
  · exact (h 1 1 (by omega) (by omega) (by omega) rfl).1
  · exact (h 79 5 (by omega) (by omega) (by omega) rfl).1
  · exact (h 2 i (by omega) (by omega) (by omega) rfl).1
  · exact (h 83 i (by omega) (by omega) (by omega) rfl).1
  · refine (h 3 f (by omega) (by omega) (by omega) ?_).1
    rcases (show f = 0 ∨ f = 1 by omega) with rfl | rfl <;> rfl
  · exact (h 79 12 (by omega) (by omega) (by omega) rfl).1
  · exact (h 79 13 (by omega) (by omega) (by omega) rfl).1
  · refine (h 79 f (by omega) (by omega) (by omega) ?_).1
    rcases hf with rfl | rfl | rfl | rfl | rfl <;> rfl
  · exact (h 25 k (by omega) (by omega) (by omega) (sc_mid (by omega) (by omega))).1
  · exact (h 82 k (by omega) (by omega) (by omega) (sc_hi (by omega))).1
  · exact (h 81 _ (by omega) (by omega) (by omega) (sc_hi (by omega))).1
  · exact (h c f (by omega) (by omega) (by omega) (sc_mid (by omega) (by omega))).1
  · exact (h _ i (by omega) (by omega) (by omega) (sc_mid (by omega) (by omega))).2
  · exact (h 100 _ (by omega) (by omega) (by omega) (sc_hi (by omega))).2
  · exact (h _ f (by omega) (by omega) (by omega) (sc_mid (by omega) (by omega))).1
  · exact (h 98 s (by omega) (by omega) (by omega) (sc_hi (by omega))).1
  · exact (h 99 s (by omega) (by omega) (by omega) (sc_hi (by omega))).1
/-- the camp stays -/
theorem RelK.of (H : RelK w K) (h1 : ∀ f, gI w' 80 f = gI w 80 f) (h2 : ∀ c f, 26 ≤ c → c ≤ 43 → gI w' c f = gI w c f) (h3 : ∀ f, gR w' 0 f = gR w 0 f) : RelK w' K := by
  obtain ⟨W, HR, kn, ks, HN, HC⟩ := H
  refine ⟨W, ?_, kn, ks, ⟨(h3 10).trans HN.1, (h3 11).trans HN.2.1, HN.2.2⟩, HC.of (fun c a b f => h2 c f (by have := HN.2.2; omega) (by have := HN.2.2; omega))⟩
  unfold RC
  rw [show gI w' 80 = gI w 80 from funext h1]
  exact HR
end PARTS
theorem ag_end {w : HW} (H : Rel w) (x : Int32) : Agree w (fX9_end · x) (fX10_end · x) := by
  obtain ⟨HO, K, HK⟩ := id H
  obtain ⟨t, t1, t2, t3⟩ := HO.1.1
  have e2 : ∀ w, gI w 79 5 = nI t → fX10_end w x = if 0 ≤ x ∧ x ≤ nI t then some (x, uI w 79 5 x) else some (-1, w) := by
    intro w h
    unfold fX10_end
    rw [h, in_0, bI_some]
    by_cases c : 0 ≤ x ∧ x ≤ nI t
    · rw [if_pos c, if_pos c]; rfl
    · rw [if_neg c, if_neg c]; rfl
  have e1 : fX9_end w x = if 0 ≤ x ∧ x ≤ nI t then some (x, uI w 1 1 x) else some (-1, w) := by
    unfold fX9_end
    rw [t2]
    by_cases c1 : x < 0
    · rw [if_neg (fun z => z c1), if_neg (fun z => by rw [fa_lt] at c1; have := z.1; rw [fa_le] at this; omega)]
    · rw [if_pos c1]
      by_cases c2 : nI t < x
      · rw [if_pos c2, if_neg (fun z => by rw [fa_lt] at c2; have := z.2; rw [fa_le] at this; omega)]
      · rw [if_neg c2, if_pos ⟨Int32.not_lt.mp c1, Int32.not_lt.mp c2⟩, lT_eq]
  by_cases c : 0 ≤ x ∧ x ≤ nI t
  · rw [if_pos c] at e1
    have e3 := e2 (uI w 1 1 x) (by rw [gI_uI, if_neg (by omega)]; exact t3)
    rw [if_pos c] at e3
    refine ⟨x, _, _, e1, e3, ⟨?_, HO.2.1.of (fun f hf => ?_) ?_ ?_, HO.2.2.1.of (fun f hf => ?_), fun k q => (HO.2.2.2.1 k q).of ?_ ?_ (fun i q => ?_) (fun c a b f => ?_) (fun g g' K W h1 h2 => RCg.of W h1 h2), fun s q => (HO.2.2.2.2 s q).of (fun i q => rfl) (fun i q => rfl) (fun f => ?_) ?_ ?_⟩, K, HK.of (fun f => ?_) (fun c f a b => ?_) (fun f => rfl)⟩
    · obtain ⟨j, hj, rfl⟩ : ∃ j : Nat, j ≤ t ∧ x = nI j := by
        obtain ⟨j, h1, h2⟩ := rng_of (x := x) (n := t + 1) (by omega) ⟨c.1, by
          have h3 := c.2
          rw [fa_le, nI_toInt (by omega)] at h3
          rw [fa_lt, nI_toInt (by omega)]
          omega⟩
        exact ⟨j, by omega, h2⟩
      refine ⟨⟨j, by omega, by simp [gI_uI], by simp [gI_uI]⟩, fun i hi => ?_⟩
      have := HO.1.2 i hi
      simpa [gI_uI] using this
    all_goals (first | (rw [gI_uI, gI_uI, if_neg (by omega), if_neg (by omega)]))
  · rw [if_neg c] at e1
    have e3 := e2 w t3
    rw [if_neg c] at e3
    exact ⟨_, _, _, e1, e3, H⟩
section XU
variable {w w' : HW} {K K' : Nat → Nat} {k : Nat}
/-- fewer acts -/
theorem WF.fewer (W : WF K) {n : Nat} (h : n ≤ K 6) : WF (fun i => if i = 6 then n else K i) := by
  obtain ⟨⟨w0, w1, w2, w3, w4, w5, w6, w7, w8⟩, hz, hp, ha, hb, hc, hd⟩ := W
  have e : ∀ i, (fun i => if i = 6 then n else K i) (57 + i) = K (57 + i) := fun i => if_neg (by omega)
  refine ⟨⟨w0, w1, w2, w3, w4, w5, Nat.le_trans h w6, w7, w8⟩, fun q => ?_, hp, fun a q => ?_, fun b q => ?_, fun i q => ?_, fun i j qi qj q => ?_⟩
  · obtain ⟨z0, z1, z2, z3, z4, z5, z6⟩ := hz q
    exact ⟨z0, z1, z2, z3, z4, z5, by show n = 0; omega⟩
  · have := ha a q
    simp only [show ¬ 9 + 3 * a = 6 by omega, show ¬ 10 + 3 * a = 6 by omega, show ¬ 11 + 3 * a = 6 by omega, if_false]
    exact this
  · have := hb b q
    simp only [show ¬ 33 + 3 * b = 6 by omega, show ¬ 34 + 3 * b = 6 by omega, show ¬ 35 + 3 * b = 6 by omega, if_false]
    exact this
  · rw [e i]; exact hc i (Nat.lt_of_lt_of_le q h)
  · rw [e i, e j]; exact hd i j (Nat.lt_of_lt_of_le qi h) (Nat.lt_of_lt_of_le qj h) q
theorem CC.fewer (H : CC w k K) {n : Nat} (h : n ≤ K 6) : CC (uI w k 14 (nI n)) k (fun i => if i = 6 then n else K i) := by
  obtain ⟨h0, ⟨c0, c1, c2, c3, c4, c5, c6, c10, c14⟩, ha, hb, hc⟩ := H
  have e : ∀ f, f ≠ 14 → gI (uI w k 14 (nI n)) k f = gI w k f := fun f hf => by rw [gI_uI, if_neg (by omega)]
  have e2 : ∀ c f, c ≠ k → gI (uI w k 14 (nI n)) c f = gI w c f := fun c f hc => by rw [gI_uI, if_neg (by omega)]
  refine ⟨h0, ⟨(e 0 (by omega)).trans c0, (e 1 (by omega)).trans c1, (e 2 (by omega)).trans c2, (e 3 (by omega)).trans c3, (e 4 (by omega)).trans c4, (e 5 (by omega)).trans c5, (e 6 (by omega)).trans c6, (e 10 (by omega)).trans c10, by rw [gI_uI, if_pos ⟨rfl, rfl⟩]; rfl⟩, fun a q => ?_, fun b q => ?_, fun i q => ?_⟩
  · obtain ⟨x, y, z⟩ := ha a q
    simp only [show ¬ 9 + 3 * a = 6 by omega, show ¬ 10 + 3 * a = 6 by omega, show ¬ 11 + 3 * a = 6 by omega, if_false]
    exact ⟨(e2 _ _ (by omega)).trans x, (e2 _ _ (by omega)).trans y, (e2 _ _ (by omega)).trans z⟩
  · obtain ⟨x, y, z⟩ := hb b q
    simp only [show ¬ 33 + 3 * b = 6 by omega, show ¬ 34 + 3 * b = 6 by omega, show ¬ 35 + 3 * b = 6 by omega, if_false]
    exact ⟨(e2 _ _ (by omega)).trans x, (e2 _ _ (by omega)).trans y, (e2 _ _ (by omega)).trans z⟩
  · obtain ⟨x, y⟩ := hc i (Nat.lt_of_lt_of_le q h)
    simp only [show ¬ 57 + i = 6 by omega, if_false]
    exact ⟨(e2 _ _ (by omega)).trans x, (e2 _ _ (by omega)).trans y⟩
theorem RC.fewer (H : RC w K) {n : Nat} (h : n ≤ K 6) : RC (uI w 80 6 (nI n)) (fun i => if i = 6 then n else K i) := by
  obtain ⟨⟨r0, r1, r2, r3, r4, r5, r6, r7, r8⟩, ha, hb, hc⟩ := H
  have e : ∀ f, f ≠ 6 → gI (uI w 80 6 (nI n)) 80 f = gI w 80 f := fun f hf => by rw [gI_uI, if_neg (by omega)]
  refine ⟨⟨(e 0 (by omega)).trans r0, (e 1 (by omega)).trans r1, (e 2 (by omega)).trans r2, (e 3 (by omega)).trans r3, (e 4 (by omega)).trans r4, (e 5 (by omega)).trans r5, by rw [gI_uI, if_pos ⟨rfl, rfl⟩]; rfl, (e 7 (by omega)).trans r7, (e 8 (by omega)).trans r8⟩, fun a q => ?_, fun b q => ?_, fun i q => ?_⟩
  · obtain ⟨x, y, z⟩ := ha a q
    simp only [show ¬ 9 + 3 * a = 6 by omega, show ¬ 10 + 3 * a = 6 by omega, show ¬ 11 + 3 * a = 6 by omega, if_false]
    exact ⟨(e _ (by omega)).trans x, (e _ (by omega)).trans y, (e _ (by omega)).trans z⟩
  · obtain ⟨x, y, z⟩ := hb b q
    simp only [show ¬ 33 + 3 * b = 6 by omega, show ¬ 34 + 3 * b = 6 by omega, show ¬ 35 + 3 * b = 6 by omega, if_false]
    exact ⟨(e _ (by omega)).trans x, (e _ (by omega)).trans y, (e _ (by omega)).trans z⟩
  · simp only [show ¬ 57 + i = 6 by omega, if_false]
    exact (e _ (by omega)).trans (hc i (Nat.lt_of_lt_of_le q h))
/-- fewer acts on both sides -/
theorem Rel.fewer {kn ks : Nat} (HO : RelO w) (W : WF K) (HR : RC w K) (HN : RelN w kn ks) (HC : CC w kn K) {n : Nat} (h : n ≤ K 6) : Rel (uI (uI w kn 14 (nI n)) 80 6 (nI n)) := by
  have hkn : kn = 26 ∨ kn = 35 := by have := HN.2.2; omega
  refine ⟨HO.of (fun c f h1 h2 h3 _ => ?_), _, W.fewer h, RC.fewer (w := uI w kn 14 (nI n)) ?_ h, kn, ks, HN, (HC.fewer h).of (fun c a b f => ?_)⟩
  · rw [gI_uI, gI_uI, gL_uI, gL_uI, if_neg (by omega), if_neg (by omega)]
    exact ⟨rfl, rfl⟩
  · unfold RC
    rw [show gI (uI w kn 14 (nI n)) 80 = gI w 80 from funext fun f => by rw [gI_uI, if_neg (by omega)]]
    exact HR
  · rw [gI_uI, if_neg (by omega)]
end XU
theorem now_ok' {α : Type} {w : HW} {kn ks : Nat} (H : RelN w kn ks) (c f : Nat) (v : Int32) (k : Nat → Option α) : (lT (gR (uI w c f v) 0 10) fun j => if isC j = true then k j else none) = k kn := now_ok (w := w) H k
theorem ag_undo {w : HW} (H : Rel w) : Agree w fX9_undo fX10_undo := by
  obtain ⟨HO, K, W, HR, kn, ks, HN, HC⟩ := id H
  have hb := W.b
  have hkn : kn = 26 ∨ kn = 35 := by have := HN.2.2; omega
  have e1 : fX9_undo w = if 0 < K 7 then (if K 6 = 0 then some (-5, w) else some (nI (K 6 - 1), uI w kn 14 (nI (K 6 - 1)))) else some (-2, w) := by
    unfold fX9_undo
    simp only [now_ok HN, X0_isTold_ok HC W, bI_some, if_b01', ite_dec, now_ok' HN]
    rw [HC.c14]
    by_cases h7 : 0 < K 7
    · rw [if_pos h7, if_pos h7]
      by_cases h6 : K 6 = 0
      · rw [if_pos h6, if_pos (by rw [h6]; decide)]
      · rw [if_neg h6, if_neg (fun z => z (show (0 : Int32) < nI (K 6) from nI_lt (a := 0) (by omega) (by omega))), lT_eq, show nI (K 6) - 1 = nI (K 6 - 1) from nI_subI (b := 1) (by omega), now_ok' HN, gI_uI, if_pos ⟨rfl, rfl⟩]
    · rw [if_neg h7, if_neg h7]
  have e2 : ∀ w', RC w' K → fX10_undo w' = if 0 < K 7 then (if K 6 = 0 then some (-5, w') else some (nI (K 6 - 1), uI w' 80 6 (nI (K 6 - 1)))) else some (-2, w') := by
    intro w' HR
    unfold fX10_undo
    rw [X10_isCamp_ok HR W, bI_some, if_b01', ite_dec]
    simp only [if_pos (show inB 6 77 = true from rfl), ix_6]
    rw [HR.r6]
    by_cases h7 : 0 < K 7
    · rw [if_pos h7, if_pos h7]
      by_cases h6 : K 6 = 0
      · rw [if_pos h6, if_pos (by rw [h6]; rfl)]
      · rw [if_neg h6, if_neg (nI_ne0 (by omega) (by omega)), lT_eq, show nI (K 6) - 1 = nI (K 6 - 1) from nI_subI (b := 1) (by omega), gI_uI, if_pos ⟨rfl, rfl⟩]
    · rw [if_neg h7, if_neg h7]
  by_cases h7 : 0 < K 7
  · rw [if_pos h7] at e1
    by_cases h6 : K 6 = 0
    · rw [if_pos h6] at e1
      have e3 := e2 w HR
      rw [if_pos h7, if_pos h6] at e3
      exact ⟨_, _, _, e1, e3, H⟩
    · rw [if_neg h6] at e1
      have e3 := e2 (uI w kn 14 (nI (K 6 - 1))) (by
        unfold RC
        rw [show gI (uI w kn 14 (nI (K 6 - 1))) 80 = gI w 80 from funext fun f => by rw [gI_uI, if_neg (by omega)]]
        exact HR)
      rw [if_pos h7, if_neg h6] at e3
      exact ⟨_, _, _, e1, e3, Rel.fewer HO W HR HN HC (by omega)⟩
  · rw [if_neg h7] at e1
    have e3 := e2 w HR
    rw [if_neg h7] at e3
    exact ⟨_, _, _, e1, e3, H⟩
theorem ag_anew {w : HW} (H : Rel w) : Agree w fX9_anew fX10_anew := by
  obtain ⟨HO, K, W, HR, kn, ks, HN, HC⟩ := id H
  have hb := W.b
  have hkn : kn = 26 ∨ kn = 35 := by have := HN.2.2; omega
  have e1 : fX9_anew w = if 0 < K 7 then some (nI (K 6), uI w kn 14 (nI 0)) else some (-2, w) := by
    unfold fX9_anew
    simp only [now_ok HN, X0_isTold_ok HC W, bI_some, if_b01', ite_dec]
    rw [HC.c14]
    split <;> rfl
  have e2 : ∀ w', RC w' K → fX10_anew w' = if 0 < K 7 then some (nI (K 6), uI w' 80 6 (nI 0)) else some (-2, w') := by
    intro w' HR
    unfold fX10_anew
    rw [X10_isCamp_ok HR W, bI_some, if_b01', ite_dec]
    simp only [if_pos (show inB 6 77 = true from rfl), ix_6]
    rw [HR.r6]
    split <;> rfl
  by_cases h7 : 0 < K 7
  · rw [if_pos h7] at e1
    have e3 := e2 (uI w kn 14 (nI 0)) (by
      unfold RC
      rw [show gI (uI w kn 14 (nI 0)) 80 = gI w 80 from funext fun f => by rw [gI_uI, if_neg (by omega)]]
      exact HR)
    rw [if_pos h7] at e3
    exact ⟨_, _, _, e1, e3, Rel.fewer HO W HR HN HC (by omega)⟩
  · rw [if_neg h7] at e1
    have e3 := e2 w HR
    rw [if_neg h7] at e3
    exact ⟨_, _, _, e1, e3, H⟩
section XRATE
variable {w w' : HW} {K K' : Nat → Nat} {k : Nat}
theorem WF.worth (W : WF K) {b n : Nat} (hb : b < K 5) (hn : n ≤ 99) : WF (fun i => if i = 34 + 3 * b then n else K i) := by
  have hB := W.b
  obtain ⟨⟨w0, w1, w2, w3, w4, w5, w6, w7, w8⟩, hz, hp, ha, hbl, hc, hd⟩ := W
  have e : ∀ i, i < 33 → (fun i => if i = 34 + 3 * b then n else K i) i = K i := fun i hi => if_neg (by omega)
  have e2 : ∀ i, (fun i => if i = 34 + 3 * b then n else K i) (57 + i) = K (57 + i) := fun i => if_neg (by omega)
  unfold WF
  rw [e 0 (by omega), e 1 (by omega), e 2 (by omega), e 3 (by omega), e 4 (by omega), e 5 (by omega), e 6 (by omega), e 7 (by omega), e 8 (by omega)]
  refine ⟨⟨w0, w1, w2, w3, w4, w5, w6, w7, w8⟩, hz, hp, fun a q => ?_, fun c q => ?_, fun i q => ?_, fun i j qi qj q => ?_⟩
  · rw [e _ (by omega), e _ (by omega), e _ (by omega)]; exact ha a q
  · obtain ⟨x, y, z⟩ := hbl c q
    simp only [show ¬ 33 + 3 * c = 34 + 3 * b by omega, show ¬ 35 + 3 * c = 34 + 3 * b by omega, if_false]
    refine ⟨x, ?_, z⟩
    split <;> omega
  · rw [e2]; exact hc i q
  · rw [e2, e2]; exact hd i j qi qj q
theorem CC.worth (H : CC w k K) (W : WF K) {b n : Nat} (hb : b < K 5) : CC (uI w (k + 5) b (nI n)) k (fun i => if i = 34 + 3 * b then n else K i) := by
  have hB := W.b
  obtain ⟨h0, ⟨c0, c1, c2, c3, c4, c5, c6, c10, c14⟩, ha, hbl, hc⟩ := H
  have e : ∀ i, i < 33 → (fun i => if i = 34 + 3 * b then n else K i) i = K i := fun i hi => if_neg (by omega)
  have e2 : ∀ i, (fun i => if i = 34 + 3 * b then n else K i) (57 + i) = K (57 + i) := fun i => if_neg (by omega)
  have g : ∀ c f, c ≠ k + 5 → gI (uI w (k + 5) b (nI n)) c f = gI w c f := fun c f hc => by rw [gI_uI, if_neg (by omega)]
  unfold CC
  rw [e 0 (by omega), e 1 (by omega), e 2 (by omega), e 3 (by omega), e 4 (by omega), e 5 (by omega), e 6 (by omega), e 7 (by omega), e 8 (by omega)]
  refine ⟨h0, ⟨(g _ _ (by omega)).trans c0, (g _ _ (by omega)).trans c1, (g _ _ (by omega)).trans c2, (g _ _ (by omega)).trans c3, (g _ _ (by omega)).trans c4, (g _ _ (by omega)).trans c5, (g _ _ (by omega)).trans c6, (g _ _ (by omega)).trans c10, (g _ _ (by omega)).trans c14⟩, fun a q => ?_, fun c q => ?_, fun i q => ?_⟩
  · rw [e _ (by omega), e _ (by omega), e _ (by omega), g _ _ (by omega), g _ _ (by omega), g _ _ (by omega)]; exact ha a q
  · obtain ⟨x, y, z⟩ := hbl c q
    simp only [show ¬ 33 + 3 * c = 34 + 3 * b by omega, show ¬ 35 + 3 * c = 34 + 3 * b by omega, if_false]
    refine ⟨(g _ _ (by omega)).trans x, ?_, (g _ _ (by omega)).trans z⟩
    rw [gI_uI]
    by_cases hcb : c = b
    · subst hcb; rw [if_pos ⟨rfl, rfl⟩, if_pos rfl]
    · rw [if_neg (by omega), if_neg (by omega)]; exact y
  · rw [e2, g _ _ (by omega), g _ _ (by omega)]; exact hc i q
theorem RC.worth (H : RC w K) (W : WF K) {b n : Nat} (hb : b < K 5) : RC (uI w 80 (34 + 3 * b) (nI n)) (fun i => if i = 34 + 3 * b then n else K i) := by
  have hB := W.b
  obtain ⟨⟨r0, r1, r2, r3, r4, r5, r6, r7, r8⟩, ha, hbl, hc⟩ := H
  have e : ∀ i, i < 33 → (fun i => if i = 34 + 3 * b then n else K i) i = K i := fun i hi => if_neg (by omega)
  have e2 : ∀ i, (fun i => if i = 34 + 3 * b then n else K i) (57 + i) = K (57 + i) := fun i => if_neg (by omega)
  have g : ∀ f, f ≠ 34 + 3 * b → gI (uI w 80 (34 + 3 * b) (nI n)) 80 f = gI w 80 f := fun f hf => by rw [gI_uI, if_neg (by omega)]
  unfold RC RCg
  rw [e 0 (by omega), e 1 (by omega), e 2 (by omega), e 3 (by omega), e 4 (by omega), e 5 (by omega), e 6 (by omega), e 7 (by omega), e 8 (by omega)]
  refine ⟨⟨(g _ (by omega)).trans r0, (g _ (by omega)).trans r1, (g _ (by omega)).trans r2, (g _ (by omega)).trans r3, (g _ (by omega)).trans r4, (g _ (by omega)).trans r5, (g _ (by omega)).trans r6, (g _ (by omega)).trans r7, (g _ (by omega)).trans r8⟩, fun a q => ?_, fun c q => ?_, fun i q => ?_⟩
  · rw [e _ (by omega), e _ (by omega), e _ (by omega), g _ (by omega), g _ (by omega), g _ (by omega)]; exact ha a q
  · obtain ⟨x, y, z⟩ := hbl c q
    simp only [show ¬ 33 + 3 * c = 34 + 3 * b by omega, show ¬ 35 + 3 * c = 34 + 3 * b by omega, if_false]
    refine ⟨(g _ (by omega)).trans x, ?_, (g _ (by omega)).trans z⟩
    rw [gI_uI]
    by_cases hcb : c = b
    · subst hcb; rw [if_pos ⟨rfl, rfl⟩, if_pos rfl]
    · rw [if_neg (by omega), if_neg (by omega)]; exact y
  · rw [e2, g _ (by omega)]; exact hc i q
end XRATE
theorem ag_rate {w : HW} (H : Rel w) (x y : Int32) : Agree w (fX9_rate · x y) (fX10_rate · x y) := by
  obtain ⟨HO, K, W, HR, kn, ks, HN, HC⟩ := id H
  have hb := W.b
  have hkn : kn = 26 ∨ kn = 35 := by have := HN.2.2; omega
  have e1 : fX9_rate w x y = if 0 ≤ x ∧ x < nI (K 5) then (if 0 ≤ y ∧ y < nI 100 then (if 0 < nI (K 6) then some (-5, w) else (if inB x 8 = true then (if inB x 8 = true then some (gI w (kn + 5) (ix x), uI w (kn + 5) (ix x) y) else none) else none)) else some (-2, w)) else some (-2, w) := by
    unfold fX9_rate
    simp only [now_ok HN, X0_hasBill_ok HC W, isWorth_ok, bI_some, if_b01, if_b01', ite_dec, HC.c14]
    rfl
  have e2 : ∀ w', RC w' K → fX10_rate w' x y = if 0 ≤ x ∧ x < nI (K 5) then (if 0 ≤ y ∧ y < nI 100 then (if 0 < nI (K 6) then some (-5, w') else bI (fX10_of w' x 1) fun r => if inB ((33 + (3 * x)) + 1) 77 = true then some (r, uI w' 80 (ix ((33 + (3 * x)) + 1)) y) else none) else some (-2, w')) else some (-2, w') := by
    intro w' HR
    unfold fX10_rate
    rw [X10_isBill_ok HR W, bI_some, if_b01, ite_dec, in_lit w' y 99 99 99 rfl rfl (by omega), bI_some, if_b01', ite_dec]
    simp only [if_pos (show inB 6 77 = true from rfl), ix_6, HR.r6]
    rfl
  by_cases c1 : 0 ≤ x ∧ x < nI (K 5)
  · rw [if_pos c1] at e1
    by_cases c2 : 0 ≤ y ∧ y < nI 100
    · rw [if_pos c2] at e1
      by_cases c3 : 0 < nI (K 6)
      · rw [if_pos c3] at e1
        have e3 := e2 w HR
        rw [if_pos c1, if_pos c2, if_pos c3] at e3
        exact ⟨_, _, _, e1, e3, H⟩
      · rw [if_neg c3] at e1
        obtain ⟨b, hbl, rfl⟩ := rng_of (by omega) c1
        obtain ⟨n, hn, rfl⟩ := rng_of (by omega) c2
        rw [if_pos (inB_nI (by omega) (by omega)), if_pos (inB_nI (by omega) (by omega)), ix_nI (by omega), (HC.bil hbl).2.1] at e1
        have HR2 : RC (uI w (kn + 5) b (nI n)) K := by
          unfold RC
          rw [show gI (uI w (kn + 5) b (nI n)) 80 = gI w 80 from funext fun f => by rw [gI_uI, if_neg (by omega)]]
          exact HR
        have e3 := e2 _ HR2
        rw [if_pos c1, if_pos c2, if_neg c3, X10_of_1 HR2 W hbl, bI_some, show (33 : Int32) + 3 * nI b + 1 = nI (33 + 3 * b + 1) from idx3 33 b 1, if_pos (inB_nI (by omega) (by omega)), ix_nI (by omega), show 33 + 3 * b + 1 = 34 + 3 * b by omega] at e3
        refine ⟨_, _, _, e1, e3, HO.of (fun c f h1 h2 h3 _ => ?_), _, W.worth hbl (n := n) (by omega), RC.worth HR2 W hbl, kn, ks, HN, (HC.worth W hbl).of (fun c a b f => ?_)⟩
        · rw [gI_uI, gI_uI, gL_uI, gL_uI, if_neg (by omega), if_neg (by omega)]
          exact ⟨rfl, rfl⟩
        · rw [gI_uI, if_neg (by omega)]
    · rw [if_neg c2] at e1
      have e3 := e2 w HR
      rw [if_pos c1, if_neg c2] at e3
      exact ⟨_, _, _, e1, e3, H⟩
  · rw [if_neg c1] at e1
    have e3 := e2 w HR
    rw [if_neg c1] at e3
    exact ⟨_, _, _, e1, e3, H⟩
theorem gI_uC_ne {w : HW} {c0 c1 i k n a b : Nat} (h : a ≠ c1) : gI (uC w c0 c1 i k n) a b = gI w a b := by rw [gI_uC, if_neg (fun z => h z.1)]
theorem gI_uC_in {w : HW} {c0 c1 n b : Nat} (h : b < n) : gI (uC w c0 c1 0 0 n) c1 b = gI w c0 b := by rw [gI_uC, if_pos ⟨rfl, by omega, by omega⟩, Nat.sub_zero, Nat.zero_add]
theorem gI_uI_ne {w : HW} {c f a b : Nat} {v : Int32} (h : a ≠ c) : gI (uI w c f v) a b = gI w a b := by rw [gI_uI, if_neg (fun z => h z.1)]
theorem gI_uI_nf {w : HW} {c f b : Nat} {v : Int32} (h : b ≠ f) : gI (uI w c f v) c b = gI w c b := by rw [gI_uI, if_neg (fun z => h z.2)]
theorem gI_uI_at {w : HW} {c f : Nat} {v : Int32} : gI (uI w c f v) c f = v := by rw [gI_uI, if_pos ⟨rfl, rfl⟩]
/-- one camp's cells made like another's -/
theorem becomeLike_ok {w : HW} {a b : Nat} (ha : isC a = true) (hb : isC b = true) (hne : a ≠ b) : ∃ w', fX0_becomeLike w a b = some w' ∧ (∀ f, f < 7 ∨ f = 10 ∨ f = 14 → gI w' a f = gI w b f) ∧ (∀ j i, 1 ≤ j → j ≤ 6 → i < 8 → gI w' (a + j) i = gI w (b + j) i) ∧ (∀ j i, 7 ≤ j → j ≤ 8 → i < 20 → gI w' (a + j) i = gI w (b + j) i) ∧ (∀ c f, (c < a ∨ a + 8 < c) → gI w' c f = gI w c f) ∧ (∀ c f, gL w' c f = gL w c f) ∧ (∀ c f, gR w' c f = gR w c f) := by
  have h1 := isC_cases ha
  have h2 := isC_cases hb
  have hap : a + 9 ≤ b ∨ b + 9 ≤ a := by omega
  unfold fX0_becomeLike
  simp only [lT_eq, if_pos (show cpB 0 0 8 8 8 = true from rfl), if_pos (show cpB 0 0 20 20 20 = true from rfl), show ix 0 = 0 from rfl, show ix 8 = 8 from rfl, show ix 20 = 20 from rfl]
  refine ⟨_, rfl, fun f hf => ?_, fun j i hj hj2 hi => ?_, fun j i hj hj2 hi => ?_, fun c f hc => ?_, fun c f => rfl, fun c f => rfl⟩
  · rcases (show f = 0 ∨ f = 1 ∨ f = 2 ∨ f = 3 ∨ f = 4 ∨ f = 5 ∨ f = 6 ∨ f = 10 ∨ f = 14 by omega) with rfl | rfl | rfl | rfl | rfl | rfl | rfl | rfl | rfl <;> simp (disch := omega) only [gI_uC_ne, gI_uI_nf, gI_uI_at, gI_uI_ne]
  · rcases (show j = 1 ∨ j = 2 ∨ j = 3 ∨ j = 4 ∨ j = 5 ∨ j = 6 by omega) with rfl | rfl | rfl | rfl | rfl | rfl <;> simp (disch := omega) only [gI_uC_ne, gI_uC_in, gI_uI_ne]
  · rcases (show j = 7 ∨ j = 8 by omega) with rfl | rfl <;> simp (disch := omega) only [gI_uC_ne, gI_uC_in, gI_uI_ne]
  · simp (disch := omega) only [gI_uC_ne, gI_uI_ne]
