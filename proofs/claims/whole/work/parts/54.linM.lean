/-! READING: the lines, by the reference -/
theorem p8_ne {c f : Nat} (h : c ≠ 79) : p8 c f = false := by
  unfold p8
  rw [show (c == 79) = false by simpa using h, Bool.false_and]
/-- the reader's numbers and the row that is filled alone differ -/
def Sgm (w w' : HW) : Prop := ∀ c f, p8 c f = false → c ≠ 85 → gI w' c f = gI w c f ∧ gL w' c f = gL w c f ∧ gR w' c f = gR w c f
theorem Sgm.tr {w w' w2 : HW} (h : Sgm w w') (h2 : Sgm w' w2) : Sgm w w2 := fun c f a b => ⟨(h2 c f a b).1.trans (h c f a b).1, (h2 c f a b).2.1.trans (h c f a b).2.1, (h2 c f a b).2.2.trans (h c f a b).2.2⟩
theorem Sgm.of {w w' : HW} (h : Sx p8 w w') : Sgm w w' := fun c f a _ => h c f a
theorem Sgm.put {w w' : HW} (h : Sgm w w') {f : Nat} {v : Int32} : Sgm w (uI w' 85 f v) := fun a b q1 q2 => by
  obtain ⟨x, y, z⟩ := h a b q1 q2
  rw [gI_uI_ne q2, gL_uI, gR_uI]
  exact ⟨x, y, z⟩
section LNM
variable {B : Nat → Int32} {t : Nat} {w : HW} {z : ZZ} {K : Nat → Nat}
theorem s85 {w' : HW} (h : Sx p8 w w') (f : Nat) : gI w' 85 f = gI w 85 f := (h 85 f (p8_ne (by omega))).1
theorem MR.put (C : MR B t w z) {f : Nat} {v : Int32} : MR B t (uI w 85 f v) z := by
  obtain ⟨⟨e1, e2, e3⟩, I, a, b, c, d, e, g⟩ := C
  refine ⟨⟨by rw [gI_uI_ne (by omega)]; exact e1, fun i hi => by rw [gI_uI_ne (by omega)]; exact e2 i hi, e3⟩, I, ?_, ?_, ?_, ?_, ?_, fun y => ?_⟩ <;> rw [gI_uI_ne (by omega)]
  · exact a
  · exact b
  · exact c
  · exact d
  · exact e
  · exact g y
theorem readFirst_ok (ht : t ≤ 800) (C : MR B t w z) (R : RCg (gI w 85) K) : ∃ w', fX10_readFirst w = some w' ∧ MR B t w' (frZ B t z) ∧ Sgm w w' ∧ RCg (gI w' 85) (frK B t z K) := by
  obtain ⟨w1, a1, c1, s1⟩ := C.word ht (q := 0) (by omega)
  obtain ⟨w2, a2, c2, s2⟩ := c1.told ht (q := 1) (lo := 1) (n := 15) (by omega) (by omega) (by omega)
  have d2 := c2.put (f := 0) (v := nI (numV 1 15 (wordZ B t 1 (wordZ B t 0 z))))
  obtain ⟨w3, a3, c3, s3⟩ := d2.told ht (q := 2) (lo := 0) (n := 10) (by omega) (by omega) (by omega)
  have d3 := c3.put (f := 1) (v := nI (numV 0 10 (wordZ B t 2 (numZ B t 1 15 (wordZ B t 1 (wordZ B t 0 z))))))
  obtain ⟨w4, a4, c4, s4⟩ := d3.told ht (q := 3) (lo := 1) (n := 10) (by omega) (by omega) (by omega)
  have d4 := c4.put (f := 2) (v := nI (numV 1 10 (wordZ B t 3 (numZ B t 0 10 (wordZ B t 2 (numZ B t 1 15 (wordZ B t 1 (wordZ B t 0 z))))))))
  obtain ⟨w5, a5, c5, s5⟩ := d4.told ht (q := 4) (lo := 0) (n := 11) (by omega) (by omega) (by omega)
  unfold fX10_readFirst
  rw [a1, bI_some, show fX10_told w1 1 1 14 = _ from a2, bW_some, if_pos (show inB 0 77 = true from rfl), ix_0, lT_eq, show fX10_told (uI w2 85 0 (nI (numV 1 15 (wordZ B t 1 (wordZ B t 0 z))))) 2 0 9 = _ from a3, bW_some, if_pos (show inB 1 77 = true from rfl), ix_1, lT_eq, show fX10_told (uI w3 85 1 (nI (numV 0 10 (wordZ B t 2 (numZ B t 1 15 (wordZ B t 1 (wordZ B t 0 z))))))) 3 1 9 = _ from a4, bW_some, if_pos (show inB 2 77 = true from rfl), ix_2, lT_eq, show fX10_told (uI w4 85 2 (nI (numV 1 10 (wordZ B t 3 (numZ B t 0 10 (wordZ B t 2 (numZ B t 1 15 (wordZ B t 1 (wordZ B t 0 z))))))))) 4 0 10 = _ from a5, bW_some, if_pos (show inB 3 77 = true from rfl), ix_3, lT_eq]
  refine ⟨_, rfl, c5.put, (((((((Sgm.of s1).tr (Sgm.of s2)).put).tr (Sgm.of s3)).put.tr (Sgm.of s4)).put).tr (Sgm.of s5)).put, ?_⟩
  have g0 : ∀ f, f ≠ 0 → f ≠ 1 → f ≠ 2 → f ≠ 3 → gI (uI w5 85 3 (nI (numV 0 11 (wordZ B t 4 (numZ B t 1 10 (wordZ B t 3 (numZ B t 0 10 (wordZ B t 2 (numZ B t 1 15 (wordZ B t 1 (wordZ B t 0 z))))))))))) 85 f = gI w 85 f := fun f q0 q1 q2 q3 => by
    rw [gI_uI_nf q3, s85 s5, gI_uI_nf q2, s85 s4, gI_uI_nf q1, s85 s3, gI_uI_nf q0, s85 s2, s85 s1]
  obtain ⟨⟨r0, r1, r2, r3, r4, r5, r6, r7, r8⟩, hA, hB, hX⟩ := R
  have e : ∀ i, 4 ≤ i → frK B t z K i = K i := fun i q => frK_hi q
  refine ⟨⟨?_, ?_, ?_, ?_, ?_, ?_, ?_, ?_, ?_⟩, fun a ha => ?_, fun b hb => ?_, fun i hi => ?_⟩
  · rw [gI_uI_nf (by omega), s85 s5, gI_uI_nf (by omega), s85 s4, gI_uI_nf (by omega), s85 s3, gI_uI_at]; rfl
  · rw [gI_uI_nf (by omega), s85 s5, gI_uI_nf (by omega), s85 s4, gI_uI_at]; rfl
  · rw [gI_uI_nf (by omega), s85 s5, gI_uI_at]; rfl
  · rw [gI_uI_at]; rfl
  · rw [g0 _ (by omega) (by omega) (by omega) (by omega), e _ (by omega)]; exact r4
  · rw [g0 _ (by omega) (by omega) (by omega) (by omega), e _ (by omega)]; exact r5
  · rw [g0 _ (by omega) (by omega) (by omega) (by omega), e _ (by omega)]; exact r6
  · rw [g0 _ (by omega) (by omega) (by omega) (by omega), e _ (by omega)]; exact r7
  · rw [g0 _ (by omega) (by omega) (by omega) (by omega), e _ (by omega)]; exact r8
  · rw [e _ (by omega)] at ha
    rw [g0 _ (by omega) (by omega) (by omega) (by omega), g0 _ (by omega) (by omega) (by omega) (by omega), g0 _ (by omega) (by omega) (by omega) (by omega), e _ (by omega), e _ (by omega), e _ (by omega)]
    exact hA a ha
  · rw [e _ (by omega)] at hb
    rw [g0 _ (by omega) (by omega) (by omega) (by omega), g0 _ (by omega) (by omega) (by omega) (by omega), g0 _ (by omega) (by omega) (by omega) (by omega), e _ (by omega), e _ (by omega), e _ (by omega)]
    exact hB b hb
  · rw [e _ (by omega)] at hi
    rw [g0 _ (by omega) (by omega) (by omega) (by omega), e _ (by omega)]
    exact hX i hi
theorem readAugurM_ok (ht : t ≤ 800) (W : WF K) (h4 : K 4 < 8) (h6 : K 6 = 0) (C : MR B t w (wordZ B t 6 z)) (R : RCg (gI w 85) K) : ∃ w', fX10_readAugur w = some w' ∧ MR B t w' (auZ B t z K) ∧ Sgm w w' ∧ RCg (gI w' 85) (auK B t z K) := by
  have hb := W.b
  have hF : auF B t z K ≤ K 0 := numV_le
  obtain ⟨⟨r0, r1, r2, r3, r4, r5, r6, r7, r8⟩, hA, hB, hX⟩ := R
  obtain ⟨w1, a1, c1, s1⟩ := C.told ht (q := 7) (lo := 0) (n := 2) (by omega) (by omega) (by omega)
  have d1 := c1.put (f := 9 + 3 * K 4 + 0) (v := nI (numV 0 2 (auZ2 B t z)))
  obtain ⟨w2, a2, c2, s2⟩ := d1.told ht (q := 8) (lo := 0) (n := K 0) (by omega) (by omega) (by omega)
  have d2 := c2.put (f := 9 + 3 * K 4 + 1) (v := nI (auF B t z K))
  obtain ⟨w3, a3, c3, s3⟩ := d2.told ht (q := 9) (lo := auF B t z K) (n := K 0) (by omega) (by omega) (by omega)
  have i0 : ((9 : Int32) + 3 * nI (K 4)) + 0 = nI (9 + 3 * K 4 + 0) := idx3 9 (K 4) 0
  have i1 : ((9 : Int32) + 3 * nI (K 4)) + 1 = nI (9 + 3 * K 4 + 1) := idx3 9 (K 4) 1
  have i2 : ((9 : Int32) + 3 * nI (K 4)) + 2 = nI (9 + 3 * K 4 + 2) := idx3 9 (K 4) 2
  have g1 : gI (uI w1 85 (9 + 3 * K 4 + 0) (nI (numV 0 2 (auZ2 B t z)))) 85 0 = nI (K 0) := by rw [gI_uI_nf (by omega), s85 s1]; exact r0
  have g2 : gI (uI w2 85 (9 + 3 * K 4 + 1) (nI (auF B t z K))) 85 0 = nI (K 0) := by rw [gI_uI_nf (by omega), s85 s2]; exact g1
  have g3 : gI (uI w3 85 (9 + 3 * K 4 + 2) (nI (numV (auF B t z K) (K 0) (auZ6 B t z K)))) 85 4 = nI (K 4) := by rw [gI_uI_nf (by omega), s85 s3, gI_uI_nf (by omega), s85 s2, gI_uI_nf (by omega), s85 s1]; exact r4
  unfold fX10_readAugur
  rw [if_pos (show inB 4 77 = true from rfl), ix_4, r4, lT_eq, i0, i1, i2, show fX10_told w 7 0 1 = _ from a1, bW_some, if_pos (inB_nI (by omega) (by omega)), ix_nI (n := 9 + 3 * K 4 + 0) (by omega), lT_eq, if_pos (show inB 0 77 = true from rfl), ix_0]
  rw [show gI (uI w1 85 (9 + 3 * K 4 + 0) (nI (numV 0 2 (wordZ B t 7 (wordZ B t 6 z))))) 85 0 = nI (K 0) from g1, aI_pred (by omega), show fX10_told (uI w1 85 (9 + 3 * K 4 + 0) (nI (numV 0 2 (wordZ B t 7 (wordZ B t 6 z))))) 8 0 (aI (K 0)) = _ from a2, bW_some, if_pos (inB_nI (by omega) (by omega)), ix_nI (n := 9 + 3 * K 4 + 1) (by omega), lT_eq, if_pos (inB_nI (by omega) (by omega)), if_pos (show inB 0 77 = true from rfl), gI_uI_at]
  rw [show gI (uI w2 85 (9 + 3 * K 4 + 1) (nI (numV 0 (K 0) (wordZ B t 8 (numZ B t 0 2 (wordZ B t 7 (wordZ B t 6 z))))))) 85 0 = nI (K 0) from g2, aI_pred (by omega), show fX10_told (uI w2 85 (9 + 3 * K 4 + 1) (nI (numV 0 (K 0) (wordZ B t 8 (numZ B t 0 2 (wordZ B t 7 (wordZ B t 6 z))))))) 9 (nI (numV 0 (K 0) (wordZ B t 8 (numZ B t 0 2 (wordZ B t 7 (wordZ B t 6 z)))))) (aI (K 0)) = _ from a3, bW_some, if_pos (inB_nI (by omega) (by omega)), ix_nI (n := 9 + 3 * K 4 + 2) (by omega), lT_eq, if_pos (show inB 4 77 = true from rfl), if_pos (show inB 4 77 = true from rfl)]
  rw [show gI (uI w3 85 (9 + 3 * K 4 + 2) (nI (numV (auF B t z K) (K 0) (wordZ B t 9 (numZ B t 0 (K 0) (wordZ B t 8 (numZ B t 0 2 (wordZ B t 7 (wordZ B t 6 z))))))))) 85 4 = nI (K 4) from g3, nI_1, lT_eq]
  refine ⟨_, rfl, c3.put.put, (((((Sgm.of s1).put).tr (Sgm.of s2)).put).tr (Sgm.of s3)).put.put, ?_⟩
  have g0 : ∀ f, f ≠ 4 → f ≠ 9 + 3 * K 4 + 0 → f ≠ 9 + 3 * K 4 + 1 → f ≠ 9 + 3 * K 4 + 2 → gI (uI (uI w3 85 (9 + 3 * K 4 + 2) (nI (numV (auF B t z K) (K 0) (wordZ B t 9 (numZ B t 0 (K 0) (wordZ B t 8 (numZ B t 0 2 (wordZ B t 7 (wordZ B t 6 z))))))))) 85 4 (nI (K 4 + 1))) 85 f = gI w 85 f := fun f q0 q1 q2 q3 => by
    rw [gI_uI_nf q0, gI_uI_nf q3, s85 s3, gI_uI_nf q2, s85 s2, gI_uI_nf q1, s85 s1]
  have e : ∀ i, i ≠ 4 → (i < 9 ∨ 33 ≤ i) → auK B t z K i = K i := fun i q1 q2 => by
    unfold auK
    rw [if_neg (by omega), if_neg (by omega), if_neg (by omega), if_neg q1]
  have e4 : auK B t z K 4 = K 4 + 1 := by
    unfold auK
    rw [if_neg (by omega), if_neg (by omega), if_neg (by omega), if_pos rfl]
  refine ⟨⟨?_, ?_, ?_, ?_, ?_, ?_, ?_, ?_, ?_⟩, fun a ha => ?_, fun b hb => ?_, fun i hi => ?_⟩
  · rw [g0 _ (by omega) (by omega) (by omega) (by omega), e _ (by omega) (by omega)]; exact r0
  · rw [g0 _ (by omega) (by omega) (by omega) (by omega), e _ (by omega) (by omega)]; exact r1
  · rw [g0 _ (by omega) (by omega) (by omega) (by omega), e _ (by omega) (by omega)]; exact r2
  · rw [g0 _ (by omega) (by omega) (by omega) (by omega), e _ (by omega) (by omega)]; exact r3
  · rw [gI_uI_at, e4]
  · rw [g0 _ (by omega) (by omega) (by omega) (by omega), e _ (by omega) (by omega)]; exact r5
  · rw [g0 _ (by omega) (by omega) (by omega) (by omega), e _ (by omega) (by omega)]; exact r6
  · rw [g0 _ (by omega) (by omega) (by omega) (by omega), e _ (by omega) (by omega)]; exact r7
  · rw [g0 _ (by omega) (by omega) (by omega) (by omega), e _ (by omega) (by omega)]; exact r8
  · rw [e4] at ha
    by_cases q : a = K 4
    · subst q
      have e9 : auK B t z K (9 + 3 * K 4) = numV 0 2 (auZ2 B t z) := by unfold auK; rw [if_pos rfl]
      have e10 : auK B t z K (10 + 3 * K 4) = auF B t z K := by unfold auK; rw [if_neg (by omega), if_pos rfl]
      have e11 : auK B t z K (11 + 3 * K 4) = numV (auF B t z K) (K 0) (auZ6 B t z K) := by unfold auK; rw [if_neg (by omega), if_neg (by omega), if_pos rfl]
      rw [e9, e10, e11, show 10 + 3 * K 4 = 9 + 3 * K 4 + 1 by omega, show 11 + 3 * K 4 = 9 + 3 * K 4 + 2 by omega]
      refine ⟨?_, ?_, ?_⟩
      · rw [gI_uI_nf (by omega), gI_uI_nf (by omega), s85 s3, gI_uI_nf (by omega), s85 s2, show 9 + 3 * K 4 = 9 + 3 * K 4 + 0 from rfl, gI_uI_at]
      · rw [gI_uI_nf (by omega), gI_uI_nf (by omega), s85 s3, gI_uI_at]
      · rw [gI_uI_nf (by omega), gI_uI_at]; rfl
    · have hA' := hA a (by omega)
      have e' : ∀ j, 9 ≤ j → j ≤ 11 → auK B t z K (j + 3 * a) = K (j + 3 * a) := fun j p1 p2 => by
        unfold auK
        rw [if_neg (by omega), if_neg (by omega), if_neg (by omega), if_neg (by omega)]
      rw [e' 9 (by omega) (by omega), e' 10 (by omega) (by omega), e' 11 (by omega) (by omega), g0 _ (by omega) (by omega) (by omega) (by omega), g0 _ (by omega) (by omega) (by omega) (by omega), g0 _ (by omega) (by omega) (by omega) (by omega)]
      exact hA'
  · rw [e _ (by omega) (by omega)] at hb
    rw [g0 _ (by omega) (by omega) (by omega) (by omega), g0 _ (by omega) (by omega) (by omega) (by omega), g0 _ (by omega) (by omega) (by omega) (by omega), e _ (by omega) (by omega), e _ (by omega) (by omega), e _ (by omega) (by omega)]
    exact hB b hb
  · rw [e _ (by omega) (by omega)] at hi; omega
theorem bill78_ok (W : WF K) (h5 : K 5 < 8) (h6 : K 6 = 0) (C : MR B t w z) {v1 v2 v3 : Nat} (g33 : gI w 85 (33 + 3 * K 5) = nI v1) (g34 : gI w 85 (34 + 3 * K 5) = nI v2) (R : RCg (gI w 85) K) (K' : Nat → Nat) (hK' : K' = fun i => if i = 33 + 3 * K 5 then v1 else if i = 34 + 3 * K 5 then v2 else if i = 35 + 3 * K 5 then v3 else if i = 5 then K 5 + 1 else K i) : ∃ w', fX10_readBill_78 w (aI v3) (nI (33 + 3 * K 5 + 2)) = some w' ∧ MR B t w' z ∧ Sgm w w' ∧ RCg (gI w' 85) K' := by
  have hb := W.b
  obtain ⟨⟨r0, r1, r2, r3, r4, r5, r6, r7, r8⟩, hA, hB, hX⟩ := R
  unfold fX10_readBill_78
  rw [if_pos (inB_nI (by omega) (by omega)), ix_nI (by omega), lT_eq, if_pos (show inB 5 77 = true from rfl), if_pos (show inB 5 77 = true from rfl), ix_5, gI_uI_nf (by omega), r5, nI_1, lT_eq]
  refine ⟨_, rfl, C.put.put, (Sgm.of Sx.rf).put.put, ?_⟩
  have g0 : ∀ f, f ≠ 5 → f ≠ 33 + 3 * K 5 + 2 → gI (uI (uI w 85 (33 + 3 * K 5 + 2) (aI v3)) 85 5 (nI (K 5 + 1))) 85 f = gI w 85 f := fun f q0 q1 => by rw [gI_uI_nf q0, gI_uI_nf q1]
  have e : ∀ i, i ≠ 5 → (i < 33 ∨ 57 ≤ i) → K' i = K i := fun i q1 q2 => by
    rw [hK']
    show (if i = 33 + 3 * K 5 then v1 else _) = _
    rw [if_neg (by omega), if_neg (by omega), if_neg (by omega), if_neg q1]
  have e5 : K' 5 = K 5 + 1 := by
    rw [hK']
    show (if 5 = 33 + 3 * K 5 then v1 else _) = _
    rw [if_neg (by omega), if_neg (by omega), if_neg (by omega), if_pos rfl]
  refine ⟨⟨?_, ?_, ?_, ?_, ?_, ?_, ?_, ?_, ?_⟩, fun a ha => ?_, fun b hb => ?_, fun i hi => ?_⟩
  · rw [g0 _ (by omega) (by omega), e _ (by omega) (by omega)]; exact r0
  · rw [g0 _ (by omega) (by omega), e _ (by omega) (by omega)]; exact r1
  · rw [g0 _ (by omega) (by omega), e _ (by omega) (by omega)]; exact r2
  · rw [g0 _ (by omega) (by omega), e _ (by omega) (by omega)]; exact r3
  · rw [g0 _ (by omega) (by omega), e _ (by omega) (by omega)]; exact r4
  · rw [gI_uI_at, e5]
  · rw [g0 _ (by omega) (by omega), e _ (by omega) (by omega)]; exact r6
  · rw [g0 _ (by omega) (by omega), e _ (by omega) (by omega)]; exact r7
  · rw [g0 _ (by omega) (by omega), e _ (by omega) (by omega)]; exact r8
  · rw [e _ (by omega) (by omega)] at ha
    have hA' := hA a ha
    rw [g0 _ (by omega) (by omega), g0 _ (by omega) (by omega), g0 _ (by omega) (by omega), e _ (by omega) (by omega), e _ (by omega) (by omega), e _ (by omega) (by omega)]
    exact hA'
  · rw [e5] at hb
    by_cases q : b = K 5
    · subst q
      have e33 : K' (33 + 3 * K 5) = v1 := by rw [hK']; exact if_pos rfl
      have e34 : K' (34 + 3 * K 5) = v2 := by
        rw [hK']
        show (if 34 + 3 * K 5 = 33 + 3 * K 5 then v1 else _) = _
        rw [if_neg (by omega), if_pos rfl]
      have e35 : K' (35 + 3 * K 5) = v3 := by
        rw [hK']
        show (if 35 + 3 * K 5 = 33 + 3 * K 5 then v1 else _) = _
        rw [if_neg (by omega), if_neg (by omega), if_pos rfl]
      rw [e33, e34, e35]
      refine ⟨?_, ?_, ?_⟩
      · rw [g0 _ (by omega) (by omega)]; exact g33
      · rw [g0 _ (by omega) (by omega)]; exact g34
      · rw [gI_uI_nf (by omega), show 35 + 3 * K 5 = 33 + 3 * K 5 + 2 by omega, gI_uI_at]
    · have hB' := hB b (by omega)
      have e' : ∀ j, 33 ≤ j → j ≤ 35 → K' (j + 3 * b) = K (j + 3 * b) := fun j p1 p2 => by
        rw [hK']
        show (if j + 3 * b = 33 + 3 * K 5 then v1 else _) = _
        rw [if_neg (by omega), if_neg (by omega), if_neg (by omega), if_neg (by omega)]
      rw [e' 33 (by omega) (by omega), e' 34 (by omega) (by omega), e' 35 (by omega) (by omega), g0 _ (by omega) (by omega), g0 _ (by omega) (by omega), g0 _ (by omega) (by omega)]
      exact hB'
  · rw [e _ (by omega) (by omega)] at hi; omega
/-- a row filled beyond its bills holds the same -/
theorem RCg.bill {g g' : Nat → Int32} (R : RCg g K) (h6 : K 6 = 0) (hb : K 4 ≤ 8) (h : ∀ f, (f < 33 + 3 * K 5 ∨ 57 ≤ f) → g' f = g f) : RCg g' K := by
  obtain ⟨⟨r0, r1, r2, r3, r4, r5, r6, r7, r8⟩, hA, hB, hX⟩ := R
  refine ⟨⟨?_, ?_, ?_, ?_, ?_, ?_, ?_, ?_, ?_⟩, fun a ha => ?_, fun b hb => ?_, fun i hi => by omega⟩
  · rw [h _ (by omega)]; exact r0
  · rw [h _ (by omega)]; exact r1
  · rw [h _ (by omega)]; exact r2
  · rw [h _ (by omega)]; exact r3
  · rw [h _ (by omega)]; exact r4
  · rw [h _ (by omega)]; exact r5
  · rw [h _ (by omega)]; exact r6
  · rw [h _ (by omega)]; exact r7
  · rw [h _ (by omega)]; exact r8
  · rw [h _ (by omega), h _ (by omega), h _ (by omega)]; exact hA a ha
  · rw [h _ (by omega), h _ (by omega), h _ (by omega)]; exact hB b hb
theorem readBillM_ok (ht : t ≤ 800) (W : WF K) (h5 : K 5 < 8) (h6 : K 6 = 0) (C : MR B t w (wordZ B t 10 z)) (R : RCg (gI w 85) K) : ∃ w', fX10_readBill w = some w' ∧ MR B t w' (biZ B t z K) ∧ Sgm w w' ∧ RCg (gI w' 85) (biK B t z K) := by
  have hb := W.b
  have r5 : gI w 85 5 = nI (K 5) := R.1.2.2.2.2.2.1
  obtain ⟨w1, a1, c1, s1⟩ := C.told ht (q := 7) (lo := 0) (n := 2) (by omega) (by omega) (by omega)
  have d1 := c1.put (f := 33 + 3 * K 5 + 0) (v := nI (numV 0 2 (biZ2 B t z)))
  obtain ⟨w2, a2, c2, s2⟩ := d1.told ht (q := 11) (lo := 0) (n := 100) (by omega) (by omega) (by omega)
  have d2 : MR B t (uI w2 85 (33 + 3 * K 5 + 1) (nI (numV 0 100 (biZ4 B t z)))) (biZ5 B t z) := c2.put
  obtain ⟨w3, a3, c3, s3⟩ := d2.takes ht (q := 12) (by omega)
  have i0 : ((33 : Int32) + 3 * nI (K 5)) + 0 = nI (33 + 3 * K 5 + 0) := idx3 33 (K 5) 0
  have i1 : ((33 : Int32) + 3 * nI (K 5)) + 1 = nI (33 + 3 * K 5 + 1) := idx3 33 (K 5) 1
  have i2 : ((33 : Int32) + 3 * nI (K 5)) + 2 = nI (33 + 3 * K 5 + 2) := idx3 33 (K 5) 2
  have g0 : ∀ f, f ≠ 33 + 3 * K 5 + 0 → f ≠ 33 + 3 * K 5 + 1 → gI w3 85 f = gI w 85 f := fun f q0 q1 => by
    rw [s85 s3, gI_uI_nf q1, s85 s2, gI_uI_nf q0, s85 s1]
  have g33 : gI w3 85 (33 + 3 * K 5) = nI (numV 0 2 (biZ2 B t z)) := by
    rw [s85 s3, gI_uI_nf (by omega), s85 s2, show 33 + 3 * K 5 = 33 + 3 * K 5 + 0 from rfl, gI_uI_at]
  have g34 : gI w3 85 (34 + 3 * K 5) = nI (numV 0 100 (biZ4 B t z)) := by
    rw [s85 s3, show 34 + 3 * K 5 = 33 + 3 * K 5 + 1 by omega, gI_uI_at]
  have R3 : RCg (gI w3 85) K := R.bill h6 (by omega) (fun f q => g0 f (by omega) (by omega))
  have S3 : Sgm w w3 := ((((Sgm.of s1).put).tr (Sgm.of s2)).put).tr (Sgm.of s3)
  unfold fX10_readBill
  rw [if_pos (show inB 5 77 = true from rfl), ix_5, r5, lT_eq, i0, i1, i2, show fX10_told w 7 0 1 = _ from a1, bW_some, if_pos (inB_nI (by omega) (by omega)), ix_nI (n := 33 + 3 * K 5 + 0) (by omega), lT_eq]
  rw [show fX10_told (uI w1 85 (33 + 3 * K 5 + 0) (nI (numV 0 2 (wordZ B t 7 (wordZ B t 10 z))))) 11 0 99 = _ from a2, bW_some, if_pos (inB_nI (by omega) (by omega)), ix_nI (n := 33 + 3 * K 5 + 1) (by omega), lT_eq]
  rw [show fX10_takes (uI w2 85 (33 + 3 * K 5 + 1) (nI (numV 0 100 (wordZ B t 11 (numZ B t 0 2 (wordZ B t 7 (wordZ B t 10 z))))))) 12 = _ from a3, bW_some, if_b01]
  by_cases g : (biZ5 B t z).f = 0 ∧ isz B t 12 (biZ5 B t z) = true
  · have eZ : biZ B t z K = numZ B t 0 (K 5) (wordZ B t 12 (biZ5 B t z)) := by unfold biZ; rw [if_pos g]
    have eA : biA B t z K = numV 0 (K 5) (wordZ B t 12 (biZ5 B t z)) + 1 := by unfold biA; rw [if_pos g]
    have eW : wordZ B t 12 (biZ5 B t z) = zt B t 0 (biZ5 B t z).p (biZ5 B t z).e := by unfold wordZ; rw [if_pos g.1, if_pos g.2]
    rw [if_pos g, ← eW] at c3
    obtain ⟨w4, a4, c4, s4⟩ := c3.num ht (lo := 0) (n := K 5) (by omega) (by omega)
    rw [if_pos (by rw [decide_eq_true g.1, g.2]; rfl), if_pos (show inB 5 77 = true from rfl), R3.1.2.2.2.2.2.1, aI_pred (by omega), show fX10_number w3 0 (aI (K 5)) = _ from a4, bW_some, ← aI_s (numV 0 (K 5) (wordZ B t 12 (biZ5 B t z))), ← eA]
    rw [← eZ] at c4
    obtain ⟨w5, q1, q2, q3, q4⟩ := bill78_ok W h5 h6 c4 (v1 := numV 0 2 (biZ2 B t z)) (v2 := numV 0 100 (biZ4 B t z)) (v3 := biA B t z K) ((s85 s4 _).trans g33) ((s85 s4 _).trans g34) (R3.bill h6 (by omega) (fun f _ => s85 s4 f)) (biK B t z K) rfl
    exact ⟨w5, q1, q2, (S3.tr (Sgm.of s4)).tr q3, q4⟩
  · have eZ : biZ B t z K = biZ5 B t z := by unfold biZ; rw [if_neg g]
    have eA : biA B t z K = 0 := by unfold biA; rw [if_neg g]
    rw [if_neg g, ← eZ] at c3
    rw [if_neg (fun y => g (by rw [Bool.and_eq_true, decide_eq_true_eq] at y; exact y)), show ((-1 : Int32)) = aI (biA B t z K) from by rw [eA]; rfl]
    obtain ⟨w5, q1, q2, q3, q4⟩ := bill78_ok W h5 h6 c3 (v1 := numV 0 2 (biZ2 B t z)) (v2 := numV 0 100 (biZ4 B t z)) (v3 := biA B t z K) g33 g34 R3 (biK B t z K) rfl
    exact ⟨w5, q1, q2, S3.tr q3, q4⟩
end LNM
