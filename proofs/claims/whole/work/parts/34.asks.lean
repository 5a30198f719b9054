/-! ASKS, FEEDS: one more act -/
def addA (K : Nat → Nat) (c : Nat) (i : Nat) : Nat := if i = 6 then K 6 + 1 else if i = 57 + K 6 then c else K i
section ADD
variable {K : Nat → Nat} {c d e : Nat}
theorem addA_6 : addA K c 6 = K 6 + 1 := rfl
theorem addA_at : addA K c (57 + K 6) = c := by unfold addA; rw [if_neg (by omega), if_pos rfl]
theorem addA_ne {i : Nat} (h1 : i ≠ 6) (h2 : i ≠ 57 + K 6) : addA K c i = K i := by unfold addA; rw [if_neg h1, if_neg h2]
theorem code_ok (hd : d < 14) (he : e ≤ 8) (hc : c = if e = 0 then 1000 + d else 100 * (e - 1) + d) : dA c = d ∧ bC c = e ∧ c < 2000 := by
  unfold dA bC
  by_cases h : e = 0
  · rw [if_pos h] at hc
    rw [if_pos (by omega), if_pos (by omega)]; omega
  · rw [if_neg h] at hc
    rw [if_neg (by omega), if_neg (by omega)]; omega
theorem WF.add (W : WF K) (hd : d < K 0) (he : e ≤ K 5) (hc : c = if e = 0 then 1000 + d else 100 * (e - 1) + d) (h6 : K 6 < 20) (hf : aD K d = 0) (ha : 0 < e → aB K (e - 1) = 0) : WF (addA K c) := by
  have hb := W.b
  obtain ⟨c1, c2, c3⟩ := code_ok (c := c) (by omega) (by omega) hc
  have f1 := (aDn_0 (K := K) (d := d) (K 6)).mp hf
  have f2 : 0 < e → ∀ i, i < K 6 → bC (K (57 + i)) ≠ e := by
    intro h i hi z
    have := (aBn_iff W (b := e - 1) (d := dA (K (57 + i))) (K 6) (Nat.le_refl _)).mpr ⟨i, hi, rfl, by omega⟩
    have h0 := ha h
    unfold aB at h0
    omega
  have h7 : 0 < K 7 := W.day.mp (by omega)
  have a : ∀ i, i ≠ 6 → i < 57 → addA K c i = K i := fun i h1 h2 => addA_ne h1 (by omega)
  have b : ∀ i, i < K 6 → addA K c (57 + i) = K (57 + i) := fun i h => addA_ne (by omega) (by omega)
  refine ⟨?_, fun z => ?_, fun z => ?_, fun x q => ?_, fun x q => ?_, fun i q => ?_, fun i j qi qj qn => ?_⟩
  · rw [a 0 (by omega) (by omega), a 1 (by omega) (by omega), a 2 (by omega) (by omega), a 3 (by omega) (by omega), a 4 (by omega) (by omega), a 5 (by omega) (by omega), a 7 (by omega) (by omega), a 8 (by omega) (by omega), addA_6]
    have := W.mk
    exact ⟨by omega, by omega, by omega, by omega, by omega, by omega, by omega, by omega, this⟩
  · rw [a 7 (by omega) (by omega)] at z; omega
  · rw [a 0 (by omega) (by omega), a 2 (by omega) (by omega)]; exact W.2.2.1 h7
  · rw [a 4 (by omega) (by omega)] at q
    rw [a _ (by omega) (by omega), a _ (by omega) (by omega), a _ (by omega) (by omega), a _ (by omega) (by omega)]; exact W.aug q
  · rw [a 5 (by omega) (by omega)] at q
    rw [a _ (by omega) (by omega), a _ (by omega) (by omega), a _ (by omega) (by omega)]; exact W.bil q
  · rw [addA_6] at q
    rw [a 0 (by omega) (by omega), a 5 (by omega) (by omega)]
    by_cases h : i = K 6
    · subst h
      rw [addA_at, c1, c2]
      exact ⟨hd, he, c3, hc⟩
    · rw [b i (by omega)]
      exact W.2.2.2.2.2.1 i (by omega)
  · rw [addA_6] at qi qj
    by_cases hi : i = K 6
    · subst hi
      rw [addA_at, b j (by omega), c1, c2]
      exact ⟨fun z => f1 j (by omega) z.symm, fun z => by
        rcases Nat.eq_zero_or_pos e with h | h
        · exact h
        · exact absurd z.symm (f2 h j (by omega))⟩
    · by_cases hj : j = K 6
      · subst hj
        rw [addA_at, b i (by omega), c1, c2]
        exact ⟨f1 i (by omega), fun z => by
          rcases Nat.eq_zero_or_pos e with h | h
          · omega
          · exact absurd z (f2 h i (by omega))⟩
      · rw [b i (by omega), b j (by omega)]
        exact W.two (by omega) (by omega) qn
theorem CC.add {w : HW} {k : Nat} (H : CC w k K) (W : WF K) (hd : d < K 0) (he : e ≤ K 5) (hc : c = if e = 0 then 1000 + d else 100 * (e - 1) + d) (h6 : K 6 < 20) : CC (uI (uI (uI w (k + 7) (K 6) (nI d)) (k + 8) (K 6) (aI e)) k 14 (nI (K 6 + 1))) k (addA K c) := by
  have hb := W.b
  obtain ⟨c1, c2, c3⟩ := code_ok (c := c) (by omega) (by omega) hc
  have a : ∀ i, i ≠ 6 → i < 57 → addA K c i = K i := fun i h1 h2 => addA_ne h1 (by omega)
  have b : ∀ i, i < K 6 → addA K c (57 + i) = K (57 + i) := fun i h => addA_ne (by omega) (by omega)
  have g : ∀ f, f ≠ 14 → gI (uI (uI (uI w (k + 7) (K 6) (nI d)) (k + 8) (K 6) (aI e)) k 14 (nI (K 6 + 1))) k f = gI w k f := fun f hf => by rw [gI_uI_nf hf, gI_uI_ne (by omega), gI_uI_ne (by omega)]
  have g2 : ∀ j i, 1 ≤ j → j ≤ 6 → gI (uI (uI (uI w (k + 7) (K 6) (nI d)) (k + 8) (K 6) (aI e)) k 14 (nI (K 6 + 1))) (k + j) i = gI w (k + j) i := fun j i h1 h2 => by rw [gI_uI_ne (by omega), gI_uI_ne (by omega), gI_uI_ne (by omega)]
  refine ⟨H.1, ?_, fun x q => ?_, fun x q => ?_, fun i q => ?_⟩
  · rw [a 0 (by omega) (by omega), a 1 (by omega) (by omega), a 2 (by omega) (by omega), a 3 (by omega) (by omega), a 4 (by omega) (by omega), a 5 (by omega) (by omega), a 7 (by omega) (by omega), a 8 (by omega) (by omega), addA_6]
    refine ⟨(g 0 (by omega)).trans H.c0, (g 1 (by omega)).trans H.c1, (g 2 (by omega)).trans H.c2, (g 3 (by omega)).trans H.c3, (g 4 (by omega)).trans H.c4, (g 5 (by omega)).trans H.c5, (g 6 (by omega)).trans H.c6, (g 10 (by omega)).trans H.c10, gI_uI_at⟩
  · rw [a 4 (by omega) (by omega)] at q
    rw [a _ (by omega) (by omega), a _ (by omega) (by omega), a _ (by omega) (by omega), g2 1 _ (by omega) (by omega), g2 2 _ (by omega) (by omega), g2 3 _ (by omega) (by omega)]; exact H.aug q
  · rw [a 5 (by omega) (by omega)] at q
    rw [a _ (by omega) (by omega), a _ (by omega) (by omega), a _ (by omega) (by omega), g2 4 _ (by omega) (by omega), g2 5 _ (by omega) (by omega), g2 6 _ (by omega) (by omega)]; exact H.bil q
  · rw [addA_6] at q
    rw [gI_uI_ne (by omega), gI_uI_ne (show k + 7 ≠ k + 8 by omega), gI_uI_ne (by omega), gI_uI, gI_uI]
    by_cases h : i = K 6
    · subst h
      rw [addA_at, c1, c2, if_pos ⟨rfl, rfl⟩, if_pos ⟨rfl, rfl⟩]
      exact ⟨rfl, rfl⟩
    · rw [b i (by omega), if_neg (by omega), if_neg (by omega), gI_uI_ne (by omega)]
      exact H.act (by omega)
theorem RC.add {w : HW} (H : RC w K) (W : WF K) (h6 : K 6 < 20) : RC (uI (uI w 80 (57 + K 6) (nI c)) 80 6 (nI (K 6 + 1))) (addA K c) := by
  have hb := W.b
  have a : ∀ i, i ≠ 6 → i < 57 → addA K c i = K i := fun i h1 h2 => addA_ne h1 (by omega)
  have b : ∀ i, i < K 6 → addA K c (57 + i) = K (57 + i) := fun i h => addA_ne (by omega) (by omega)
  have g : ∀ f, f ≠ 6 → f ≠ 57 + K 6 → gI (uI (uI w 80 (57 + K 6) (nI c)) 80 6 (nI (K 6 + 1))) 80 f = gI w 80 f := fun f h1 h2 => by rw [gI_uI_nf h1, gI_uI_nf h2]
  refine ⟨?_, fun x q => ?_, fun x q => ?_, fun i q => ?_⟩
  · rw [a 0 (by omega) (by omega), a 1 (by omega) (by omega), a 2 (by omega) (by omega), a 3 (by omega) (by omega), a 4 (by omega) (by omega), a 5 (by omega) (by omega), a 7 (by omega) (by omega), a 8 (by omega) (by omega), addA_6]
    refine ⟨(g 0 (by omega) (by omega)).trans H.r0, (g 1 (by omega) (by omega)).trans H.r1, (g 2 (by omega) (by omega)).trans H.r2, (g 3 (by omega) (by omega)).trans H.r3, (g 4 (by omega) (by omega)).trans H.r4, (g 5 (by omega) (by omega)).trans H.r5, gI_uI_at, (g 7 (by omega) (by omega)).trans H.r7, (g 8 (by omega) (by omega)).trans H.r8⟩
  · rw [a 4 (by omega) (by omega)] at q
    rw [a _ (by omega) (by omega), a _ (by omega) (by omega), a _ (by omega) (by omega), g _ (by omega) (by omega), g _ (by omega) (by omega), g _ (by omega) (by omega)]; exact H.aug q
  · rw [a 5 (by omega) (by omega)] at q
    rw [a _ (by omega) (by omega), a _ (by omega) (by omega), a _ (by omega) (by omega), g _ (by omega) (by omega), g _ (by omega) (by omega), g _ (by omega) (by omega)]; exact H.bil q
  · rw [addA_6] at q
    rw [gI_uI_nf (by omega), gI_uI]
    by_cases h : i = K 6
    · subst h
      rw [addA_at, if_pos ⟨rfl, rfl⟩]
    · rw [b i (by omega), if_neg (by omega)]
      exact H.act (by omega)
theorem act_ok {w : HW} {k : Nat} (H : CC w k K) (W : WF K) (hd : d < K 0) (he : e ≤ K 5) (h6 : K 6 < 20) : fX0_act w k (nI d) (aI e) = some (uI (uI (uI w (k + 7) (K 6) (nI d)) (k + 8) (K 6) (aI e)) k 14 (nI (K 6 + 1))) := by
  unfold fX0_act
  rw [H.c14, if_pos (show nI (K 6) < 20 from nI_lt (b := 20) h6 (by omega)), if_pos (inB_nI h6 (by omega)), ix_nI (by omega), lT_eq, gI_uI_ne (by omega), H.c14, if_pos (inB_nI h6 (by omega)), ix_nI (by omega), lT_eq, gI_uI_ne (by omega), gI_uI_ne (by omega), H.c14, lT_eq, nI_1]
theorem keep_ok {w : HW} (HR : RC w K) (W : WF K) (h6 : K 6 < 20) (W' : WF (addA K c)) (h21 : gI w 79 21 = 0) : ∃ w', fX10_keepAct w (nI c) = some (1, w') ∧ MS (addA K c) false 0 w' (addA K c 0) ∧ Sx sc (uI (uI w 80 (57 + K 6) (nI c)) 80 6 (nI (K 6 + 1))) w' := by
  have hb := W.b
  have HR' := HR.add (c := c) W h6
  obtain ⟨w1, p1, p2, p3, p4, p5⟩ := layAsked_ok HR' W'
  obtain ⟨w2, q1, q2⟩ := goDays_ok (dr := false) (s0 := 0) W' (HR'.cell (fun f => p4 80 f (by omega) (by omega))) p2 p3 (by rw [p4 _ _ (by omega) (by omega), gI_uI_ne (by omega), gI_uI_ne (by omega)]; exact h21) (fun z => by cases z)
  refine ⟨w2, ?_, q2, (rX10_layAsked Sx.rf _ p1).tr (rX10_goDays Sx.rf _ q1)⟩
  unfold fX10_keepAct
  have e57 : (57 : Int32) + nI (K 6) = nI (57 + K 6) := nI_add 57 _
  simp only [if_pos (show inB 6 77 = true from rfl), ix_6, HR.r6]
  rw [if_neg (fun z => by have := (nI_eqv (b := 20) (by omega) (by omega)).mp z; omega), e57, if_pos (inB_nI (by omega) (by omega)), ix_nI (by omega), lT_eq, gI_uI_nf (by omega), HR.r6, nI_1, lT_eq, p1, bI_some, q1, bI_some]
theorem keep_full {w : HW} (HR : RC w K) (W : WF K) (h6 : ¬ K 6 < 20) (x : Int32) : fX10_keepAct w x = some (0, w) := by
  have hb := W.b
  unfold fX10_keepAct
  rw [if_pos (show inB 6 77 = true from rfl), ix_6, HR.r6, show K 6 = 20 by omega, if_pos (show nI 20 = 20 from rfl)]
/-- what the two acts leave -/
theorem Rel.add {w w' : HW} {kn ks : Nat} (HO : RelO w) (W : WF K) (W' : WF (addA K c)) (HR' : RC w' (addA K c)) (HN : RelN w kn ks) (HC' : CC w' kn (addA K c)) (hI : ∀ a f, sc a f = false → (a < kn ∨ kn + 8 < a) → a ≠ 80 → gI w' a f = gI w a f) (hL : ∀ a f, sc a f = false → gL w' a f = gL w a f) (hR : ∀ a f, sc a f = false → gR w' a f = gR w a f) : Rel w' := by
  have hkn : kn = 26 ∨ kn = 35 := by have := HN.2.2; omega
  refine ⟨HO.of (fun a f h1 h2 h3 h4 => ⟨hI a f h4 (by omega) h2, hL a f h4⟩), addA K c, W', HR', kn, ks, ⟨(hR 0 10 rfl).trans HN.1, (hR 0 11 rfl).trans HN.2.1, HN.2.2⟩, HC'⟩
end ADD
