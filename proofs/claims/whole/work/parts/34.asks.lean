/-! ASKS, FEEDS: one more act -/
def addA (K : Nat → Nat) (c : Nat) (i : Nat) : Nat := if i = 6 then K 6 + 1 else if i = 57 + K 6 then c else K i
section ADD
variable {K : Nat → Nat} {c d e : Nat}
theorem addA_6 : addA K c 6 = K 6 + 1 := rfl
theorem addA_at : addA K c (57 + K 6) = c := by unfold addA; rw [if_neg (by omega), if_pos rfl]
theorem addA_ne {i : Nat} (h1 : i ≠ 6) (h2 : i ≠ 57 + K 6) : addA K c i = K i := by unfold addA; rw [if_neg h1, if_neg h2]
theorem code_ok (hd : d < 14) (he : e ≤ 8) (hc : c = if e = 0 then 1000 + d else 100 * (e - 1) + d) : dA c = d ∧ bC c = e ∧ c < 2000 := by
  unfold dA bC
  by_cases h : e = 0
  · rw [if_pos h] at hc
    rw [if_pos (by omega), if_pos (by omega)]; omega
  · rw [if_neg h] at hc
    rw [if_neg (by omega), if_neg (by omega)]; omega
theorem WF.add (W : WF K) (hd : d < K 0) (he : e ≤ K 5) (hc : c = if e = 0 then 1000 + d else 100 * (e - 1) + d) (h6 : K 6 < 20) (hf : aD K d = 0) (ha : 0 < e → aB K (e - 1) = 0) : WF (addA K c) := by
  have hb := W.b
  obtain ⟨c1, c2, c3⟩ := code_ok (c := c) (by omega) (by omega) hc
  have f1 := (aDn_0 (K := K) (d := d) (K 6)).mp hf
  have f2 : 0 < e → ∀ i, i < K 6 → bC (K (57 + i)) ≠ e := by
    intro h i hi z
    have := (aBn_iff W (b := e - 1) (d := dA (K (57 + i))) (K 6) (Nat.le_refl _)).mpr ⟨i, hi, rfl, by omega⟩
    have h0 := ha h
    unfold aB at h0
    omega
  have h7 : 0 < K 7 := W.day.mp (by omega)
  have a : ∀ i, i ≠ 6 → i < 57 → addA K c i = K i := fun i h1 h2 => addA_ne h1 (by omega)
  have b : ∀ i, i < K 6 → addA K c (57 + i) = K (57 + i) := fun i h => addA_ne (by omega) (by omega)
  refine ⟨?_, fun z => ?_, fun z => ?_, fun x q => ?_, fun x q => ?_, fun i q => ?_, fun i j qi qj qn => ?_⟩
  · rw [a 0 (by omega) (by omega), a 1 (by omega) (by omega), a 2 (by omega) (by omega), a 3 (by omega) (by omega), a 4 (by omega) (by omega), a 5 (by omega) (by omega), a 7 (by omega) (by omega), a 8 (by omega) (by omega), addA_6]
    have := W.mk
    exact ⟨by omega, by omega, by omega, by omega, by omega, by omega, by omega, by omega, this⟩
  · rw [a 7 (by omega) (by omega)] at z; omega
  · rw [a 0 (by omega) (by omega), a 2 (by omega) (by omega)]; exact W.2.2.1 h7
  · rw [a 4 (by omega) (by omega)] at q
    rw [a _ (by omega) (by omega), a _ (by omega) (by omega), a _ (by omega) (by omega), a _ (by omega) (by omega)]; exact W.aug q
  · rw [a 5 (by omega) (by omega)] at q
    rw [a _ (by omega) (by omega), a _ (by omega) (by omega), a _ (by omega) (by omega)]; exact W.bil q
  · rw [addA_6] at q
    rw [a 0 (by omega) (by omega), a 5 (by omega) (by omega)]
    by_cases h : i = K 6
    · subst h
      rw [addA_at, c1, c2]
      exact ⟨hd, he, c3, hc⟩
    · rw [b i (by omega)]
      exact W.2.2.2.2.2.1 i (by omega)
  · rw [addA_6] at qi qj
    by_cases hi : i = K 6
    · subst hi
      rw [addA_at, b j (by omega), c1, c2]
      exact ⟨fun z => f1 j (by omega) z.symm, fun z => by
        rcases Nat.eq_zero_or_pos e with h | h
        · exact h
        · exact absurd z.symm (f2 h j (by omega))⟩
    · by_cases hj : j = K 6
      · subst hj
        rw [addA_at, b i (by omega), c1, c2]
        exact ⟨f1 i (by omega), fun z => by
          rcases Nat.eq_zero_or_pos e with h | h
          · omega
          · exact absurd z (f2 h i (by omega))⟩
      · rw [b i (by omega), b j (by omega)]
        exact W.two (by omega) (by omega) qn
theorem CC.add {w : HW} {k : Nat} (H : CC w k K) (W : WF K) (hd : d < K 0) (he : e ≤ K 5) (hc : c = if e = 0 then 1000 + d else 100 * (e - 1) + d) (h6 : K 6 < 20) : CC (uI (uI (uI w (k + 7) (K 6) (nI d)) (k + 8) (K 6) (aI e)) k 14 (nI (K 6 + 1))) k (addA K c) := by
  have hb := W.b
  obtain ⟨c1, c2, c3⟩ := code_ok (c := c) (by omega) (by omega) hc
  have a : ∀ i, i ≠ 6 → i < 57 → addA K c i = K i := fun i h1 h2 => addA_ne h1 (by omega)
  have b : ∀ i, i < K 6 → addA K c (57 + i) = K (57 + i) := fun i h => addA_ne (by omega) (by omega)
  have g : ∀ f, f ≠ 14 → gI (uI (uI (uI w (k + 7) (K 6) (nI d)) (k + 8) (K 6) (aI e)) k 14 (nI (K 6 + 1))) k f = gI w k f := fun f hf => by rw [gI_uI_nf hf, gI_uI_ne (by omega), gI_uI_ne (by omega)]
  have g2 : ∀ j i, 1 ≤ j → j ≤ 6 → gI (uI (uI (uI w (k + 7) (K 6) (nI d)) (k + 8) (K 6) (aI e)) k 14 (nI (K 6 + 1))) (k + j) i = gI w (k + j) i := fun j i h1 h2 => by rw [gI_uI_ne (by omega), gI_uI_ne (by omega), gI_uI_ne (by omega)]
  refine ⟨H.1, ?_, fun x q => ?_, fun x q => ?_, fun i q => ?_⟩
  · rw [a 0 (by omega) (by omega), a 1 (by omega) (by omega), a 2 (by omega) (by omega), a 3 (by omega) (by omega), a 4 (by omega) (by omega), a 5 (by omega) (by omega), a 7 (by omega) (by omega), a 8 (by omega) (by omega), addA_6]
    refine ⟨(g 0 (by omega)).trans H.c0, (g 1 (by omega)).trans H.c1, (g 2 (by omega)).trans H.c2, (g 3 (by omega)).trans H.c3, (g 4 (by omega)).trans H.c4, (g 5 (by omega)).trans H.c5, (g 6 (by omega)).trans H.c6, (g 10 (by omega)).trans H.c10, gI_uI_at⟩
  · rw [a 4 (by omega) (by omega)] at q
    rw [a _ (by omega) (by omega), a _ (by omega) (by omega), a _ (by omega) (by omega), g2 1 _ (by omega) (by omega), g2 2 _ (by omega) (by omega), g2 3 _ (by omega) (by omega)]; exact H.aug q
  · rw [a 5 (by omega) (by omega)] at q
    rw [a _ (by omega) (by omega), a _ (by omega) (by omega), a _ (by omega) (by omega), g2 4 _ (by omega) (by omega), g2 5 _ (by omega) (by omega), g2 6 _ (by omega) (by omega)]; exact H.bil q
  · rw [addA_6] at q
    refine ⟨?_, ?_⟩
    · rw [gI_uI_ne (show k + 7 ≠ k by omega), gI_uI_ne (show k + 7 ≠ k + 8 by omega), gI_uI]
      by_cases h : i = K 6
      · subst h; rw [addA_at, c1, if_pos ⟨rfl, rfl⟩]
      · rw [b i (by omega), if_neg (by omega)]; exact (H.act (by omega)).1
    · rw [gI_uI_ne (show k + 8 ≠ k by omega), gI_uI]
      by_cases h : i = K 6
      · subst h; rw [addA_at, c2, if_pos ⟨rfl, rfl⟩]
      · rw [b i (by omega), if_neg (by omega), gI_uI_ne (show k + 8 ≠ k + 7 by omega)]; exact (H.act (by omega)).2
theorem RC.add {w : HW} (H : RC w K) (W : WF K) (h6 : K 6 < 20) : RC (uI (uI w 80 (57 + K 6) (nI c)) 80 6 (nI (K 6 + 1))) (addA K c) := by
  have hb := W.b
  have a : ∀ i, i ≠ 6 → i < 57 → addA K c i = K i := fun i h1 h2 => addA_ne h1 (by omega)
  have b : ∀ i, i < K 6 → addA K c (57 + i) = K (57 + i) := fun i h => addA_ne (by omega) (by omega)
  have g : ∀ f, f ≠ 6 → f ≠ 57 + K 6 → gI (uI (uI w 80 (57 + K 6) (nI c)) 80 6 (nI (K 6 + 1))) 80 f = gI w 80 f := fun f h1 h2 => by rw [gI_uI_nf h1, gI_uI_nf h2]
  refine ⟨?_, fun x q => ?_, fun x q => ?_, fun i q => ?_⟩
  · rw [a 0 (by omega) (by omega), a 1 (by omega) (by omega), a 2 (by omega) (by omega), a 3 (by omega) (by omega), a 4 (by omega) (by omega), a 5 (by omega) (by omega), a 7 (by omega) (by omega), a 8 (by omega) (by omega), addA_6]
    refine ⟨(g 0 (by omega) (by omega)).trans H.r0, (g 1 (by omega) (by omega)).trans H.r1, (g 2 (by omega) (by omega)).trans H.r2, (g 3 (by omega) (by omega)).trans H.r3, (g 4 (by omega) (by omega)).trans H.r4, (g 5 (by omega) (by omega)).trans H.r5, gI_uI_at, (g 7 (by omega) (by omega)).trans H.r7, (g 8 (by omega) (by omega)).trans H.r8⟩
  · rw [a 4 (by omega) (by omega)] at q
    rw [a _ (by omega) (by omega), a _ (by omega) (by omega), a _ (by omega) (by omega), g _ (by omega) (by omega), g _ (by omega) (by omega), g _ (by omega) (by omega)]; exact H.aug q
  · rw [a 5 (by omega) (by omega)] at q
    rw [a _ (by omega) (by omega), a _ (by omega) (by omega), a _ (by omega) (by omega), g _ (by omega) (by omega), g _ (by omega) (by omega), g _ (by omega) (by omega)]; exact H.bil q
  · rw [addA_6] at q
    rw [gI_uI_nf (by omega), gI_uI]
    by_cases h : i = K 6
    · subst h
      rw [addA_at, if_pos ⟨rfl, rfl⟩]
    · rw [b i (by omega), if_neg (by omega)]
      exact H.act (by omega)
theorem act_ok {w : HW} {k : Nat} (H : CC w k K) (W : WF K) (hd : d < K 0) (he : e ≤ K 5) (h6 : K 6 < 20) : fX0_act w k (nI d) (aI e) = some (uI (uI (uI w (k + 7) (K 6) (nI d)) (k + 8) (K 6) (aI e)) k 14 (nI (K 6 + 1))) := by
  unfold fX0_act
  rw [H.c14, if_pos (show nI (K 6) < 20 from nI_lt (b := 20) h6 (by omega)), if_pos (inB_nI h6 (by omega)), ix_nI (by omega), lT_eq, gI_uI_ne (by omega), H.c14, if_pos (inB_nI h6 (by omega)), ix_nI (by omega), lT_eq, gI_uI_ne (by omega), gI_uI_ne (by omega), H.c14, lT_eq, nI_1]
theorem keep_ok {w : HW} (HR : RC w K) (W : WF K) (h6 : K 6 < 20) (W' : WF (addA K c)) (h21 : gI w 79 21 = 0) : ∃ w', fX10_keepAct w (nI c) = some (1, w') ∧ MS (addA K c) false 0 w' (addA K c 0) ∧ Sx sc (uI (uI w 80 (57 + K 6) (nI c)) 80 6 (nI (K 6 + 1))) w' := by
  have hb := W.b
  have HR' := HR.add (c := c) W h6
  obtain ⟨w1, p1, p2, p3, p4, p5⟩ := layAsked_ok HR' W'
  obtain ⟨w2, q1, q2⟩ := goDays_ok (dr := false) (s0 := 0) W' (HR'.cell (fun f => p4 80 f (by omega) (by omega))) p2 p3 (by rw [p4 _ _ (by omega) (by omega), gI_uI_ne (by omega), gI_uI_ne (by omega)]; exact h21) (fun z => by cases z)
  refine ⟨w2, ?_, q2, (rX10_layAsked Sx.rf _ p1).tr (rX10_goDays Sx.rf _ q1)⟩
  unfold fX10_keepAct
  have e57 : (57 : Int32) + nI (K 6) = nI (57 + K 6) := nI_add 57 _
  simp only [if_pos (show inB 6 77 = true from rfl), ix_6, HR.r6]
  rw [if_neg (fun z => by have := (nI_eqv (b := 20) (by omega) (by omega)).mp z; omega), e57, if_pos (inB_nI (by omega) (by omega)), ix_nI (by omega), lT_eq, gI_uI_nf (by omega), HR.r6, nI_1, lT_eq, p1, bI_some, q1, bI_some]
theorem keep_full {w : HW} (HR : RC w K) (W : WF K) (h6 : ¬ K 6 < 20) (x : Int32) : fX10_keepAct w x = some (0, w) := by
  have hb := W.b
  unfold fX10_keepAct
  rw [if_pos (show inB 6 77 = true from rfl), ix_6, HR.r6, show K 6 = 20 by omega, if_pos (show nI 20 = 20 from rfl)]
/-- what the two acts leave -/
theorem Rel.add {w w' : HW} {kn ks : Nat} (HO : RelO w) (W : WF K) (W' : WF (addA K c)) (HR' : RC w' (addA K c)) (HN : RelN w kn ks) (HC' : CC w' kn (addA K c)) (hI : ∀ a f, sc a f = false → (a < kn ∨ kn + 8 < a) → a ≠ 80 → gI w' a f = gI w a f) (hL : ∀ a f, sc a f = false → gL w' a f = gL w a f) (hR : ∀ a f, sc a f = false → gR w' a f = gR w a f) : Rel w' := by
  have hkn : kn = 26 ∨ kn = 35 := by have := HN.2.2; omega
  refine ⟨HO.of (fun a f h1 h2 h3 h4 => ⟨hI a f h4 (by omega) h2, hL a f h4⟩), addA K c, W', HR', kn, ks, ⟨(hR 0 10 rfl).trans HN.1, (hR 0 11 rfl).trans HN.2.1, HN.2.2⟩, HC'⟩
end ADD
theorem fin_add {w w1 w2 w3 wa : HW} {K : Nat → Nat} {c kn ks : Nat} (HO : RelO w) (W : WF K) (W' : WF (addA K c)) (HN : RelN w kn ks) (HC' : CC wa kn (addA K c)) (s1 : Sx sc wa w1) (s2 : Sx sc w1 w2) (s3 : Sx sc (uI (uI w2 80 (57 + K 6) (nI c)) 80 6 (nI (K 6 + 1))) w3) (HR' : RC w3 (addA K c)) (ha : ∀ a f, (a < kn ∨ kn + 8 < a) → gI wa a f = gI w a f) (hl : ∀ a f, gL wa a f = gL w a f) (hr : ∀ a f, gR wa a f = gR w a f) : Rel w3 := by
  have hkn : kn = 26 ∨ kn = 35 := by have := HN.2.2; omega
  refine Rel.add HO W W' HR' HN ((((HC'.sx s1).sx s2).of (fun a x y f => by rw [gI_uI_ne (by omega), gI_uI_ne (by omega)] : ∀ a, kn ≤ a → a ≤ kn + 8 → ∀ f, gI (uI (uI w2 80 (57 + K 6) (nI c)) 80 6 (nI (K 6 + 1))) a f = gI w2 a f)).sx s3) (fun a f h1 h2 h3 => ?_) (fun a f h1 => ?_) (fun a f h1 => ?_)
  · rw [(s3 a f h1).1, gI_uI_ne h3, gI_uI_ne h3, (s2 a f h1).1, (s1 a f h1).1, ha a f h2]
  · rw [(s3 a f h1).2.1, gL_uI, gL_uI, (s2 a f h1).2.1, (s1 a f h1).2.1, hl]
  · rw [(s3 a f h1).2.2, gR_uI, gR_uI, (s2 a f h1).2.2, (s1 a f h1).2.2, hr]
theorem aB_d {K : Nat → Nat} (W : WF K) (b : Nat) : (isAk K b (K 6) = true) ↔ aB K b ≠ 0 := by
  rw [isAk_iff]
  constructor
  · rintro ⟨i, h1, h2⟩
    have := (aBn_iff W (b := b) (d := dA (K (57 + i))) (K 6) (Nat.le_refl _)).mpr ⟨i, h1, rfl, h2⟩
    show aBn K b (K 6) ≠ 0
    omega
  · intro h
    obtain ⟨i, h1, h2, h3⟩ := (aBn_iff W (b := b) (d := aB K b - 1) (K 6) (Nat.le_refl _)).mp (by show aB K b = _; omega)
    exact ⟨i, h1, h3⟩
theorem free_iff {K : Nat → Nat} (W : WF K) (d : Nat) : (aks K ||| fds K).testBit d = false ↔ aD K d = 0 := by
  rw [Nat.testBit_or, aks_iff W, fds_iff W, Bool.or_eq_false_iff, decide_eq_false_iff_not, decide_eq_false_iff_not]
  omega
theorem ag_feeds {w : HW} (H : Rel w) (x : Int32) : Agree w (fX9_feeds · x) (fX10_feeds · x) := by
  obtain ⟨HO, K, W, HR, kn, ks, HN, HC⟩ := id H
  have hb := W.b
  have hkn : kn = 26 ∨ kn = 35 := by have := HN.2.2; omega
  by_cases c : 0 ≤ x ∧ x < nI (K 0)
  · obtain ⟨d, hd, rfl⟩ := rng_of (by omega) c
    have hfr := free_iff W d
    by_cases hf : aD K d = 0
    · by_cases h6 : K 6 < 20
      · have hc : 1000 + d = if 0 = 0 then 1000 + d else 100 * (0 - 1) + d := rfl
        have W' := W.add (d := d) (e := 0) hd (by omega) hc h6 hf (fun z => absurd z (by omega))
        have HC' := HC.add W (d := d) (e := 0) hd (by omega) hc h6
        obtain ⟨w1, p1, p2, p3⟩ := play_sx (w := uI (uI (uI w (kn + 7) (K 6) (nI d)) (kn + 8) (K 6) (aI 0)) kn 14 (nI (K 6 + 1))) (kn := kn) (ks := ks) W' HN HC'
        have hd' : d < addA K (1000 + d) 0 := by rw [addA_ne (by omega) (by omega)]; exact hd
        have ex : fX9_feeds w (nI d) = some (nI (huF (addA K (1000 + d)) d), w1) := by
          unfold fX9_feeds
          simp only [now_ok HN, X0_hasDay_ok HC W, X0_isFree_ok HC W (show d < 31 by omega), bI_some, if_b01, if_b01', ite_dec, HC.c14]
          rw [if_pos c, hfr.mpr hf, if_pos (by decide), if_neg (fun z => z (show nI (K 6) < 20 from nI_lt (b := 20) h6 (by omega))), show fX0_act w kn (nI d) (-1) = _ from act_ok HC W (e := 0) hd (by omega) h6, bI_some]
          simp only [show gR (uI (uI (uI w (kn + 7) (K 6) (nI d)) (kn + 8) (K 6) (aI 0)) kn 14 (nI (K 6 + 1))) 0 10 = gR w 0 10 from rfl, now_ok HN]
          rw [p1, bI_some, if_pos (inB_nI (by omega) (by omega)), ix_nI (by omega), p2.1 d hd']
        have HR1 : RC w1 K := (HR.cell (fun f => by rw [gI_uI_ne (by omega), gI_uI_ne (by omega), gI_uI_ne (by omega)]) : RC (uI (uI (uI w (kn + 7) (K 6) (nI d)) (kn + 8) (K 6) (aI 0)) kn 14 (nI (K 6 + 1))) K).sx p3
        have C1 : RelC w1 := HO.2.2.1.of (fun f hf => by
          rw [(p3 79 f (by rcases hf with rfl | rfl | rfl | rfl | rfl <;> rfl)).1, gI_uI_ne (by omega), gI_uI_ne (by omega), gI_uI_ne (by omega)])
        obtain ⟨w2, q1, q2⟩ : ∃ w2, fX10_asksDay w1 (nI d) = some (b01 (decide (0 ≤ nI d ∧ nI d < nI (K 0))), w2) ∧ MS K false 0 w2 (K 0) := by
          obtain ⟨w2, q1, q2⟩ := asksCamp_ok W HR1 C1
          unfold fX10_asksDay
          rw [q1, bW_some, X10_isDay_ok q2.1 W, bI_some, if_pos (zB_b01 _)]
          exact ⟨w2, rfl, q2⟩
        obtain ⟨w3, r1, r2, r3⟩ := keep_ok (c := 1000 + d) q2.1 W h6 W' (q2.2.2.2.2.2.2.1)
        have em : fX10_feeds w1 (nI d) = some (nI (huF (addA K (1000 + d)) d), w3) := by
          unfold fX10_feeds
          rw [q1, bW_some, if_b01', if_pos (decide_eq_true c), if_pos (inB_nI (by omega) (by omega)), ix_nI (by omega), q2.2.2.2.1 d (by omega), if_pos ((m86_m1 (by rw [hf]; omega)).mpr hf), show (1000 : Int32) + nI d = nI (1000 + d) from nI_add 1000 d, r1, bW_some, if_pos (by decide), if_pos (inB_nI (by omega) (by omega)), r2.2.1 d hd']
        exact ⟨_, _, _, ex, em, fin_add HO W W' HN HC' p3 (rX10_asksDay Sx.rf _ _ q1) r3 r2.1 (fun a f h => by rw [gI_uI_ne (by omega), gI_uI_ne (by omega), gI_uI_ne (by omega)]) (fun _ _ => rfl) (fun _ _ => rfl)⟩
      · have ex : fX9_feeds w (nI d) = some (-5, w) := by
          unfold fX9_feeds
          simp only [now_ok HN, X0_hasDay_ok HC W, X0_isFree_ok HC W (show d < 31 by omega), bI_some, if_b01, if_b01', ite_dec, HC.c14]
          rw [if_pos c, hfr.mpr hf, if_pos (by decide), if_pos (show ¬ nI (K 6) < 20 from nI_nlt (b := 20) (by omega) (by omega))]
        obtain ⟨w2, q1, q2⟩ := day_sx W HO HR Sx.rf (nI d)
        have em : fX10_feeds w (nI d) = some (-5, w2) := by
          unfold fX10_feeds
          rw [q1, bW_some, if_b01', if_pos (decide_eq_true c), if_pos (inB_nI (by omega) (by omega)), ix_nI (by omega), q2.2.2.2.1 d (by omega), if_pos ((m86_m1 (by rw [hf]; omega)).mpr hf), keep_full q2.1 W h6, bW_some, if_neg (by decide)]
        exact ⟨_, _, _, ex, em, H.sx (rX10_asksDay Sx.rf _ _ q1)⟩
    · have hl := aD_lt W (d := d)
      have ex : fX9_feeds w (nI d) = some (-5, w) := by
        unfold fX9_feeds
        simp only [now_ok HN, X0_hasDay_ok HC W, X0_isFree_ok HC W (show d < 31 by omega), bI_some, if_b01, if_b01', ite_dec, HC.c14]
        rw [if_pos c, if_neg]
        intro z
        exact hf (hfr.mp (by simpa using z))
      obtain ⟨w2, q1, q2⟩ := day_sx W HO HR Sx.rf (nI d)
      have em : fX10_feeds w (nI d) = some (-5, w2) := by
        unfold fX10_feeds
        rw [q1, bW_some, if_b01', if_pos (decide_eq_true c), if_pos (inB_nI (by omega) (by omega)), ix_nI (by omega), q2.2.2.2.1 d (by omega), if_neg (fun z => hf ((m86_m1 (by omega)).mp z))]
      exact ⟨_, _, _, ex, em, H.sx (rX10_asksDay Sx.rf _ _ q1)⟩
  · have ex : fX9_feeds w x = some (-2, w) := by
      unfold fX9_feeds
      simp only [now_ok HN, X0_hasDay_ok HC W, bI_some, if_b01', ite_dec]
      rw [if_neg c]
    obtain ⟨w2, q1, q2⟩ := day_sx W HO HR Sx.rf x
    have em : fX10_feeds w x = some (-2, w2) := by
      unfold fX10_feeds
      rw [q1, bW_some, if_b01', if_neg (fun z => c (of_decide_eq_true z))]
    exact ⟨_, _, _, ex, em, H.sx (rX10_asksDay Sx.rf _ _ q1)⟩
theorem ag_asks {w : HW} (H : Rel w) (x y : Int32) : Agree w (fX9_asks · x y) (fX10_asks · x y) := by
  obtain ⟨HO, K, W, HR, kn, ks, HN, HC⟩ := id H
  have hb := W.b
  have hkn : kn = 26 ∨ kn = 35 := by have := HN.2.2; omega
  by_cases cb : 0 ≤ x ∧ x < nI (K 5)
  · by_cases c : 0 ≤ y ∧ y < nI (K 0)
    · obtain ⟨b, hbl, rfl⟩ := rng_of (by omega) cb
      obtain ⟨d, hd, rfl⟩ := rng_of (by omega) c
      have hfr := free_iff W d
      have hak := aB_d W b
      have hab := aB_le W b
      have hl := aD_lt W (d := d)
      have ex0 : fX9_asks w (nI b) (nI d) = if (aks K ||| fds K).testBit d = true then some (-5, w) else if isAk K b (K 6) = true then some (-5, w) else if ¬ nI (K 6) < 20 then some (-5, w) else bI (fX0_act w kn (nI d) (nI b)) fun w_21 => lT (gR w_21 0 10) fun j_22 => if isC j_22 = true then (bI (fX6_play w_21 j_22) fun w_24 => if inB (nI b) 8 = true then (if gI w_24 7 (ix (nI b)) = -1 then some (0, w_24) else some (1, w_24)) else none) else none := by
        unfold fX9_asks
        simp only [now_ok HN, X0_hasBill_ok HC W, X0_hasDay_ok HC W, X0_isFree_ok HC W (show d < 31 by omega), X0_isAskedFor_ok HC W hbl, bI_some, if_b01, if_b01', ite_dec, HC.c14]
        rw [if_pos cb, if_pos c]
        cases (aks K ||| fds K).testBit d <;> cases isAk K b (K 6) <;> rfl
      have em0 : ∀ w1 w2, fX10_asksBill w1 (nI b) = some (b01 (decide (0 ≤ nI b ∧ nI b < nI (K 5))), w2) → MS K false 0 w2 (K 0) → fX10_asks w1 (nI b) (nI d) = if aD K d = 0 then (if aB K b = 0 then (bW (fX10_keepAct w2 (nI (100 * b + d))) fun r_11 w_12 => if r_11 = 0 then some (-5, w_12) else if inB (nI b) 8 = true then (if gI w_12 89 (ix (nI b)) = -1 then some (0, w_12) else some (1, w_12)) else none) else some (-5, w2)) else some (-5, w2) := by
        intro w1 w2 q1 q2
        unfold fX10_asks
        rw [q1, bW_some, if_b01, if_pos (decide_eq_true cb), X10_isDay_ok q2.1 W, bI_some, if_b01', if_pos (decide_eq_true c), if_pos (inB_nI (by omega) (by omega)), ix_nI (by omega), q2.2.2.2.1 d (by omega), if_pos (inB_nI (by omega) (by omega)), ix_nI (by omega), q2.2.2.2.2.1 b (by omega), show (100 : Int32) * nI b + nI d = nI (100 * b + d) from by rw [show (100 : Int32) = nI 100 from rfl, pk_mul, nI_add]]
        by_cases h1 : aD K d = 0
        · rw [if_pos ((m86_m1 (by omega)).mpr h1), if_pos h1]
          by_cases h2 : aB K b = 0
          · rw [if_pos ((aI_m1 (by omega)).mpr h2), if_pos h2]
          · rw [if_neg (fun z => h2 ((aI_m1 (by omega)).mp z)), if_neg h2]
        · rw [if_neg (fun z => h1 ((m86_m1 (by omega)).mp z)), if_neg h1]
      have out : (fX9_asks w (nI b) (nI d) = some (-5, w)) → (∀ w2, MS K false 0 w2 (K 0) → (aD K d = 0 → aB K b = 0 → ¬ K 6 < 20)) → Agree w (fX9_asks · (nI b) (nI d)) (fX10_asks · (nI b) (nI d)) := by
        intro ex h
        obtain ⟨w2, q1, q2⟩ := bill_sx W HO HR Sx.rf (nI b)
        have em := em0 w w2 q1 q2
        have em' : fX10_asks w (nI b) (nI d) = some (-5, w2) := by
          rw [em]
          by_cases h1 : aD K d = 0
          · rw [if_pos h1]
            by_cases h2 : aB K b = 0
            · rw [if_pos h2, keep_full q2.1 W (h w2 q2 h1 h2), bW_some, if_pos rfl]
            · rw [if_neg h2]
          · rw [if_neg h1]
        exact ⟨_, _, _, ex, em', H.sx (rX10_asksBill Sx.rf _ _ q1)⟩
      by_cases hf : aD K d = 0
      · rw [hfr.mpr hf, if_neg (by decide)] at ex0
        by_cases ha : aB K b = 0
        · rw [if_neg (fun z => hak.mp z ha)] at ex0
          by_cases h6 : K 6 < 20
          · have hc : 100 * b + d = if b + 1 = 0 then 1000 + d else 100 * (b + 1 - 1) + d := by rw [if_neg (by omega), Nat.add_sub_cancel]
            have W' := W.add (d := d) (e := b + 1) hd (by omega) hc h6 hf (fun _ => by rw [Nat.add_sub_cancel]; exact ha)
            have HC' := HC.add W (d := d) (e := b + 1) hd (by omega) hc h6
            obtain ⟨w1, p1, p2, p3⟩ := play_sx (w := uI (uI (uI w (kn + 7) (K 6) (nI d)) (kn + 8) (K 6) (aI (b + 1))) kn 14 (nI (K 6 + 1))) (kn := kn) (ks := ks) W' HN HC'
            have ex : fX9_asks w (nI b) (nI d) = some (if (sea (addA K (100 * b + d)) false 0 (addA K (100 * b + d) 0)).1 b = 0 then 0 else 1, w1) := by
              have hv := sea_lt W' false 0 (d := addA K (100 * b + d) 0) b
              rw [ex0, if_neg (fun z => z (show nI (K 6) < 20 from nI_lt (b := 20) h6 (by omega))), show fX0_act w kn (nI d) (nI b) = _ from act_ok HC W (e := b + 1) hd (by omega) h6, bI_some]
              simp only [show gR (uI (uI (uI w (kn + 7) (K 6) (nI d)) (kn + 8) (K 6) (aI (b + 1))) kn 14 (nI (K 6 + 1))) 0 10 = gR w 0 10 from rfl, now_ok HN]
              rw [p1, bI_some, if_pos (inB_nI (by omega) (by omega)), ix_nI (by omega), p2.2.1 b (by omega)]
              by_cases h : (sea (addA K (100 * b + d)) false 0 (addA K (100 * b + d) 0)).1 b = 0
              · rw [if_pos ((aI_m1 (by omega)).mpr h), if_pos h]
              · rw [if_neg (fun z => h ((aI_m1 (by omega)).mp z)), if_neg h]
            have HR1 : RC w1 K := (HR.cell (fun f => by rw [gI_uI_ne (by omega), gI_uI_ne (by omega), gI_uI_ne (by omega)]) : RC (uI (uI (uI w (kn + 7) (K 6) (nI d)) (kn + 8) (K 6) (aI (b + 1))) kn 14 (nI (K 6 + 1))) K).sx p3
            have C1 : RelC w1 := HO.2.2.1.of (fun f hf => by
              rw [(p3 79 f (by rcases hf with rfl | rfl | rfl | rfl | rfl <;> rfl)).1, gI_uI_ne (by omega), gI_uI_ne (by omega), gI_uI_ne (by omega)])
            obtain ⟨w2, q1, q2⟩ : ∃ w2, fX10_asksBill w1 (nI b) = some (b01 (decide (0 ≤ nI b ∧ nI b < nI (K 5))), w2) ∧ MS K false 0 w2 (K 0) := by
              obtain ⟨w2, q1, q2⟩ := asksCamp_ok W HR1 C1
              unfold fX10_asksBill
              rw [q1, bW_some, X10_isBill_ok q2.1 W, bI_some, if_pos (zB_b01 _)]
              exact ⟨w2, rfl, q2⟩
            obtain ⟨w3, r1, r2, r3⟩ := keep_ok (c := 100 * b + d) q2.1 W h6 W' (q2.2.2.2.2.2.2.1)
            have em : fX10_asks w1 (nI b) (nI d) = some (if (sea (addA K (100 * b + d)) false 0 (addA K (100 * b + d) 0)).1 b = 0 then 0 else 1, w3) := by
              have hv := sea_lt W' false 0 (d := addA K (100 * b + d) 0) b
              rw [em0 w1 w2 q1 q2, if_pos hf, if_pos ha, r1, bW_some, if_neg (by decide), if_pos (inB_nI (by omega) (by omega)), ix_nI (by omega), r2.2.2.1 b (by omega)]
              by_cases h : (sea (addA K (100 * b + d)) false 0 (addA K (100 * b + d) 0)).1 b = 0
              · rw [if_pos ((aI_m1 (by omega)).mpr h), if_pos h]
              · rw [if_neg (fun z => h ((aI_m1 (by omega)).mp z)), if_neg h]
            exact ⟨_, _, _, ex, em, fin_add HO W W' HN HC' p3 (rX10_asksBill Sx.rf _ _ q1) r3 r2.1 (fun a f h => by rw [gI_uI_ne (by omega), gI_uI_ne (by omega), gI_uI_ne (by omega)]) (fun _ _ => rfl) (fun _ _ => rfl)⟩
          · exact out (ex0.trans (if_pos (show ¬ nI (K 6) < 20 from nI_nlt (b := 20) (by omega) (by omega)))) (fun _ _ _ _ => h6)
        · rw [if_pos (hak.mpr ha)] at ex0
          exact out ex0 (fun _ _ _ z => absurd z ha)
      · have : (aks K ||| fds K).testBit d = true := by
          cases q : (aks K ||| fds K).testBit d with
          | true => rfl
          | false => exact absurd (hfr.mp q) hf
        rw [if_pos this] at ex0
        exact out ex0 (fun _ _ z => absurd z hf)
    · have ex : fX9_asks w x y = some (-2, w) := by
        unfold fX9_asks
        simp only [now_ok HN, X0_hasBill_ok HC W, X0_hasDay_ok HC W, bI_some, if_b01, if_b01', ite_dec]
        rw [if_pos cb, if_neg c]
      obtain ⟨w2, q1, q2⟩ := bill_sx W HO HR Sx.rf x
      have em : fX10_asks w x y = some (-2, w2) := by
        unfold fX10_asks
        rw [q1, bW_some, if_b01, if_pos (decide_eq_true cb), X10_isDay_ok q2.1 W, bI_some, if_b01', if_neg (fun z => c (of_decide_eq_true z))]
      exact ⟨_, _, _, ex, em, H.sx (rX10_asksBill Sx.rf _ _ q1)⟩
  · have ex : fX9_asks w x y = some (-2, w) := by
      unfold fX9_asks
      simp only [now_ok HN, X0_hasBill_ok HC W, bI_some, if_b01, if_b01', ite_dec]
      rw [if_neg cb]
    obtain ⟨w2, q1, q2⟩ := bill_sx W HO HR Sx.rf x
    have em : fX10_asks w x y = some (-2, w2) := by
      unfold fX10_asks
      rw [q1, bW_some, if_b01, if_neg (fun z => cb (of_decide_eq_true z))]
    exact ⟨_, _, _, ex, em, H.sx (rX10_asksBill Sx.rf _ _ q1)⟩
