/-! COLLEGES and counts of bits -/
theorem bc_ok (w : HW) {s : Nat} (hs : s < 2 ^ 14) : fJ6_bitCount_0f7a4 w (nI s) = some (nI (cB s 14)) := by
  rw [jbc_eq]
  have e := jbc_tab (s / 128) (by omega) (s % 128) (by omega)
  rw [show 128 * (s / 128) + s % 128 = s by omega] at e
  rw [e]
theorem lt14 {K : Nat → Nat} (W : WF K) {x : Nat} (h : x < 2 ^ K 0) : x < 2 ^ 14 := by
  have := W.b
  have h2 : 2 ^ K 0 ≤ 2 ^ 14 := Nat.pow_le_pow_right (by omega) (by omega)
  omega
theorem sA_lt {K : Nat → Nat} (W : WF K) (s : Nat) : sA K s < 2 ^ 8 := Nat.lt_of_lt_of_le (bS_lt _ _) (Nat.pow_le_pow_right (by omega) (by have := W.b; omega))
theorem ned8 {K : Nat → Nat} (W : WF K) {b : Nat} (h : b < K 5) : ned K b < 2 ^ 8 := Nat.lt_of_lt_of_le (ned_lt W h) (Nat.pow_le_pow_right (by omega) (by have := W.b; omega))
/-- the deepest of the first n bills (one more), and how deep -/
def deF (K : Nat → Nat) : Nat → Nat × Nat
  | 0 => (0, 0)
  | n + 1 => if (deF K n).2 < cB (ned K n) 14 then (n + 1, cB (ned K n) 14) else deF K n
theorem deF_le (K : Nat → Nat) : ∀ n, (deF K n).1 ≤ n ∧ (deF K n).2 ≤ 14 := by
  intro n
  induction n with
  | zero => exact ⟨Nat.le_refl _, by simp [deF]⟩
  | succ n ih =>
    have := cB_le (ned K n) 14
    unfold deF
    split
    · dsimp only; omega
    · omega
section CO
variable {w : HW} {K : Nat → Nat} {kn ks : Nat}
theorem X9_deepest_L (HN : RelN w kn ks) (H : CC w kn K) (W : WF K) : ∀ F i, i ≤ K 5 → K 5 - i < F → fX9_deepest_19 w F (aI (deF K i).1) (nI (deF K i).2) (nI i) = some (aI (deF K (K 5)).1) := by
  have hb := W.b
  intro F
  induction F with
  | zero => intro i h1 h2; omega
  | succ F ih =>
    intro i h1 h2
    have hd := deF_le K i
    rw [fX9_deepest_19]
    simp only [now_ok HN]
    rw [H.c10]
    by_cases hi : i < K 5
    · have hn := ned8 W hi
      have e := ih (i + 1) (by omega) (by omega)
      rw [deF] at e
      have hc := cB_le (ned K i) 14
      rw [if_pos (nI_lt hi (by omega)), X0_needsOf_ok H W hi, bI_some, bc_ok w (by omega), bI_some, nI_1]
      by_cases hq : (deF K i).2 < cB (ned K i) 14
      · rw [if_pos ((nI_ltI (by omega) (by omega)).mpr hq)]; simpa [hq, aI_s] using e
      · rw [if_neg (fun z => hq ((nI_ltI (by omega) (by omega)).mp z))]; simpa [hq] using e
    · have e : i = K 5 := by omega
      rw [if_neg (nI_nlt (by omega) (by omega)), e]
theorem X10_deepest_L (H : RC w K) (W : WF K) : ∀ F i, i ≤ K 5 → K 5 - i < F → fX10_deepest_16 w F (aI (deF K i).1) (nI (deF K i).2) (nI i) = some (aI (deF K (K 5)).1) := by
  have hb := W.b
  intro F
  induction F with
  | zero => intro i h1 h2; omega
  | succ F ih =>
    intro i h1 h2
    have hd := deF_le K i
    rw [fX10_deepest_16, if_pos (show inB 5 77 = true from rfl), ix_5, H.r5]
    by_cases hi : i < K 5
    · have hn := ned8 W hi
      have e := ih (i + 1) (by omega) (by omega)
      rw [deF] at e
      have hc := cB_le (ned K i) 14
      rw [if_pos (nI_lt hi (by omega)), X10_needsOf_ok H W hi, bI_some, X10_bits_ok w (by omega), bI_some, nI_1]
      by_cases hq : (deF K i).2 < cB (ned K i) 14
      · rw [if_neg (fun z => z ((nI_ltI (by omega) (by omega)).mpr hq))]; simpa [hq, aI_s] using e
      · rw [if_pos (fun z => hq ((nI_ltI (by omega) (by omega)).mp z))]; simpa [hq] using e
    · have e : i = K 5 := by omega
      rw [if_neg (nI_nlt (by omega) (by omega)), e]
theorem X10_sideAugurs_L (H : RC w K) (W : WF K) {s : Nat} (hs : s < 2 ^ 31) : ∀ F i, i ≤ K 4 → K 4 - i < F → fX10_sideAugurs_4 w (nI s) F (nI (bS (fun a => K (9 + 3 * a) == s) i)) (nI i) = some (nI (sA K s)) := by
  have hb := W.b
  intro F
  induction F with
  | zero => intro i h1 h2; omega
  | succ F ih =>
    intro i h1 h2
    rw [fX10_sideAugurs_4, if_pos (show inB 4 77 = true from rfl), ix_4, H.r4]
    by_cases hi : i < K 4
    · have ha := W.aug hi
      have e := ih (i + 1) (by omega) (by omega)
      rw [bS] at e
      rw [if_pos (nI_lt hi (by omega)), X10_ofAugur_0 H W hi, bI_some]
      simp only [lT_eq, nI_1]
      rw [iSl_1 (by omega), nI_or, show (nI (bS (fun a => K (9 + 3 * a) == s) i) ||| 0) = nI (bS (fun a => K (9 + 3 * a) == s) i) by rw [show (0 : Int32) = nI 0 from rfl, nI_or, Nat.or_zero]]
      by_cases hq : K (9 + 3 * i) = s
      · rw [if_pos (by rw [hq])]; simpa [hq] using e
      · rw [if_neg (fun z => hq ((nI_eq (by omega) hs).mp z))]; simpa [hq] using e
    · have e : i = K 4 := by omega
      rw [if_neg (nI_nlt (by omega) (by omega)), e]; rfl
theorem X10_sideAugurs_ok (H : RC w K) (W : WF K) {s : Nat} (hs : s < 2 ^ 31) : fX10_sideAugurs w (nI s) = some (nI (sA K s)) := by
  have := W.b
  exact X10_sideAugurs_L H W hs FU 0 (by omega) (by rw [FU_eq]; omega)
end CO
/-- the sky of a set of augurs -/
def skS (K : Nat → Nat) (t : Nat) : Nat := skF K (fun a => t.testBit a) (K 4)
def isG (K : Nat → Nat) (s t : Nat) : Prop := t &&& sA K s = t ∧ skS K t = sky K s
theorem isG_own (K : Nat → Nat) (s : Nat) : isG K s (sA K s) := ⟨Nat.and_self _, skF_sA s⟩
theorem isG_le {K : Nat → Nat} {s t : Nat} (h : isG K s t) : t ≤ sA K s := by
  have := @Nat.and_le_right t (sA K s)
  rw [h.1] at this
  exact this
theorem sub_own {K : Nat → Nat} {s t : Nat} (h : t &&& sA K s = t) : skF K (fun a => K (9 + 3 * a) == s && t.testBit a) (K 4) = skS K t := by
  refine skF_congr _ (fun i hi => ?_)
  have e : t.testBit i = (t.testBit i && (sA K s).testBit i) := by rw [← Nat.testBit_and, h]
  unfold sA at e
  rw [bS_bit] at e
  cases hq : t.testBit i
  · simp
  · rw [hq] at e
    simp [hi] at e
    simp [e]
theorem nd_zero {s t : Nat} : nd s t = 0 ↔ s &&& t = s := by
  constructor
  · intro h
    apply Nat.eq_of_testBit_eq
    intro i
    have e : (nd s t).testBit i = false := by rw [h]; exact Nat.zero_testBit i
    rw [nd_bit] at e
    rw [Nat.testBit_and]
    cases h1 : s.testBit i <;> cases h2 : t.testBit i <;> simp_all
  · intro h
    apply Nat.eq_of_testBit_eq
    intro i
    have e : (s &&& t).testBit i = s.testBit i := by rw [h]
    rw [Nat.testBit_and] at e
    rw [nd_bit, Nat.zero_testBit]
    cases h1 : s.testBit i <;> cases h2 : t.testBit i <;> simp_all
/-- the fewest, of them the least -/
def isB (K : Nat → Nat) (s b : Nat) : Prop := isG K s b ∧ ∀ t, isG K s t → cB b 14 < cB t 14 ∨ (cB b 14 = cB t 14 ∧ b ≤ t)
theorem isB_one {K : Nat → Nat} {s a b : Nat} (ha : isB K s a) (hb : isB K s b) : a = b := by
  have h1 := ha.2 b hb.1
  have h2 := hb.2 a ha.1
  omega
theorem cB_sub {t o : Nat} (h : t &&& o = t) : ∀ n, cB t n ≤ cB o n ∧ (cB t n = cB o n → ∀ i, i < n → t.testBit i = o.testBit i) := by
  intro n
  induction n with
  | zero => exact ⟨Nat.le_refl _, fun _ i hi => by omega⟩
  | succ n ih =>
    have e : t.testBit n = (t.testBit n && o.testBit n) := by rw [← Nat.testBit_and, h]
    have h1 : tB t n ≤ tB o n := by
      unfold tB
      cases h2 : t.testBit n <;> cases h3 : o.testBit n <;> simp_all
    unfold cB
    refine ⟨by omega, fun he i hi => ?_⟩
    by_cases hn : i = n
    · subst hn
      have h4 : tB t i = tB o i := by omega
      unfold tB at h4
      cases h2 : t.testBit i <;> cases h3 : o.testBit i <;> simp_all
    · exact ih.2 (by omega) i (by omega)
theorem few_eq {t o : Nat} (h : t &&& o = t) (he : cB o 14 = cB t 14) (ho : o < 2 ^ 14) : o = t := by
  have h1 : t ≤ o := by
    have := @Nat.and_le_right t o
    rw [h] at this
    exact this
  exact (bit_ext (by omega) ho ((cB_sub h 14).2 he.symm)).symm
section CO2
variable {w : HW} {K : Nat → Nat} {kn ks : Nat}
theorem X9_few_L (HN : RelN w kn ks) (H : CC w kn K) (W : WF K) {s : Nat} (hs : s ≤ 1) : ∀ F i b, i ≤ sA K s → sA K s - i < F → isG K s b → (∀ t, t < i → isG K s t → cB b 14 < cB t 14 ∨ (cB b 14 = cB t 14 ∧ b ≤ t)) → (b < i ∨ b = sA K s) → cB b 14 ≤ cB (sA K s) 14 → ∃ b', isB K s b' ∧ fX9_fewestAugurs_24 w (nI (sA K s)) (nI (sky K s)) F (nI b) (nI i) = some (nI b') := by
  have hb := W.b
  have hA := sA_lt W s
  intro F
  induction F with
  | zero => intro i b h1 h2; omega
  | succ F ih =>
    intro i b h1 h2 g1 g2 g3 g4
    rw [fX9_fewestAugurs_24]
    by_cases hi : i < sA K s
    · have hbl := isG_le g1
      have hc1 := cB_le i 14
      have hc2 := cB_le b 14
      rw [if_pos (nI_lt hi (by omega)), nI_and, nI_1]
      have same : ¬ isG K s i ∨ cB b 14 ≤ cB i 14 → ∃ b', isB K s b' ∧ fX9_fewestAugurs_24 w (nI (sA K s)) (nI (sky K s)) F (nI b) (nI (i + 1)) = some (nI b') := by
        intro hq
        refine ih (i + 1) b (by omega) (by omega) g1 (fun t ht hg => ?_) (by omega) g4
        by_cases e : t = i
        · subst e
          rcases hq with hq | hq
          · exact absurd hg hq
          · rcases Nat.lt_or_eq_of_le hq with h | h
            · exact Or.inl h
            · refine Or.inr ⟨h, ?_⟩
              rcases g3 with g3 | g3
              · omega
              · -- own and t have as many bits
                have h5 := g2
                subst g3
                exact absurd h (by
                  intro h
                  have : sA K s = t := few_eq hg.1 h (by omega)
                  omega)
        · exact g2 t (by omega) hg
      by_cases hsub : i &&& sA K s = i
      · rw [if_pos (by rw [hsub]), bc_ok w (by omega), bI_some, bc_ok w (by omega), bI_some]
        by_cases hlt : cB i 14 < cB b 14
        · rw [if_pos ((nI_ltI (by omega) (by omega)).mpr hlt)]
          simp only [now_ok HN]
          rw [X0_skyOf_ok H W (by omega), bI_some]
          by_cases hsk : skS K i = sky K s
          · rw [if_pos (show nI (skF K (fun a => i.testBit a) (K 4)) = nI (sky K s) from congrArg nI hsk)]
            refine ih (i + 1) i (by omega) (by omega) ⟨hsub, hsk⟩ (fun t ht hg => ?_) (by omega) (by omega)
            by_cases e : t = i
            · subst e; exact Or.inr ⟨rfl, Nat.le_refl _⟩
            · have := g2 t (by omega) hg
              exact Or.inl (by omega)
          · rw [if_neg (fun z => hsk ((nI_eq (a := skF K (fun a => i.testBit a) (K 4)) (b := sky K s) (skF_31 W _ (Nat.le_refl _)) (skF_31 W _ (Nat.le_refl _))).mp z))]
            exact same (Or.inl (fun z => hsk z.2))
        · rw [if_neg (fun z => hlt ((nI_ltI (by omega) (by omega)).mp z))]
          exact same (Or.inr (by omega))
      · rw [if_neg (fun z => hsub ((nI_eq (by have := @Nat.and_le_right i (sA K s); omega) (by omega)).mp z))]
        exact same (Or.inl (fun z => hsub z.1))
    · have e : i = sA K s := by omega
      rw [if_neg (nI_nlt (by omega) (by omega))]
      refine ⟨b, ⟨g1, fun t hg => ?_⟩, rfl⟩
      by_cases ht : t < i
      · exact g2 t ht hg
      · have := isG_le hg
        have e2 : t = sA K s := by omega
        rw [e2]
        have := isG_le g1
        omega
end CO2
section CO3
variable {w : HW} {K : Nat → Nat} {kn ks : Nat}
theorem X10_few_L (H : RC w K) (W : WF K) {s : Nat} (hs : s ≤ 1) : ∀ F j b, j ≤ sA K s + 1 → j < F → isG K s b → (∀ t, j ≤ t → isG K s t → cB b 14 < cB t 14 ∨ (cB b 14 = cB t 14 ∧ b ≤ t)) → ∃ b', isB K s b' ∧ fX10_chosenOf_11 w (nI s) (nI (sA K s)) F (nI b) (aI j) = some (nI b') := by
  have hb := W.b
  have hA := sA_lt W s
  intro F
  induction F with
  | zero => intro j b h1 h2; omega
  | succ F ih =>
    intro j b h1 h2 g1 g2
    have hbl := isG_le g1
    rw [fX10_chosenOf_11]
    cases j with
    | zero =>
      rw [aI_0, if_neg (fun z => z (by decide))]
      exact ⟨b, ⟨g1, fun t hg => g2 t (by omega) hg⟩, rfl⟩
    | succ j =>
      have hc1 := cB_le j 14
      have hc2 := cB_le b 14
      rw [aI_s, if_pos (nI_pos (by omega)), nI_nd, pk_back (by omega)]
      have same : ¬ isG K s j ∨ cB b 14 < cB j 14 → ∃ b', isB K s b' ∧ fX10_chosenOf_11 w (nI s) (nI (sA K s)) F (nI b) (aI j) = some (nI b') := by
        intro hq
        refine ih j b (by omega) (by omega) g1 (fun t ht hg => ?_)
        by_cases e : t = j
        · subst e
          rcases hq with hq | hq
          · exact absurd hg hq
          · exact Or.inl hq
        · exact g2 t (by omega) hg
      by_cases hsub : j &&& sA K s = j
      · rw [if_pos (show nI (nd j (sA K s)) = 0 by rw [nd_zero.mpr hsub]; rfl), X10_bits_ok w (by omega), bI_some, X10_bits_ok w (by omega), bI_some]
        by_cases hlt : cB b 14 < cB j 14
        · rw [if_neg (fun z => z ((nI_ltI (by omega) (by omega)).mpr hlt))]
          exact same (Or.inr hlt)
        · rw [if_pos (fun z => hlt ((nI_ltI (by omega) (by omega)).mp z)), X10_skyBy_ok H W (by omega) (by omega), bI_some, X10_skyOf_ok H W (by omega), bI_some, sub_own hsub]
          by_cases hsk : skS K j = sky K s
          · rw [if_pos (congrArg nI hsk)]
            refine ih j j (by omega) (by omega) ⟨hsub, hsk⟩ (fun t ht hg => ?_)
            by_cases e : t = j
            · subst e; exact Or.inr ⟨rfl, Nat.le_refl _⟩
            · have := g2 t (by omega) hg
              omega
          · rw [if_neg (fun z => hsk ((nI_eq (a := skS K j) (b := sky K s) (skF_31 W _ (Nat.le_refl _)) (skF_31 W _ (Nat.le_refl _))).mp z))]
            exact same (Or.inl (fun z => hsk z.2))
      · rw [if_neg (fun (z : nI (nd j (sA K s)) = 0) => hsub (nd_zero.mp ((nI_eq (b := 0) (Nat.lt_of_lt_of_le (nd_lt (n := 8) (by omega)) (by decide)) (by omega)).mp z)))]
        exact same (Or.inl (fun z => hsub z.1))
/-- the college, as both find it -/
theorem few_both (HN : RelN w kn ks) (HC : CC w kn K) (HR : RC w K) (W : WF K) {s : Nat} (hs : s ≤ 1) : ∃ b, b < 2 ^ 8 ∧ fX9_fewestAugurs w (nI s) = some (nI b) ∧ fX10_chosenOf w (nI s) = some (nI b) := by
  have hb := W.b
  have hA := sA_lt W s
  obtain ⟨b, b1, b2⟩ := X9_few_L HN HC W hs FU 0 (sA K s) (by omega) (by rw [FU_eq]; omega) (isG_own K s) (fun t ht => by omega) (Or.inr rfl) (Nat.le_refl _)
  obtain ⟨c, c1, c2⟩ := X10_few_L HR W hs FU (sA K s + 1) (sA K s) (by omega) (by rw [FU_eq]; omega) (isG_own K s) (fun t ht hg => by have := isG_le hg; omega)
  have e := isB_one b1 c1
  subst e
  refine ⟨b, by have := isG_le b1.1; omega, ?_, ?_⟩
  · unfold fX9_fewestAugurs
    simp only [now_ok HN]
    rw [X0_augursOf_ok HC W (by omega), bI_some, X0_sky_ok HC W, bI_some]
    exact b2
  · unfold fX10_chosenOf
    rw [X10_sideAugurs_ok HR W (by omega), bI_some]
    rw [aI_s] at c2
    exact c2
end CO3
theorem ag_deepest {w : HW} (H : Rel w) : Agree w (pu fX9_deepest) (pu fX10_deepest) := by
  obtain ⟨HO, K, W, HR, kn, ks, HN, HC⟩ := id H
  have hb := W.b
  refine agree_ro H (r := if 0 < K 7 then aI (deF K (K 5)).1 else -2) ?_ ?_
  · unfold fX9_deepest
    simp only [now_ok HN, X0_isTold_ok HC W, bI_some, if_b01', ite_dec]
    rw [show fX9_deepest_19 w FU (-1) 0 0 = _ from X9_deepest_L HN HC W FU 0 (by omega) (by rw [FU_eq]; omega)]
    split <;> rfl
  · unfold fX10_deepest
    rw [X10_isCamp_ok HR W, bI_some, if_b01', ite_dec, show fX10_deepest_16 w FU (-1) 0 0 = _ from X10_deepest_L HR W FU 0 (by omega) (by rw [FU_eq]; omega)]
    split <;> rfl
theorem ag_college {w : HW} (H : Rel w) (x : Int32) : Agree w (pu (fX9_college · x)) (pu (fX10_college · x)) := by
  obtain ⟨HO, K, W, HR, kn, ks, HN, HC⟩ := id H
  have e1 : fX9_college w x = if 0 < K 7 ∧ (x = 0 ∨ x = 1) then (bI (fX9_fewestAugurs w x) fun r => bI (fJ6_bitCount_0f7a4 w r) fun z => some z) else some (-2) := by
    unfold fX9_college
    simp only [now_ok HN, X0_hasSide_ok HC W, bI_some, if_b01, and_dec]
  have e2 : fX10_college w x = if 0 < K 7 ∧ (x = 0 ∨ x = 1) then (bI (fX10_chosenOf w x) fun r => bI (fX10_bits w r) fun z => some z) else some (-2) := by
    unfold fX10_college
    simp only [X10_isSide_ok HR W, bI_some, if_b01, and_dec]
  by_cases h : 0 < K 7 ∧ (x = 0 ∨ x = 1)
  · obtain ⟨s, hs, rfl⟩ := side_of h.2
    obtain ⟨b, b0, b1, b2⟩ := few_both HN HC HR W hs
    rw [if_pos h, b1, bI_some, bc_ok w (by omega), bI_some] at e1
    rw [if_pos h, b2, bI_some, X10_bits_ok w (by omega), bI_some] at e2
    exact agree_ro H e1 e2
  · rw [if_neg h] at e1 e2
    exact agree_ro H e1 e2
theorem ag_chosen {w : HW} (H : Rel w) (x : Int32) : Agree w (pu (fX9_chosen · x)) (pu (fX10_chosen · x)) := by
  obtain ⟨HO, K, W, HR, kn, ks, HN, HC⟩ := id H
  have e1 : fX9_chosen w x = if 0 < K 7 ∧ (x = 0 ∨ x = 1) then (bI (fX9_fewestAugurs w x) fun r => some r) else some (-2) := by
    unfold fX9_chosen
    simp only [now_ok HN, X0_hasSide_ok HC W, bI_some, if_b01, and_dec]
  have e2 : fX10_chosen w x = if 0 < K 7 ∧ (x = 0 ∨ x = 1) then (bI (fX10_chosenOf w x) fun r => some r) else some (-2) := by
    unfold fX10_chosen
    simp only [X10_isSide_ok HR W, bI_some, if_b01, and_dec]
  by_cases h : 0 < K 7 ∧ (x = 0 ∨ x = 1)
  · obtain ⟨s, hs, rfl⟩ := side_of h.2
    obtain ⟨b, b0, b1, b2⟩ := few_both HN HC HR W hs
    rw [if_pos h, b1, bI_some] at e1
    rw [if_pos h, b2, bI_some] at e2
    exact agree_ro H e1 e2
  · rw [if_neg h] at e1 e2
    exact agree_ro H e1 e2
/-- the most days that k of a side's augurs watch, of the sets below n -/
def hoF (K : Nat → Nat) (s k : Nat) : Nat → Nat
  | 0 => 0
  | n + 1 => if n &&& sA K s = n ∧ cB n 14 ≤ k then max (hoF K s k n) (cB (skS K n) 14) else hoF K s k n
theorem hoF_le (K : Nat → Nat) (s k : Nat) : ∀ n, hoF K s k n ≤ 14 := by
  intro n
  induction n with
  | zero => simp [hoF]
  | succ n ih =>
    have := cB_le (skS K n) 14
    unfold hoF
    split <;> omega
theorem hoF_more {K : Nat → Nat} {s k : Nat} : ∀ m, sA K s + 1 ≤ m → hoF K s k m = hoF K s k (sA K s + 1) := by
  intro m
  induction m with
  | zero => intro h; omega
  | succ m ih =>
    intro h
    by_cases e : m = sA K s
    · rw [e]
    · have e1 : hoF K s k (m + 1) = hoF K s k m := by
        rw [hoF, if_neg]
        rintro ⟨h1, -⟩
        have := @Nat.and_le_right m (sA K s)
        omega
      rw [e1]
      exact ih (by omega)
section CO4
variable {w : HW} {K : Nat → Nat} {kn ks : Nat}
theorem X9_hold_L (HN : RelN w kn ks) (H : CC w kn K) (W : WF K) {s k : Nat} (hk : k ≤ 8) : ∀ F i, i ≤ 256 → 256 - i < F → fX9_hold_39 w (nI k) (nI (sA K s)) F (nI (hoF K s k i)) (nI i) = some (nI (hoF K s k 256)) := by
  have hb := W.b
  have hA := sA_lt W s
  intro F
  induction F with
  | zero => intro i h1 h2; omega
  | succ F ih =>
    intro i h1 h2
    have hl := hoF_le K s k i
    rw [fX9_hold_39]
    by_cases hi : i < 256
    · have e := ih (i + 1) (by omega) (by omega)
      rw [hoF] at e
      have hc := cB_le i 14
      have hc2 := cB_le (skS K i) 14
      rw [if_pos (show nI i < (256 : Int32) from nI_lt (b := 256) hi (by omega)), nI_and, nI_1]
      by_cases hsub : i &&& sA K s = i
      · rw [if_pos (by rw [hsub]), bc_ok w (by omega), bI_some]
        by_cases hq : cB i 14 ≤ k
        · rw [if_pos (fun z => absurd ((nI_ltI (by omega) (by omega)).mp z) (by omega))]
          simp only [now_ok HN]
          rw [X0_skyOf_ok H W (by omega), bI_some, bc_ok w (lt14 W (skF_lt W _ _ (Nat.le_refl _))), bI_some, lT_eq, show cB (skF K (fun a => i.testBit a) (K 4)) 14 = cB (skS K i) 14 from rfl, iMx_nI (by omega) (by omega)]
          rw [if_pos ⟨hsub, hq⟩] at e
          exact e
        · rw [if_neg (fun z => z ((nI_ltI (by omega) (by omega)).mpr (by omega)))]
          rw [if_neg (fun z => hq z.2)] at e
          exact e
      · rw [if_neg (fun z => hsub ((nI_eq (by have := @Nat.and_le_right i (sA K s); omega) (by omega)).mp z))]
        rw [if_neg (fun z => hsub z.1)] at e
        exact e
    · have e : i = 256 := by omega
      rw [e, if_neg (by decide)]
theorem X10_hold_L (H : RC w K) (W : WF K) {s k : Nat} (hs : s ≤ 1) (hk : k ≤ 8) : ∀ F i, i ≤ sA K s + 1 → sA K s + 1 - i < F → fX10_hold_35 w (nI s) (nI k) (nI (sA K s)) F (nI (hoF K s k i)) (nI i) = some (nI (hoF K s k (sA K s + 1))) := by
  have hb := W.b
  have hA := sA_lt W s
  intro F
  induction F with
  | zero => intro i h1 h2; omega
  | succ F ih =>
    intro i h1 h2
    have hl := hoF_le K s k i
    rw [fX10_hold_35]
    by_cases hi : i < sA K s + 1
    · have e := ih (i + 1) (by omega) (by omega)
      rw [hoF] at e
      have hc := cB_le i 14
      have hc2 := cB_le (skS K i) 14
      rw [if_pos (fun z => absurd ((nI_ltI (by omega) (by omega)).mp z) (by omega)), nI_nd, nI_1]
      by_cases hsub : i &&& sA K s = i
      · rw [if_pos (show nI (nd i (sA K s)) = 0 by rw [nd_zero.mpr hsub]; rfl), X10_bits_ok w (by omega), bI_some]
        by_cases hq : cB i 14 ≤ k
        · rw [if_pos (fun z => absurd ((nI_ltI (by omega) (by omega)).mp z) (by omega)), X10_skyBy_ok H W (by omega) (by omega), bI_some, sub_own hsub, X10_bits_ok (s := skS K i) w (skF_31 W _ (Nat.le_refl _)), bI_some, lT_eq, iMx_nI (by omega) (by omega)]
          rw [if_pos ⟨hsub, hq⟩] at e
          exact e
        · rw [if_neg (fun z => z ((nI_ltI (by omega) (by omega)).mpr (by omega)))]
          rw [if_neg (fun z => hq z.2)] at e
          exact e
      · rw [if_neg (fun (z : nI (nd i (sA K s)) = 0) => hsub (nd_zero.mp ((nI_eq (b := 0) (Nat.lt_of_lt_of_le (nd_lt (n := 8) (by omega)) (by decide)) (by omega)).mp z)))]
        rw [if_neg (fun z => hsub z.1)] at e
        exact e
    · have e : i = sA K s + 1 := by omega
      rw [e, if_neg (fun z => z (nI_lt (by omega) (by omega)))]
end CO4
theorem ag_hold {w : HW} (H : Rel w) (x y : Int32) : Agree w (pu (fX9_hold · x y)) (pu (fX10_hold · x y)) := by
  obtain ⟨HO, K, W, HR, kn, ks, HN, HC⟩ := id H
  have hb := W.b
  have e1 : fX9_hold w x y = if 0 < K 7 ∧ (x = 0 ∨ x = 1) then (if ¬ y < 0 then (if 8 < y then some (-2) else bI (fX0_augursOf w kn x) fun r => fX9_hold_39 w y r FU 0 0) else some (-2)) else some (-2) := by
    unfold fX9_hold
    simp only [now_ok HN, X0_hasSide_ok HC W, bI_some, if_b01, and_dec]
  have e2 : fX10_hold w x y = if 0 < K 7 ∧ (x = 0 ∨ x = 1) then (if 0 ≤ y ∧ y < nI 9 then bI (fX10_sideAugurs w x) fun r => fX10_hold_35 w x y r FU 0 0 else some (-2)) else some (-2) := by
    unfold fX10_hold
    simp only [X10_isSide_ok HR W, bI_some, if_b01, and_dec]
    rw [in_lit w y 8 8 8 rfl rfl (by omega), bI_some, if_b01', ite_dec]
  by_cases h : 0 < K 7 ∧ (x = 0 ∨ x = 1)
  · obtain ⟨s, hs, rfl⟩ := side_of h.2
    rw [if_pos h] at e1 e2
    by_cases h2 : 0 ≤ y ∧ y < nI 9
    · obtain ⟨k, hk, rfl⟩ := rng_of (by omega) h2
      rw [if_pos (nI_pos (by omega)), if_neg (show ¬ (8 : Int32) < nI k from nI_nlt (a := 8) (by omega) (by omega)), X0_augursOf_ok HC W (by omega), bI_some, show (0 : Int32) = nI 0 from rfl] at e1
      rw [if_pos h2, X10_sideAugurs_ok HR W (by omega), bI_some, show (0 : Int32) = nI 0 from rfl] at e2
      have g1 := X9_hold_L HN HC W (s := s) (k := k) (by omega) FU 0 (by omega) (by rw [FU_eq]; omega)
      have hA := sA_lt W s
      have g2 := X10_hold_L HR W hs (k := k) (by omega) FU 0 (by omega) (by rw [FU_eq]; omega)
      rw [hoF_more 256 (by omega)] at g1
      exact agree_ro H (e1.trans g1) (e2.trans g2)
    · rw [if_neg h2] at e2
      by_cases h3 : y < 0
      · rw [if_neg (fun z => z h3)] at e1
        exact agree_ro H e1 e2
      · rw [if_pos h3, if_pos] at e1
        · exact agree_ro H e1 e2
        · rcases pk_ix y (n := 9) (by omega) with g | g | ⟨j, hj, rfl⟩
          · exact absurd g h3
          · rw [fa_le] at g
            rw [fa_lt]
            exact g
          · exact absurd (nI_rng (by omega) hj) h2
  · rw [if_neg h] at e1 e2
    exact agree_ro H e1 e2
/-- the side's sky but for one augur -/
def skX (K : Nat → Nat) (s a : Nat) : Nat := skF K (fun j => K (9 + 3 * j) == s && !decide (j = a)) (K 4)
def loF (K : Nat → Nat) (s : Nat) (a : Nat) : Bool := K (9 + 3 * a) == s && !decide (skX K s a = sky K s)
def idF (K : Nat → Nat) (s : Nat) (a : Nat) : Bool := K (9 + 3 * a) == s && decide (skX K s a = sky K s)
theorem p2_and {o a : Nat} : (o &&& 2 ^ a = 0) ↔ o.testBit a = false := fb_bit_nat o a
theorem skS_nd {K : Nat → Nat} {s a : Nat} : skF K (fun j => (nd (sA K s) (2 ^ a)).testBit j) (K 4) = skX K s a := by
  refine skF_congr _ (fun i hi => ?_)
  rw [nd_bit, Nat.testBit_two_pow]
  unfold sA
  rw [bS_bit]
  simp [hi, eq_comm]
theorem skY_nd {K : Nat → Nat} {s a : Nat} : skF K (fun j => K (9 + 3 * j) == s && (nd (2 ^ K 4 - 1) (2 ^ a)).testBit j) (K 4) = skX K s a := by
  refine skF_congr _ (fun i hi => ?_)
  rw [nd_bit, Nat.testBit_two_pow, Nat.testBit_two_pow_sub_one]
  simp [hi, eq_comm]
section CO5
variable {w : HW} {K : Nat → Nat} {kn ks : Nat}
theorem skX_31 (W : WF K) (s a : Nat) : skX K s a < 2 ^ 31 := skF_31 W _ (Nat.le_refl _)
theorem sky_31 (W : WF K) (s : Nat) : sky K s < 2 ^ 31 := skF_31 W _ (Nat.le_refl _)
theorem X9_lone_L (HN : RelN w kn ks) (H : CC w kn K) (W : WF K) {s : Nat} (hs : s ≤ 1) : ∀ F i, i ≤ K 4 → K 4 - i < F → fX9_loneAugurs_24 w (nI (sA K s)) (nI (sky K s)) F (nI (bS (loF K s) i)) (nI i) = some (nI (bS (loF K s) (K 4))) := by
  have hb := W.b
  have hA := sA_lt W s
  intro F
  induction F with
  | zero => intro i h1 h2; omega
  | succ F ih =>
    intro i h1 h2
    rw [fX9_loneAugurs_24]
    simp only [now_ok HN]
    rw [H.c6]
    by_cases hi : i < K 4
    · have e := ih (i + 1) (by omega) (by omega)
      rw [bS] at e
      have hp : 2 ^ i < 2 ^ 8 := Nat.pow_lt_pow_right (by omega) (by omega)
      have hn : nd (sA K s) (2 ^ i) < 2 ^ 8 := nd_lt hA
      rw [if_pos (nI_lt hi (by omega)), lT_eq, iSl_1 (by omega), nI_and, nI_nd, X0_skyOf_ok H W (by omega), bI_some, skS_nd, lT_eq, nI_or, nI_1]
      by_cases hq : K (9 + 3 * i) = s
      · have hbit : (sA K s).testBit i = true := by unfold sA; rw [bS_bit]; simp [hi, hq]
        rw [if_pos (fun (z : nI (sA K s &&& 2 ^ i) = 0) => by
          have := (nI_eq (b := 0) (by have := @Nat.and_le_left (sA K s) (2 ^ i); omega) (by omega)).mp z
          rw [p2_and, hbit] at this
          cases this)]
        by_cases hk : skX K s i = sky K s
        · rw [if_neg (fun z => z (congrArg nI hk))]
          simpa [loF, hk] using e
        · rw [if_pos (fun z => hk ((nI_eq (skX_31 W s i) (sky_31 W s)).mp z))]
          simpa [loF, hq, hk] using e
      · have hbit : (sA K s).testBit i = false := by unfold sA; rw [bS_bit]; simp [hq]
        rw [if_neg (fun z => z (show nI (sA K s &&& 2 ^ i) = 0 by rw [p2_and.mpr hbit]; rfl))]
        simpa [loF, hq] using e
    · have e : i = K 4 := by omega
      rw [if_neg (nI_nlt (by omega) (by omega)), e]
theorem X10_lone_L (H : RC w K) (W : WF K) {s : Nat} (hs : s ≤ 1) : ∀ F i, i ≤ K 4 → K 4 - i < F → fX10_lone_15 w (nI s) F (nI (bS (loF K s) i)) (nI i) = some (nI (bS (loF K s) (K 4))) := by
  have hb := W.b
  intro F
  induction F with
  | zero => intro i h1 h2; omega
  | succ F ih =>
    intro i h1 h2
    rw [fX10_lone_15, if_pos (show inB 4 77 = true from rfl), ix_4, H.r4]
    by_cases hi : i < K 4
    · have ha := W.aug hi
      have e := ih (i + 1) (by omega) (by omega)
      rw [bS] at e
      rw [if_pos (nI_lt hi (by omega)), X10_ofAugur_0 H W hi, bI_some, X10_allAugurs_ok H W, bI_some, iSl_1 (by omega), nI_nd, X10_skyBy_ok H W (by omega) (Nat.lt_of_lt_of_le (nd_lt (n := 8) (Nat.lt_of_lt_of_le (show 2 ^ K 4 - 1 < 2 ^ K 4 by have := Nat.two_pow_pos (K 4); omega) (Nat.pow_le_pow_right (by omega) (by omega)))) (by decide)), bI_some, skY_nd, X10_skyOf_ok H W (by omega), bI_some]
      simp only [lT_eq, nI_1, nI_or]
      rw [show (nI (bS (loF K s) i) ||| 0) = nI (bS (loF K s) i) by rw [show (0 : Int32) = nI 0 from rfl, nI_or, Nat.or_zero]]
      by_cases hq : K (9 + 3 * i) = s
      · rw [if_pos (by rw [hq])]
        by_cases hk : skX K s i = sky K s
        · rw [if_neg (fun z => z (congrArg nI hk))]
          simpa [loF, hk] using e
        · rw [if_pos (fun z => hk ((nI_eq (skX_31 W s i) (sky_31 W s)).mp z))]
          simpa [loF, hq, hk] using e
      · rw [if_neg (fun z => hq ((nI_eq (by omega) (by omega)).mp z))]
        simpa [loF, hq] using e
    · have e : i = K 4 := by omega
      rw [if_neg (nI_nlt (by omega) (by omega)), e]
theorem X10_idle_L (H : RC w K) (W : WF K) {s : Nat} (hs : s ≤ 1) : ∀ F i, i ≤ K 4 → K 4 - i < F → fX10_idle_15 w (nI s) F (nI (bS (idF K s) i)) (nI i) = some (nI (bS (idF K s) (K 4))) := by
  have hb := W.b
  intro F
  induction F with
  | zero => intro i h1 h2; omega
  | succ F ih =>
    intro i h1 h2
    rw [fX10_idle_15, if_pos (show inB 4 77 = true from rfl), ix_4, H.r4]
    by_cases hi : i < K 4
    · have ha := W.aug hi
      have e := ih (i + 1) (by omega) (by omega)
      rw [bS] at e
      rw [if_pos (nI_lt hi (by omega)), X10_ofAugur_0 H W hi, bI_some, X10_allAugurs_ok H W, bI_some, iSl_1 (by omega), nI_nd, X10_skyBy_ok H W (by omega) (Nat.lt_of_lt_of_le (nd_lt (n := 8) (Nat.lt_of_lt_of_le (show 2 ^ K 4 - 1 < 2 ^ K 4 by have := Nat.two_pow_pos (K 4); omega) (Nat.pow_le_pow_right (by omega) (by omega)))) (by decide)), bI_some, skY_nd, X10_skyOf_ok H W (by omega), bI_some]
      simp only [lT_eq, nI_1, nI_or]
      rw [show (nI (bS (idF K s) i) ||| 0) = nI (bS (idF K s) i) by rw [show (0 : Int32) = nI 0 from rfl, nI_or, Nat.or_zero]]
      by_cases hq : K (9 + 3 * i) = s
      · rw [if_pos (by rw [hq])]
        by_cases hk : skX K s i = sky K s
        · rw [if_pos (congrArg nI hk)]
          simpa [idF, hq, hk] using e
        · rw [if_neg (fun z => hk ((nI_eq (skX_31 W s i) (sky_31 W s)).mp z))]
          simpa [idF, hk] using e
      · rw [if_neg (fun z => hq ((nI_eq (by omega) (by omega)).mp z))]
        simpa [idF, hq] using e
    · have e : i = K 4 := by omega
      rw [if_neg (nI_nlt (by omega) (by omega)), e]
theorem X9_loneAugurs_ok (HN : RelN w kn ks) (H : CC w kn K) (W : WF K) {s : Nat} (hs : s ≤ 1) : fX9_loneAugurs w (nI s) = some (nI (bS (loF K s) (K 4))) := by
  have hb := W.b
  have hA := sA_lt W s
  unfold fX9_loneAugurs
  simp only [now_ok HN]
  rw [X0_augursOf_ok H W (by omega), bI_some, X0_sky_ok H W, bI_some]
  exact X9_lone_L HN H W hs FU 0 (by omega) (by rw [FU_eq]; omega)
/-- the augur who watches most (one more), and how many days -/
def teF (K : Nat → Nat) (s : Nat) : Nat → Nat × Nat
  | 0 => (0, 0)
  | n + 1 => if K (9 + 3 * n) = s ∧ (teF K s n).2 < cB (dys (K (10 + 3 * n)) (K (11 + 3 * n))) 14 then (n + 1, cB (dys (K (10 + 3 * n)) (K (11 + 3 * n))) 14) else teF K s n
theorem teF_le (K : Nat → Nat) (s : Nat) : ∀ n, (teF K s n).1 ≤ n ∧ (teF K s n).2 ≤ 14 ∧ ((teF K s n).1 = 0 → (teF K s n).2 = 0) ∧ (∀ c, (teF K s n).1 = c + 1 → (teF K s n).2 = cB (dys (K (10 + 3 * c)) (K (11 + 3 * c))) 14) := by
  intro n
  induction n with
  | zero => exact ⟨Nat.le_refl _, by simp [teF], fun _ => rfl, fun c h => by simp [teF] at h⟩
  | succ n ih =>
    have := cB_le (dys (K (10 + 3 * n)) (K (11 + 3 * n))) 14
    unfold teF
    split
    · refine ⟨Nat.le_refl _, this, fun h => by simp at h, fun c h => ?_⟩
      have e : c = n := by simpa using h.symm
      rw [e]
    · exact ⟨by omega, ih.2.1, ih.2.2.1, ih.2.2.2⟩
theorem cB_pos {s i : Nat} : ∀ n, i < n → s.testBit i = true → 0 < cB s n := by
  intro n
  induction n with
  | zero => intro h; omega
  | succ n ih =>
    intro h hb
    unfold cB
    by_cases e : i = n
    · subst e
      have := tB_eq1.mpr hb
      omega
    · have := ih (by omega) hb
      omega
theorem dys_pos (W : WF K) {a : Nat} (h : a < K 4) : 0 < cB (dys (K (10 + 3 * a)) (K (11 + 3 * a))) 14 := by
  have ha := W.aug h
  have hb := W.b
  refine cB_pos (i := K (10 + 3 * a)) 14 (by omega) ?_
  rw [dys_bit ha.2.1]
  simp [ha.2.1]
theorem X9_tenure_L (HN : RelN w kn ks) (H : CC w kn K) (W : WF K) {s : Nat} (hs : s ≤ 1) : ∀ F i, i ≤ K 4 → K 4 - i < F → fX9_tenure_21 w (nI s) F (aI (teF K s i).1) (nI (teF K s i).2) (nI i) = some (aI (teF K s (K 4)).1) := by
  have hb := W.b
  intro F
  induction F with
  | zero => intro i h1 h2; omega
  | succ F ih =>
    intro i h1 h2
    have hd := teF_le K s i
    rw [fX9_tenure_21]
    simp only [now_ok HN]
    rw [H.c6]
    by_cases hi : i < K 4
    · have ha := W.aug hi
      have e := ih (i + 1) (by omega) (by omega)
      rw [teF] at e
      have hc := cB_le (dys (K (10 + 3 * i)) (K (11 + 3 * i))) 14
      have hdl : dys (K (10 + 3 * i)) (K (11 + 3 * i)) < 2 ^ 14 := dys_lt (by omega)
      rw [if_pos (nI_lt hi (by omega)), X0_daysOfAugur_ok H W hi, bI_some, bc_ok w hdl, bI_some, if_pos (inB_nI (by omega) (by omega)), ix_nI (by omega), (H.aug hi).1, nI_1]
      by_cases hq : K (9 + 3 * i) = s
      · rw [if_pos (by rw [hq])]
        by_cases hq2 : (teF K s i).2 < cB (dys (K (10 + 3 * i)) (K (11 + 3 * i))) 14
        · rw [if_pos ((nI_ltI (by omega) (by omega)).mpr hq2)]
          rw [if_pos ⟨hq, hq2⟩] at e
          rw [aI_s] at e
          exact e
        · rw [if_neg (fun z => hq2 ((nI_ltI (by omega) (by omega)).mp z))]
          rw [if_neg (fun z => hq2 z.2)] at e
          exact e
      · rw [if_neg (fun z => hq ((nI_eq (by omega) (by omega)).mp z))]
        rw [if_neg (fun z => hq z.1)] at e
        exact e
    · have e : i = K 4 := by omega
      rw [if_neg (nI_nlt (by omega) (by omega)), e]
theorem X10_tenure_L (H : RC w K) (W : WF K) {s : Nat} (hs : s ≤ 1) : ∀ F i, i ≤ K 4 → K 4 - i < F → fX10_tenure_15 w (nI s) F (aI (teF K s i).1) (nI i) = some (aI (teF K s (K 4)).1) := by
  have hb := W.b
  intro F
  induction F with
  | zero => intro i h1 h2; omega
  | succ F ih =>
    intro i h1 h2
    have hd := teF_le K s i
    rw [fX10_tenure_15, if_pos (show inB 4 77 = true from rfl), ix_4, H.r4]
    by_cases hi : i < K 4
    · have ha := W.aug hi
      have e := ih (i + 1) (by omega) (by omega)
      rw [teF] at e
      have hc := cB_le (dys (K (10 + 3 * i)) (K (11 + 3 * i))) 14
      have hdl : dys (K (10 + 3 * i)) (K (11 + 3 * i)) < 2 ^ 14 := dys_lt (by omega)
      rw [if_pos (nI_lt hi (by omega)), X10_ofAugur_0 H W hi, bI_some, nI_1]
      by_cases hq : K (9 + 3 * i) = s
      · rw [if_pos (by rw [hq])]
        by_cases hz : (teF K s i).1 = 0
        · rw [if_neg (fun z => z ((aI_m1 (by omega)).mpr hz))]
          have := dys_pos W hi
          have hz2 := hd.2.2.1 hz
          rw [if_pos ⟨hq, by omega⟩, aI_s] at e
          exact e
        · obtain ⟨c, hc1⟩ : ∃ c, (teF K s i).1 = c + 1 := ⟨(teF K s i).1 - 1, by omega⟩
          have hc2 := hd.2.2.2 c hc1
          have hac := W.aug (a := c) (by omega)
          have hdc : dys (K (10 + 3 * c)) (K (11 + 3 * c)) < 2 ^ 14 := dys_lt (by omega)
          have hcc := cB_le (dys (K (10 + 3 * c)) (K (11 + 3 * c))) 14
          rw [if_pos (fun z => hz ((aI_m1 (by omega)).mp z)), X10_daysOf_ok H W hi, bI_some, X10_bits_ok w (by omega), bI_some, hc1, aI_s, X10_daysOf_ok H W (by omega), bI_some, X10_bits_ok w (by omega), bI_some]
          by_cases hq2 : (teF K s i).2 < cB (dys (K (10 + 3 * i)) (K (11 + 3 * i))) 14
          · rw [if_pos ((nI_ltI (by omega) (by omega)).mpr (by omega))]
            rw [if_pos ⟨hq, hq2⟩, aI_s] at e
            exact e
          · rw [if_neg (fun z => hq2 (by have := (nI_ltI (by omega) (by omega)).mp z; omega))]
            rw [if_neg (fun z => hq2 z.2), hc1, aI_s] at e
            exact e
      · rw [if_neg (fun z => hq ((nI_eq (by omega) (by omega)).mp z))]
        rw [if_neg (fun z => hq z.1)] at e
        exact e
    · have e : i = K 4 := by omega
      rw [if_neg (nI_nlt (by omega) (by omega)), e]
end CO5
theorem ag_lone {w : HW} (H : Rel w) (x : Int32) : Agree w (pu (fX9_lone · x)) (pu (fX10_lone · x)) := by
  obtain ⟨HO, K, W, HR, kn, ks, HN, HC⟩ := id H
  have e1 : fX9_lone w x = if 0 < K 7 ∧ (x = 0 ∨ x = 1) then (bI (fX9_loneAugurs w x) fun r => some r) else some (-2) := by
    unfold fX9_lone
    simp only [now_ok HN, X0_hasSide_ok HC W, bI_some, if_b01, and_dec]
  have e2 : fX10_lone w x = if 0 < K 7 ∧ (x = 0 ∨ x = 1) then fX10_lone_15 w x FU 0 0 else some (-2) := by
    unfold fX10_lone
    simp only [X10_isSide_ok HR W, bI_some, if_b01', and_dec]
  by_cases h : 0 < K 7 ∧ (x = 0 ∨ x = 1)
  · obtain ⟨s, hs, rfl⟩ := side_of h.2
    rw [if_pos h, X9_loneAugurs_ok HN HC W hs, bI_some] at e1
    rw [if_pos h] at e2
    have hb := W.b
    exact agree_ro H e1 (e2.trans (X10_lone_L HR W hs FU 0 (by omega) (by rw [FU_eq]; omega)))
  · rw [if_neg h] at e1 e2
    exact agree_ro H e1 e2
theorem ag_idle {w : HW} (H : Rel w) (x : Int32) : Agree w (pu (fX9_idle · x)) (pu (fX10_idle · x)) := by
  obtain ⟨HO, K, W, HR, kn, ks, HN, HC⟩ := id H
  have e1 : fX9_idle w x = if 0 < K 7 ∧ (x = 0 ∨ x = 1) then (bI (fX0_augursOf w kn x) fun r => bI (fX9_loneAugurs w x) fun z => some (r &&& (z ^^^ (-1)))) else some (-2) := by
    unfold fX9_idle
    simp only [now_ok HN, X0_hasSide_ok HC W, bI_some, if_b01, and_dec]
  have e2 : fX10_idle w x = if 0 < K 7 ∧ (x = 0 ∨ x = 1) then fX10_idle_15 w x FU 0 0 else some (-2) := by
    unfold fX10_idle
    simp only [X10_isSide_ok HR W, bI_some, if_b01', and_dec]
  by_cases h : 0 < K 7 ∧ (x = 0 ∨ x = 1)
  · obtain ⟨s, hs, rfl⟩ := side_of h.2
    have hb := W.b
    rw [if_pos h, X0_augursOf_ok HC W (by omega), bI_some, X9_loneAugurs_ok HN HC W hs, bI_some, nI_nd] at e1
    rw [if_pos h] at e2
    have e3 := e2.trans (X10_idle_L HR W hs FU 0 (by omega) (by rw [FU_eq]; omega))
    have e4 : nd (sA K s) (bS (loF K s) (K 4)) = bS (idF K s) (K 4) := by
      apply Nat.eq_of_testBit_eq
      intro i
      unfold sA
      rw [nd_bit, bS_bit, bS_bit, bS_bit]
      by_cases hi : i < K 4 <;> by_cases hq : K (9 + 3 * i) = s <;> by_cases hk : skX K s i = sky K s <;> simp [loF, idF, hi, hq, hk]
    rw [e4] at e1
    exact agree_ro H e1 e3
  · rw [if_neg h] at e1 e2
    exact agree_ro H e1 e2
theorem ag_tenure {w : HW} (H : Rel w) (x : Int32) : Agree w (pu (fX9_tenure · x)) (pu (fX10_tenure · x)) := by
  obtain ⟨HO, K, W, HR, kn, ks, HN, HC⟩ := id H
  have e1 : fX9_tenure w x = if 0 < K 7 ∧ (x = 0 ∨ x = 1) then fX9_tenure_21 w x FU (-1) 0 0 else some (-2) := by
    unfold fX9_tenure
    simp only [now_ok HN, X0_hasSide_ok HC W, bI_some, if_b01', and_dec]
  have e2 : fX10_tenure w x = if 0 < K 7 ∧ (x = 0 ∨ x = 1) then fX10_tenure_15 w x FU (-1) 0 else some (-2) := by
    unfold fX10_tenure
    simp only [X10_isSide_ok HR W, bI_some, if_b01', and_dec]
  by_cases h : 0 < K 7 ∧ (x = 0 ∨ x = 1)
  · obtain ⟨s, hs, rfl⟩ := side_of h.2
    have hb := W.b
    rw [if_pos h] at e1 e2
    exact agree_ro H (e1.trans (X9_tenure_L HN HC W hs FU 0 (by omega) (by rw [FU_eq]; omega))) (e2.trans (X10_tenure_L HR W hs FU 0 (by omega) (by rw [FU_eq]; omega)))
  · rw [if_neg h] at e1 e2
    exact agree_ro H e1 e2
