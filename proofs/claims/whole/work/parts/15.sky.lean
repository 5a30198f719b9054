/-! CALLS that only look: augur, bill, marks, sky, watch, fault, needs, heirs, clear, run, both, deepest, colleges .. -/
theorem side_of {x : Int32} (h : x = 0 ∨ x = 1) : ∃ s : Nat, s ≤ 1 ∧ x = nI s := by
  rcases h with rfl | rfl
  · exact ⟨0, by omega, rfl⟩
  · exact ⟨1, by omega, rfl⟩
theorem rng_of {x : Int32} {n : Nat} (hn : n < 2 ^ 31) (h : 0 ≤ x ∧ x < nI n) : ∃ j : Nat, j < n ∧ x = nI j := by
  rcases pk_ix x hn with h1 | h1 | h1
  · rw [fa_lt] at h1
    have h2 := h.1
    rw [fa_le] at h2
    omega
  · have h2 := h.2
    rw [fa_le] at h1
    rw [fa_lt] at h2
    omega
  · exact h1
theorem nI_rng {n j : Nat} (hn : n < 2 ^ 31) (h : j < n) : 0 ≤ nI j ∧ nI j < nI n := ⟨nI_pos' (by omega), nI_lt h hn⟩
theorem ite_dec {α : Type} {P : Prop} [Decidable P] (x y : α) : (if decide P = true then x else y) = if P then x else y := by
  by_cases h : P <;> simp [h]
theorem ag_fault {w : HW} (H : Rel w) (x : Int32) : Agree w (pu (fX9_fault · x)) (pu (fX10_fault · x)) := by
  obtain ⟨f1, f2⟩ := H.1.2.1
  refine agree_ro H (r := if x = 0 then gI w 3 0 else if x = 1 then gI w 3 1 else -1) ?_ ?_
  · unfold fX9_fault; split <;> (try split) <;> rfl
  · unfold fX10_fault; rw [f1, f2]; split <;> (try split) <;> rfl
theorem le2 {x : Int32} (h : 0 ≤ x ∧ x < nI 3) : x = 0 ∨ x = 1 ∨ x = 2 := by
  obtain ⟨j, h1, rfl⟩ := rng_of (by omega) h
  rcases (show j = 0 ∨ j = 1 ∨ j = 2 by omega) with rfl | rfl | rfl
  · exact Or.inl rfl
  · exact Or.inr (Or.inl rfl)
  · exact Or.inr (Or.inr rfl)
theorem nle2 {x : Int32} (h : ¬ (0 ≤ x ∧ x < nI 3)) : ¬ x = 0 ∧ ¬ x = 1 ∧ ¬ x = 2 :=
  ⟨fun e => h (by rw [e]; decide), fun e => h (by rw [e]; decide), fun e => h (by rw [e]; decide)⟩
theorem ag_augur {w : HW} (H : Rel w) (x y : Int32) : Agree w (pu (fX9_augur · x y)) (pu (fX10_augur · x y)) := by
  obtain ⟨HO, K, W, HR, kn, ks, HN, HC⟩ := id H
  have hb := W.b
  have e1 : fX9_augur w x y = if 0 ≤ x ∧ x < nI (K 4) then (if y = 0 then (if inB x 8 = true then some (gI w (kn + 1) (ix x)) else none) else if y = 1 then (if inB x 8 = true then some (gI w (kn + 2) (ix x)) else none) else if y = 2 then (if inB x 8 = true then some (gI w (kn + 3) (ix x)) else none) else some (-2)) else some (-2) := by
    unfold fX9_augur
    simp only [now_ok HN, X0_hasAugur_ok HC W, bI_some, if_b01', ite_dec]
  have e2 : fX10_augur w x y = if 0 ≤ x ∧ x < nI (K 4) then (if 0 ≤ y ∧ y < nI 3 then bI (fX10_ofAugur w x y) fun r => some r else some (-2)) else some (-2) := by
    unfold fX10_augur
    rw [X10_isAugur_ok HR W, bI_some, if_b01, in_lit w y 2 2 2 rfl rfl (by omega), bI_some, if_b01, ite_dec, ite_dec]
  by_cases h : 0 ≤ x ∧ x < nI (K 4)
  · obtain ⟨a, ha, rfl⟩ := rng_of (by omega) h
    rw [if_pos h] at e1 e2
    rw [if_pos (inB_nI (by omega) (by omega)), if_pos (inB_nI (by omega) (by omega)), if_pos (inB_nI (by omega) (by omega)), ix_nI (by omega), (HC.aug ha).1, (HC.aug ha).2.1, (HC.aug ha).2.2] at e1
    by_cases h2 : 0 ≤ y ∧ y < nI 3
    · rw [if_pos h2] at e2
      rcases le2 h2 with rfl | rfl | rfl
      · rw [X10_ofAugur_0 HR W ha] at e2
        exact agree_ro H (by rw [e1]; rfl) e2
      · rw [X10_ofAugur_1 HR W ha] at e2
        exact agree_ro H (by rw [e1]; rfl) e2
      · rw [X10_ofAugur_2 HR W ha] at e2
        exact agree_ro H (by rw [e1]; rfl) e2
    · obtain ⟨n0, n1, n2⟩ := nle2 h2
      rw [if_neg h2] at e2
      rw [if_neg n0, if_neg n1, if_neg n2] at e1
      exact agree_ro H e1 e2
  · rw [if_neg h] at e1 e2
    exact agree_ro H e1 e2
theorem ag_bill {w : HW} (H : Rel w) (x y : Int32) : Agree w (pu (fX9_bill · x y)) (pu (fX10_bill · x y)) := by
  obtain ⟨HO, K, W, HR, kn, ks, HN, HC⟩ := id H
  have hb := W.b
  have e1 : fX9_bill w x y = if 0 ≤ x ∧ x < nI (K 5) then (if y = 0 then (if inB x 8 = true then some (gI w (kn + 4) (ix x)) else none) else if y = 1 then (if inB x 8 = true then some (gI w (kn + 5) (ix x)) else none) else if y = 2 then (if inB x 8 = true then some (gI w (kn + 6) (ix x)) else none) else some (-2)) else some (-2) := by
    unfold fX9_bill
    simp only [now_ok HN, X0_hasBill_ok HC W, bI_some, if_b01', ite_dec]
  have e2 : fX10_bill w x y = if 0 ≤ x ∧ x < nI (K 5) then (if 0 ≤ y ∧ y < nI 3 then bI (fX10_of w x y) fun r => some r else some (-2)) else some (-2) := by
    unfold fX10_bill
    rw [X10_isBill_ok HR W, bI_some, if_b01, in_lit w y 2 2 2 rfl rfl (by omega), bI_some, if_b01, ite_dec, ite_dec]
  by_cases h : 0 ≤ x ∧ x < nI (K 5)
  · obtain ⟨a, ha, rfl⟩ := rng_of (by omega) h
    rw [if_pos h] at e1 e2
    rw [if_pos (inB_nI (by omega) (by omega)), if_pos (inB_nI (by omega) (by omega)), if_pos (inB_nI (by omega) (by omega)), ix_nI (by omega), (HC.bil ha).1, (HC.bil ha).2.1, (HC.bil ha).2.2] at e1
    by_cases h2 : 0 ≤ y ∧ y < nI 3
    · rw [if_pos h2] at e2
      rcases le2 h2 with rfl | rfl | rfl
      · rw [X10_of_0 HR W ha] at e2
        exact agree_ro H (by rw [e1]; rfl) e2
      · rw [X10_of_1 HR W ha] at e2
        exact agree_ro H (by rw [e1]; rfl) e2
      · rw [X10_of_2 HR W ha] at e2
        exact agree_ro H (by rw [e1]; rfl) e2
    · obtain ⟨n0, n1, n2⟩ := nle2 h2
      rw [if_neg h2] at e2
      rw [if_neg n0, if_neg n1, if_neg n2] at e1
      exact agree_ro H e1 e2
  · rw [if_neg h] at e1 e2
    exact agree_ro H e1 e2
theorem ag_marks {w : HW} (H : Rel w) : Agree w (pu fX9_marks) (pu fX10_marks) := by
  obtain ⟨HO, K, W, HR, kn, ks, HN, HC⟩ := id H
  refine agree_ro H (r := if 0 < K 7 then nI (K 8) else -2) ?_ ?_
  · unfold fX9_marks
    simp only [now_ok HN, X0_isTold_ok HC W, bI_some, if_b01, ite_dec, HC.c5]
    split <;> rfl
  · unfold fX10_marks
    rw [X10_isCamp_ok HR W, bI_some, if_b01, ite_dec, if_pos (show inB 8 77 = true from rfl), ix_8, HR.r8]
    split <;> rfl
theorem and_dec {α : Type} {P Q : Prop} [Decidable P] [Decidable Q] (x y : α) : (if (decide P && decide Q) = true then x else y) = if P ∧ Q then x else y := by
  by_cases h : P <;> by_cases h2 : Q <;> simp [h, h2]
theorem ag_sky {w : HW} (H : Rel w) (x : Int32) : Agree w (pu (fX9_sky · x)) (pu (fX10_sky · x)) := by
  obtain ⟨HO, K, W, HR, kn, ks, HN, HC⟩ := id H
  have e1 : fX9_sky w x = if 0 < K 7 ∧ (x = 0 ∨ x = 1) then (bI (fX0_augursOf w kn x) fun r => bI (fX0_skyOf w kn r) fun z => some z) else some (-2) := by
    unfold fX9_sky
    simp only [now_ok HN, X0_hasSide_ok HC W, bI_some, if_b01, and_dec]
  have e2 : fX10_sky w x = if 0 < K 7 ∧ (x = 0 ∨ x = 1) then (bI (fX10_skyOf w x) fun r => some r) else some (-2) := by
    unfold fX10_sky
    simp only [X10_isSide_ok HR W, bI_some, if_b01, and_dec]
  by_cases h : 0 < K 7 ∧ (x = 0 ∨ x = 1)
  · obtain ⟨s, hs, rfl⟩ := side_of h.2
    rw [if_pos h, X0_augursOf_ok HC W (by omega), bI_some, X0_sky_ok HC W, bI_some] at e1
    rw [if_pos h, X10_skyOf_ok HR W (by omega), bI_some] at e2
    exact agree_ro H e1 e2
  · rw [if_neg h] at e1 e2
    exact agree_ro H e1 e2
theorem b01_nI (b : Bool) : b01 b = nI b.toNat := by cases b <;> rfl
theorem iSl_b01 {b : Bool} {i : Nat} (hi : i < 31) : iSl (b01 b) (nI i) = nI (if b = true then 2 ^ i else 0) := by
  cases b with
  | false => rw [b01_nI, iSl_nI (by omega)]; simp
  | true => rw [b01_nI, iSl_nI (by omega)]; simp [Nat.one_shiftLeft]
theorem bS_or (p : Nat → Bool) (i : Nat) : bS p i ||| (if p i = true then 2 ^ i else 0) = bS p (i + 1) := by
  rw [bS]
  by_cases h : p i = true <;> simp [h]
section RW1
variable {w : HW} {K : Nat → Nat}
theorem X10_watch_L (H : RC w K) (W : WF K) {d : Nat} (hd : d < 31) : ∀ F i, i ≤ K 4 → K 4 - i < F → fX10_watch_16 w (nI d) F (nI (bS (fun a => (dys (K (10 + 3 * a)) (K (11 + 3 * a))).testBit d) i)) (nI i) = some (nI (bS (fun a => (dys (K (10 + 3 * a)) (K (11 + 3 * a))).testBit d) (K 4))) := by
  have hb := W.b
  intro F
  induction F with
  | zero => intro i h1 h2; omega
  | succ F ih =>
    intro i h1 h2
    rw [fX10_watch_16, if_pos (show inB 4 77 = true from rfl), ix_4, H.r4]
    by_cases hi : i < K 4
    · have ha := W.aug hi
      rw [if_pos (nI_lt hi (by omega)), X10_daysOf_ok H W hi, bI_some, bit_ok w (dys_lt (by omega)) (by omega), bI_some, iSl_b01 (by omega), nI_or, lT_eq, nI_1, bS_or (fun a => (dys (K (10 + 3 * a)) (K (11 + 3 * a))).testBit d) i]
      exact ih (i + 1) (by omega) (by omega)
    · have e : i = K 4 := by omega
      rw [if_neg (nI_nlt (by omega) (by omega)), e]
theorem X10_heirs_L (H : RC w K) (W : WF K) {b : Nat} (hb8 : b < 31) : ∀ F i, i ≤ K 5 → K 5 - i < F → fX10_heirs_15 w (nI b) F (nI (bS (fun o => (ned K o).testBit b) i)) (nI i) = some (nI (hei K b)) := by
  have hb := W.b
  intro F
  induction F with
  | zero => intro i h1 h2; omega
  | succ F ih =>
    intro i h1 h2
    rw [fX10_heirs_15, if_pos (show inB 5 77 = true from rfl), ix_5, H.r5]
    by_cases hi : i < K 5
    · have hl := ned_lt W hi
      have hl2 := pow31 (n := i) (by omega)
      rw [if_pos (nI_lt hi (by omega)), X10_needsOf_ok H W hi, bI_some, bit_ok w (by omega) (by omega), bI_some, iSl_b01 (by omega), nI_or, lT_eq, nI_1, bS_or (fun o => (ned K o).testBit b) i]
      exact ih (i + 1) (by omega) (by omega)
    · have e : i = K 5 := by omega
      rw [if_neg (nI_nlt (by omega) (by omega)), e]; rfl
theorem X10_freeDays_ok (H : RC w K) (W : WF K) (C : RelC w) {s : Nat} (hs : s ≤ 1) : fX10_freeDays w (nI s) = some (nI (clr K s)) := by
  have hb := W.b
  unfold fX10_freeDays
  rw [X10_allAugurs_ok H W, bI_some, one_sub hs, C.2.1, C.2.2.1, C.2.2.2.1, show (0 : Int32) = nI 0 from rfl, nI_nd, X10_skyBy_ok H W (by omega) (Nat.lt_of_le_of_lt (show nd (2 ^ K 4 - 1) 0 ≤ 2 ^ K 4 - 1 by simp [nd]) (p2lt (by omega))), bI_some, nI_or, lT_eq, if_pos (show inB (nI 0) 77 = true from rfl), if_pos (show inB 8 77 = true from rfl), ix_8, show ix (nI 0) = 0 from rfl, H.r0, H.r8, iSl_1 (by omega), show nI (2 ^ K 0) - 1 = nI (2 ^ K 0 - 1) from nI_subI Nat.one_le_two_pow, nI_nd, nI_nd, nI_nd]
  congr 2
  have e : skF K (fun a => K (9 + 3 * a) == 1 - s && (nd (2 ^ K 4 - 1) 0).testBit a) (K 4) = sky K (1 - s) := by
    refine skF_congr _ (fun i hi => ?_)
    rw [nd_bit, Nat.testBit_two_pow_sub_one]
    simp [hi]
  rw [e]
  apply Nat.eq_of_testBit_eq
  intro i
  unfold clr
  rw [nd_bit, nd_bit, nd_bit, nd_bit, nd_bit, Nat.or_zero]
  cases (2 ^ K 0 - 1).testBit i <;> cases (sky K (1 - s)).testBit i <;> cases (K 8).testBit i <;> simp
end RW1
theorem clr_lt {K : Nat → Nat} (s : Nat) : clr K s < 2 ^ K 0 := by
  unfold clr
  refine nd_lt (nd_lt ?_)
  have := Nat.two_pow_pos (K 0)
  omega
theorem ag_watch {w : HW} (H : Rel w) (x : Int32) : Agree w (pu (fX9_watch · x)) (pu (fX10_watch · x)) := by
  obtain ⟨HO, K, W, HR, kn, ks, HN, HC⟩ := id H
  have hb := W.b
  have e1 : fX9_watch w x = if 0 ≤ x ∧ x < nI (K 0) then (bI (fX0_augursOn w kn x) fun r => some r) else some (-2) := by
    unfold fX9_watch
    simp only [now_ok HN, X0_hasDay_ok HC W, bI_some, if_b01, ite_dec]
  have e2 : fX10_watch w x = if 0 ≤ x ∧ x < nI (K 0) then fX10_watch_16 w x FU 0 0 else some (-2) := by
    unfold fX10_watch
    simp only [X10_isDay_ok HR W, bI_some, if_b01', ite_dec]
  by_cases h : 0 ≤ x ∧ x < nI (K 0)
  · obtain ⟨d, hd, rfl⟩ := rng_of (by omega) h
    rw [if_pos h, X0_augursOn_ok HC W (by omega), bI_some] at e1
    rw [if_pos h, show (0 : Int32) = nI 0 from rfl] at e2
    have e3 := X10_watch_L HR W (d := d) (by omega) FU 0 (by omega) (by rw [FU_eq]; omega)
    exact agree_ro H e1 (e2.trans e3)
  · rw [if_neg h] at e1 e2
    exact agree_ro H e1 e2
theorem ag_needs {w : HW} (H : Rel w) (x : Int32) : Agree w (pu (fX9_needs · x)) (pu (fX10_needs_ · x)) := by
  obtain ⟨HO, K, W, HR, kn, ks, HN, HC⟩ := id H
  have hb := W.b
  have e1 : fX9_needs w x = if 0 ≤ x ∧ x < nI (K 5) then (bI (fX0_needsOf w kn x) fun r => some r) else some (-2) := by
    unfold fX9_needs
    simp only [now_ok HN, X0_hasBill_ok HC W, bI_some, if_b01, ite_dec]
  have e2 : fX10_needs_ w x = if 0 ≤ x ∧ x < nI (K 5) then (bI (fX10_needsOf w x) fun r => some r) else some (-2) := by
    unfold fX10_needs_
    simp only [X10_isBill_ok HR W, bI_some, if_b01, ite_dec]
  by_cases h : 0 ≤ x ∧ x < nI (K 5)
  · obtain ⟨d, hd, rfl⟩ := rng_of (by omega) h
    rw [if_pos h, X0_needsOf_ok HC W hd, bI_some] at e1
    rw [if_pos h, X10_needsOf_ok HR W hd, bI_some] at e2
    exact agree_ro H e1 e2
  · rw [if_neg h] at e1 e2
    exact agree_ro H e1 e2
theorem ag_heirs {w : HW} (H : Rel w) (x : Int32) : Agree w (pu (fX9_heirs · x)) (pu (fX10_heirs · x)) := by
  obtain ⟨HO, K, W, HR, kn, ks, HN, HC⟩ := id H
  have hb := W.b
  have e1 : fX9_heirs w x = if 0 ≤ x ∧ x < nI (K 5) then (bI (fX0_heirsOf w kn x) fun r => some r) else some (-2) := by
    unfold fX9_heirs
    simp only [now_ok HN, X0_hasBill_ok HC W, bI_some, if_b01, ite_dec]
  have e2 : fX10_heirs w x = if 0 ≤ x ∧ x < nI (K 5) then fX10_heirs_15 w x FU 0 0 else some (-2) := by
    unfold fX10_heirs
    simp only [X10_isBill_ok HR W, bI_some, if_b01', ite_dec]
  by_cases h : 0 ≤ x ∧ x < nI (K 5)
  · obtain ⟨d, hd, rfl⟩ := rng_of (by omega) h
    rw [if_pos h, X0_heirsOf_ok HC W hd, bI_some] at e1
    rw [if_pos h] at e2
    exact agree_ro H e1 (e2.trans (X10_heirs_L HR W (by omega) FU 0 (by omega) (by rw [FU_eq]; omega)))
  · rw [if_neg h] at e1 e2
    exact agree_ro H e1 e2
theorem ag_clear {w : HW} (H : Rel w) (x : Int32) : Agree w (pu (fX9_clear · x)) (pu (fX10_clear · x)) := by
  obtain ⟨HO, K, W, HR, kn, ks, HN, HC⟩ := id H
  have e1 : fX9_clear w x = if 0 < K 7 ∧ (x = 0 ∨ x = 1) then (bI (fX0_clearDays w kn x) fun r => some r) else some (-2) := by
    unfold fX9_clear
    simp only [now_ok HN, X0_hasSide_ok HC W, bI_some, if_b01, and_dec]
  have e2 : fX10_clear w x = if 0 < K 7 ∧ (x = 0 ∨ x = 1) then (bI (fX10_freeDays w x) fun r => some r) else some (-2) := by
    unfold fX10_clear
    simp only [X10_isSide_ok HR W, bI_some, if_b01, and_dec]
  by_cases h : 0 < K 7 ∧ (x = 0 ∨ x = 1)
  · obtain ⟨s, hs, rfl⟩ := side_of h.2
    rw [if_pos h, X0_clearDays_ok HC W hs, bI_some] at e1
    rw [if_pos h, X10_freeDays_ok HR W HO.2.2.1 hs, bI_some] at e2
    exact agree_ro H e1 e2
  · rw [if_neg h] at e1 e2
    exact agree_ro H e1 e2
theorem ag_both {w : HW} (H : Rel w) : Agree w (pu fX9_both) (pu fX10_both) := by
  obtain ⟨HO, K, W, HR, kn, ks, HN, HC⟩ := id H
  refine agree_ro H (r := if 0 < K 7 then nI (sky K 0 &&& sky K 1) else -2) ?_ ?_
  · unfold fX9_both
    simp only [now_ok HN, X0_isTold_ok HC W, bI_some, if_b01, ite_dec]
    rw [show fX0_augursOf w kn 0 = some (nI (sA K 0)) from X0_augursOf_ok (s := 0) HC W (by omega), bI_some, show fX0_augursOf w kn 1 = some (nI (sA K 1)) from X0_augursOf_ok (s := 1) HC W (by omega), X0_sky_ok HC W, bI_some, bI_some, X0_sky_ok HC W, bI_some, nI_and]
    split <;> rfl
  · unfold fX10_both
    rw [X10_isCamp_ok HR W, bI_some, if_b01, ite_dec, show fX10_skyOf w 0 = some (nI (sky K 0)) from X10_skyOf_ok (s := 0) HR W (by omega), bI_some, show fX10_skyOf w 1 = some (nI (sky K 1)) from X10_skyOf_ok (s := 1) HR W (by omega), bI_some, nI_and]
    split <;> rfl
/-- the longest run of set bits among the first n, and the run that stands at its end -/
def rnF (s : Nat) : Nat → Nat × Nat
  | 0 => (0, 0)
  | n + 1 => if s.testBit n = true then (max (rnF s n).1 ((rnF s n).2 + 1), (rnF s n).2 + 1) else (max (rnF s n).1 0, 0)
theorem rnF_le (s : Nat) : ∀ n, (rnF s n).1 ≤ n ∧ (rnF s n).2 ≤ n := by
  intro n
  induction n with
  | zero => exact ⟨Nat.le_refl _, Nat.le_refl _⟩
  | succ n ih =>
    unfold rnF
    split <;> (dsimp only; omega)
theorem rnF_more {s n : Nat} (h : s < 2 ^ n) : ∀ m, n ≤ m → (rnF s m).1 = (rnF s n).1 := by
  intro m
  induction m with
  | zero => intro h1; rw [show n = 0 by omega]
  | succ m ih =>
    intro h1
    by_cases e : n = m + 1
    · rw [e]
    · have hb : s.testBit m = false := Nat.testBit_lt_two_pow (Nat.lt_of_lt_of_le h (Nat.pow_le_pow_right (by omega) (by omega)))
      have e1 : (rnF s (m + 1)).1 = (rnF s m).1 := by
        rw [rnF]
        simp only [hb, Bool.false_eq_true, if_false]
        exact Nat.max_zero _
      rw [e1]
      exact ih (by omega)
theorem X9_longestRun_L (w : HW) {s : Nat} (hs : s < 2 ^ 31) : ∀ F i, i ≤ 14 → 14 - i < F → fX9_longestRun_6 w (nI s) F (nI (rnF s i).1) (nI (rnF s i).2) (nI i) = some (nI (rnF s 14).1) := by
  intro F
  induction F with
  | zero => intro i h1 h2; omega
  | succ F ih =>
    intro i h1 h2
    have hr := rnF_le s i
    rw [fX9_longestRun_6]
    by_cases hi : i < 14
    · have e := ih (i + 1) (by omega) (by omega)
      rw [rnF] at e
      rw [if_pos (show nI i < (14 : Int32) from nI_lt (b := 14) hi (by omega)), holds_ok w hs (by omega), bI_some, if_b01]
      simp only [lT_eq, nI_1]
      rw [iMx_nI (by omega) (by omega), show iMx (nI (rnF s i).1) 0 = nI (max (rnF s i).1 0) from iMx_nI (b := 0) (by omega) (by omega)]
      cases hq : s.testBit i
      · simpa [hq, nI_0] using e
      · simpa [hq, nI_0] using e
    · have e : i = 14 := by omega
      rw [e, if_neg (by decide)]
theorem X9_longestRun_ok (w : HW) {s : Nat} (hs : s < 2 ^ 31) : fX9_longestRun w (nI s) = some (nI (rnF s 14).1) :=
  X9_longestRun_L w hs FU 0 (by omega) (by rw [FU_eq]; omega)
theorem X10_runOf_L {w : HW} {K : Nat → Nat} (H : RC w K) (W : WF K) {s : Nat} (hs : s < 2 ^ 31) : ∀ F i, i ≤ K 0 → K 0 - i < F → fX10_runOf_7 w (nI s) F (nI (rnF s i).1) (nI (rnF s i).2) (nI i) = some (nI (rnF s (K 0)).1) := by
  have hb := W.b
  intro F
  induction F with
  | zero => intro i h1 h2; omega
  | succ F ih =>
    intro i h1 h2
    have hr := rnF_le s i
    rw [fX10_runOf_7, if_pos (show inB 0 77 = true from rfl), ix_0, H.r0]
    by_cases hi : i < K 0
    · have e := ih (i + 1) (by omega) (by omega)
      rw [rnF] at e
      rw [if_pos (nI_lt hi (by omega)), bit_ok w hs (by omega), bI_some, if_b011]
      simp only [lT_eq, nI_1]
      rw [iMx_nI (by omega) (by omega), show iMx (nI (rnF s i).1) 0 = nI (max (rnF s i).1 0) from iMx_nI (b := 0) (by omega) (by omega)]
      cases hq : s.testBit i
      · simpa [hq, nI_0] using e
      · simpa [hq, nI_0] using e
    · have e : i = K 0 := by omega
      rw [if_neg (nI_nlt (by omega) (by omega)), e]
theorem X10_runOf_ok {w : HW} {K : Nat → Nat} (H : RC w K) (W : WF K) {s : Nat} (hs : s < 2 ^ K 0) : fX10_runOf w (nI s) = some (nI (rnF s 14).1) := by
  have hb := W.b
  rw [rnF_more hs 14 (by omega)]
  exact X10_runOf_L H W (lt31 W hs) FU 0 (by omega) (by rw [FU_eq]; omega)
theorem ag_run {w : HW} (H : Rel w) (x : Int32) : Agree w (pu (fX9_run · x)) (pu (fX10_run · x)) := by
  obtain ⟨HO, K, W, HR, kn, ks, HN, HC⟩ := id H
  have e1 : fX9_run w x = if 0 < K 7 ∧ (x = 0 ∨ x = 1) then (bI (fX0_clearDays w kn x) fun r => bI (fX9_longestRun w r) fun z => some z) else some (-2) := by
    unfold fX9_run
    simp only [now_ok HN, X0_hasSide_ok HC W, bI_some, if_b01, and_dec]
  have e2 : fX10_run w x = if 0 < K 7 ∧ (x = 0 ∨ x = 1) then (bI (fX10_freeDays w x) fun r => bI (fX10_runOf w r) fun z => some z) else some (-2) := by
    unfold fX10_run
    simp only [X10_isSide_ok HR W, bI_some, if_b01, and_dec]
  by_cases h : 0 < K 7 ∧ (x = 0 ∨ x = 1)
  · obtain ⟨s, hs, rfl⟩ := side_of h.2
    rw [if_pos h, X0_clearDays_ok HC W hs, bI_some, X9_longestRun_ok w (lt31 W (clr_lt s)), bI_some] at e1
    rw [if_pos h, X10_freeDays_ok HR W HO.2.2.1 hs, bI_some, X10_runOf_ok HR W (clr_lt s), bI_some] at e2
    exact agree_ro H e1 e2
  · rw [if_neg h] at e1 e2
    exact agree_ro H e1 e2
