/-! READING: the reference's reader -/
def p8 (c f : Nat) : Bool := c == 79 && (Nat.ble 8 f && Nat.ble f 13)
theorem p98 (c f : Nat) (h : p8 c f = false) : p9 c f = false := by
  unfold p8 at h
  unfold p9
  cases q : (c == 79)
  · rfl
  · rw [q, Bool.true_and] at h
    rw [Bool.true_and]
    cases q1 : Nat.ble 8 f
    · rfl
    · rw [q1, Bool.true_and] at h
      rw [Bool.true_and]
      cases q2 : Nat.ble f 11
      · rfl
      · have h1 := Nat.le_of_ble_eq_true q2
        rw [Nat.ble_eq_true_of_le (show f ≤ 13 by omega)] at h
        cases h
def ME (B : Nat → Int32) (t : Nat) (w : HW) : Prop := gI w 79 7 = nI t ∧ (∀ i, i < 800 → gI w 83 i = B i) ∧ (∀ i, i < 800 → isBy (B i))
def MR (B : Nat → Int32) (t : Nat) (w : HW) (z : ZZ) : Prop := ME B t w ∧ ZI B t z ∧ gI w 79 12 = nI z.f ∧ gI w 79 13 = aI z.p ∧ gI w 79 10 = nI z.c ∧ gI w 79 9 = nI z.s ∧ gI w 79 8 = nI z.e ∧ (z.c = 2 → gI w 79 11 = nI z.v)
theorem sgK_1i {x : Int32} : (97 ≤ x ∧ x ≤ 122) ↔ sgK x = 1 := by
  constructor
  · rintro ⟨a, b⟩
    have h0 : x ≠ -1 := fun e => by subst e; exact absurd a (by decide)
    have h1 : x ≠ 32 := fun e => by subst e; exact absurd a (by decide)
    have h2 : x ≠ 10 := fun e => by subst e; exact absurd a (by decide)
    unfold sgK
    rw [if_neg h0, if_neg (fun z => z.elim h1 h2), if_pos ⟨Int32.not_lt.mpr a, Int32.not_lt.mpr b⟩]
  · intro h
    unfold sgK at h
    by_cases h0 : x = -1
    · rw [if_pos h0] at h; omega
    rw [if_neg h0] at h
    by_cases h1 : x = 32 ∨ x = 10
    · rw [if_pos h1] at h; omega
    rw [if_neg h1] at h
    by_cases h2 : ¬ x < 97 ∧ ¬ 122 < x
    · exact ⟨Int32.not_lt.mp h2.1, Int32.not_lt.mp h2.2⟩
    · rw [if_neg h2] at h
      repeat' split at h
      all_goals omega
theorem sgK_2i {x : Int32} : (48 ≤ x ∧ x ≤ 57) ↔ sgK x = 2 := by
  constructor
  · rintro ⟨a, b⟩
    have h0 : x ≠ -1 := fun e => by subst e; exact absurd a (by decide)
    have h1 : x ≠ 32 := fun e => by subst e; exact absurd a (by decide)
    have h2 : x ≠ 10 := fun e => by subst e; exact absurd a (by decide)
    have h3 : x < 97 := by
      have e1 : (57 : Int32).toInt = 57 := rfl
      have e2 : (97 : Int32).toInt = 97 := rfl
      rw [fa_le, e1] at b
      rw [fa_lt, e2]
      omega
    unfold sgK
    rw [if_neg h0, if_neg (fun z => z.elim h1 h2), if_neg (fun z => z.1 h3), if_pos ⟨Int32.not_lt.mpr a, Int32.not_lt.mpr b⟩]
  · intro h
    unfold sgK at h
    by_cases h0 : x = -1
    · rw [if_pos h0] at h; omega
    rw [if_neg h0] at h
    by_cases h1 : x = 32 ∨ x = 10
    · rw [if_pos h1] at h; omega
    rw [if_neg h1] at h
    by_cases h2 : ¬ x < 97 ∧ ¬ 122 < x
    · rw [if_pos h2] at h; omega
    rw [if_neg h2] at h
    by_cases h3 : ¬ x < 48 ∧ ¬ 57 < x
    · exact ⟨Int32.not_lt.mp h3.1, Int32.not_lt.mp h3.2⟩
    · rw [if_neg h3] at h
      split at h <;> omega
theorem sgK_5i {x : Int32} : (x = 32 ∨ x = 10) ↔ sgK x = 5 := by
  constructor
  · rintro (rfl | rfl) <;> rfl
  · intro h
    unfold sgK at h
    by_cases h0 : x = -1
    · rw [if_pos h0] at h; omega
    rw [if_neg h0] at h
    by_cases h1 : x = 32 ∨ x = 10
    · exact h1
    rw [if_neg h1] at h
    repeat' split at h
    all_goals omega
theorem sgK_3i {x : Int32} (h0 : sgK x ≠ 0) (h5 : sgK x ≠ 5) (h1 : sgK x ≠ 1) (h2 : sgK x ≠ 2) : sgK x = if x = 59 then 3 else 4 := by
  have k0 : x ≠ -1 := fun e => h0 (sgK_0.mpr e)
  have k5 := mt sgK_5i.mp h5
  have k1 : ¬ (¬ x < 97 ∧ ¬ 122 < x) := fun e => h1 (sgK_1i.mp ⟨Int32.not_lt.mp e.1, Int32.not_lt.mp e.2⟩)
  have k2 : ¬ (¬ x < 48 ∧ ¬ 57 < x) := fun e => h2 (sgK_2i.mp ⟨Int32.not_lt.mp e.1, Int32.not_lt.mp e.2⟩)
  unfold sgK
  rw [if_neg k0, if_neg k5, if_neg k1, if_neg k2]
theorem in_az (w : HW) (x : Int32) : fX10_in w x.toInt64 97 122 = some (b01 (decide (sgK x = 1))) := by
  have e : fX10_in w x.toInt64 97 122 = some (if 97 ≤ x ∧ x ≤ 122 then 1 else 0) := in_ok w x 97 122
  rw [e]
  by_cases c : sgK x = 1
  · rw [if_pos (sgK_1i.mpr c), decide_eq_true c]; rfl
  · rw [if_neg (mt sgK_1i.mp c), decide_eq_false c]; rfl
theorem in_09 (w : HW) (x : Int32) : fX10_in w x.toInt64 48 57 = some (b01 (decide (sgK x = 2))) := by
  have e : fX10_in w x.toInt64 48 57 = some (if 48 ≤ x ∧ x ≤ 57 then 1 else 0) := in_ok w x 48 57
  rw [e]
  by_cases c : sgK x = 2
  · rw [if_pos (sgK_2i.mpr c), decide_eq_true c]; rfl
  · rw [if_neg (mt sgK_2i.mp c), decide_eq_false c]; rfl
theorem neg_tab : ∀ j : Nat, j < 128 → sgK (Int32.ofInt (-((j : Int) + 1)) &&& 255) ≠ 1 := by decide +kernel
/-- a letter is no negative byte -/
theorem raw_eq {x : Int32} (h : isBy x) (h1 : sgK (x &&& 255) = 1) : x &&& 255 = x := by
  have e : x.toInt = x.toInt8.toInt := by
    have := congrArg Int32.toInt h
    rw [Int8.toInt_toInt32] at this
    exact this.symm
  have b1 := Int8.le_toInt x.toInt8
  have b2 := Int8.toInt_lt x.toInt8
  rw [← e] at b1 b2
  by_cases c : 0 ≤ x.toInt
  · obtain ⟨j, hj, rfl⟩ := rng_of (x := x) (n := 128) (by omega) ⟨by rw [fa_le]; exact c, by rw [fa_lt, nI_toInt (by omega)]; exact b2⟩
    rw [show (255 : Int32) = nI (2 ^ 8 - 1) from rfl, nI_and, Nat.and_two_pow_sub_one_eq_mod]
    exact congrArg nI (Nat.mod_eq_of_lt (by omega))
  · exfalso
    obtain ⟨j, hj, ej⟩ : ∃ j : Nat, j < 128 ∧ x.toInt = -((j : Int) + 1) := ⟨(-x.toInt - 1).toNat, by omega, by omega⟩
    have ex : x = Int32.ofInt (-((j : Int) + 1)) := by rw [← ej, Int32.ofInt_toInt]
    rw [ex] at h1
    exact neg_tab j hj h1
section MRS
variable {B : Nat → Int32} {t : Nat} {w : HW} {z : ZZ}
theorem ME.of (E : ME B t w) {w' : HW} (h : Sx p8 w w') : ME B t w' :=
  ⟨(h 79 7 rfl).1.trans E.1, fun i hi => (h 83 i rfl).1.trans (E.2.1 i hi), E.2.2⟩
theorem see_ok (E : ME B t w) (ht : t ≤ 800) {i : Nat} (hi : i ≤ 1000) : fX10_see w (nI i) = some (chB B t i) := by
  unfold fX10_see chB
  rw [E.1]
  by_cases h : i < t
  · rw [if_pos (nI_lt h (by omega)), if_pos (inB_nI (by omega) (by omega)), ix_nI (by omega), E.2.1 i (by omega), if_pos h]
  · rw [if_neg (nI_nlt (by omega) (by omega)), if_neg h]
theorem adv83_L (ht : t ≤ 800) : ∀ F i (w : HW), ME B t w → gI w 79 8 = nI i → i ≤ t → t - i < F → ∃ w', fX10_advance_83 F w = some w' ∧ gI w' 79 8 = nI (enB (chB B t) 1 (t - i) i) ∧ gI w' 79 10 = 1 ∧ gI w' 79 9 = gI w 79 9 := by
  intro F
  induction F with
  | zero => intro i w _ _ _ h; omega
  | succ F ih =>
    intro i w E h8 hi hF
    rw [fX10_advance_83, h8, see_ok E ht (by omega), bI_some, in_az, bI_some, if_b01, ite_dec, enB_s ch_t (by omega) hi]
    by_cases c : sgK (chB B t i) = 1
    · have hlt : i < t := by
        have := mt (ch_0 (B := B) (t := t) (k := i)).mpr (by omega)
        omega
      have s1 : Sx p9 w (uI w 79 8 (nI i + 1)) := (Sx.rf).uI rfl
      obtain ⟨w', q1, q2, q3, q4⟩ := ih (i + 1) _ (E.of (s1.mono p98)) (by rw [gI_uI_at, nI_1]) (by omega) (by omega)
      rw [if_pos c, if_pos c, lT_eq]
      exact ⟨w', q1, q2, q3, q4.trans (gI_uI_nf (by omega))⟩
    · rw [if_neg c, if_neg c, lT_eq]
      exact ⟨_, rfl, (gI_uI_nf (by omega)).trans h8, gI_uI_at, gI_uI_nf (by omega)⟩
theorem adv144_L (ht : t ≤ 800) : ∀ F i v (w : HW), ME B t w → gI w 79 8 = nI i → gI w 79 11 = nI v → v ≤ 99999 → i ≤ t → t - i < F → ∃ w', fX10_advance_144 F w = some w' ∧ gI w' 79 8 = nI (enB (chB B t) 2 (t - i) i) ∧ gI w' 79 11 = nI (vlB (chB B t) (t - i) i v) ∧ gI w' 79 10 = 2 ∧ gI w' 79 9 = gI w 79 9 := by
  intro F
  induction F with
  | zero => intro i v w _ _ _ _ _ h; omega
  | succ F ih =>
    intro i v w E h8 h11 hv hi hF
    rw [fX10_advance_144, h8, see_ok E ht (by omega), bI_some, in_09, bI_some, if_b01, ite_dec, enB_s ch_t (by omega) hi, vlB_s ch_t hi]
    by_cases c : sgK (chB B t i) = 2
    · have hlt : i < t := by
        have := mt (ch_0 (B := B) (t := t) (k := i)).mpr (by omega)
        omega
      obtain ⟨d, hd, ed⟩ := sgK_2 c
      have ev : ix (chB B t i) - 48 = d := by rw [ed, ix_nI (by omega)]; omega
      rw [if_pos c, if_pos c, if_pos c, ev, bI_some, h11, ed, show ((10 : Int32) * nI v + nI (48 + d)) - 48 = nI (10 * v + d) from by
        rw [show (10 : Int32) = nI 10 from rfl, show (48 : Int32) = nI 48 from rfl, pk_mul, nI_add, nI_subI (by omega)]
        exact congrArg nI (by omega), show iMn 99999 (nI (10 * v + d)) = nI (min 99999 (10 * v + d)) from iMn_nI (a := 99999) (by omega) (by omega), lT_eq, gI_uI_nf (show 8 ≠ 11 by omega), h8, lT_eq]
      have s1 : Sx p9 w (uI (uI w 79 11 (nI (min 99999 (10 * v + d)))) 79 8 (nI i + 1)) := ((Sx.rf).uI rfl).uI rfl
      obtain ⟨w', q1, q2, q3, q4, q5⟩ := ih (i + 1) (min 99999 (10 * v + d)) _ (E.of (s1.mono p98)) (by rw [gI_uI_at, nI_1]) ((gI_uI_nf (by omega)).trans gI_uI_at) (Nat.min_le_left _ _) (by omega) (by omega)
      exact ⟨w', q1, q2, q3, q4, q5.trans ((gI_uI_nf (by omega)).trans (gI_uI_nf (by omega)))⟩
    · rw [if_neg c, if_neg c, if_neg c, lT_eq]
      exact ⟨_, rfl, (gI_uI_nf (by omega)).trans h8, (gI_uI_nf (by omega)).trans h11, gI_uI_at, gI_uI_nf (by omega)⟩
theorem adv0_L (ht : t ≤ 800) : ∀ F i (w : HW), ME B t w → gI w 79 8 = nI i → i ≤ t → t - i < F → ∃ w', fX10_advance_0 F w = fX10_advance_39 w' ∧ gI w' 79 8 = nI (skB (chB B t) (t - i) i) ∧ Sx p9 w w' := by
  intro F
  induction F with
  | zero => intro i w _ _ _ h; omega
  | succ F ih =>
    intro i w E h8 hi hF
    rw [fX10_advance_0, h8, see_ok E ht (by omega), bI_some, skB_s ch_t hi]
    by_cases c : sgK (chB B t i) = 5
    · have hlt : i < t := by
        have := mt (ch_0 (B := B) (t := t) (k := i)).mpr (by omega)
        omega
      have s1 : Sx p9 w (uI w 79 8 (nI i + 1)) := (Sx.rf).uI rfl
      obtain ⟨w', q1, q2, q3⟩ := ih (i + 1) _ (E.of (s1.mono p98)) (by rw [gI_uI_at, nI_1]) (by omega) (by omega)
      rw [if_pos c]
      rcases sgK_5i.mpr c with e | e
      · rw [if_neg (fun y => y e), lT_eq]
        exact ⟨w', q1, q2, s1.tr q3⟩
      · rw [if_pos (show ¬ chB B t i = 32 by rw [e]; decide), bI_some, if_pos e, lT_eq]
        exact ⟨w', q1, q2, s1.tr q3⟩
    · have k := mt sgK_5i.mp c
      rw [if_neg c, if_pos (fun y => k (Or.inl y)), bI_some, if_neg (fun y => k (Or.inr y))]
      exact ⟨w, rfl, h8, Sx.rf⟩
theorem advance_ok (E : ME B t w) (ht : t ≤ 800) {i : Nat} (h8 : gI w 79 8 = nI i) (hi : i ≤ t) : ∃ w', fX10_advance w = some w' ∧ gI w' 79 10 = nI (tkC B t i) ∧ gI w' 79 9 = nI (tkS B t i) ∧ gI w' 79 8 = nI (tkE B t i) ∧ (tkC B t i = 2 → gI w' 79 11 = nI (tkV B t i)) ∧ Sx p9 w w' := by
  have hb := tk_b (B := B) hi
  obtain ⟨w1, q1, q2, q3⟩ := adv0_L ht FU i w E h8 hi (by rw [FU_eq]; omega)
  have q2' : gI w1 79 8 = nI (tkS B t i) := q2
  have E1 := E.of (q3.mono p98)
  have main : ∃ w', fX10_advance_39 w1 = some w' ∧ gI w' 79 10 = nI (tkC B t i) ∧ gI w' 79 9 = nI (tkS B t i) ∧ gI w' 79 8 = nI (tkE B t i) ∧ (tkC B t i = 2 → gI w' 79 11 = nI (tkV B t i)) := by
    have s1 : Sx p9 w1 (uI w1 79 9 (nI (tkS B t i))) := (Sx.rf).uI rfl
    have E2 := E1.of (s1.mono p98)
    have g8 : gI (uI w1 79 9 (nI (tkS B t i))) 79 8 = nI (tkS B t i) := (gI_uI_nf (by omega)).trans q2'
    have g9 : gI (uI w1 79 9 (nI (tkS B t i))) 79 9 = nI (tkS B t i) := gI_uI_at
    have hK : sgK (chB B t (tkS B t i)) = tkC B t i := rfl
    have h5 : sgK (chB B t (tkS B t i)) ≠ 5 := by rw [hK]; omega
    unfold fX10_advance_39
    rw [q2', lT_eq, g8, see_ok E2 ht (by omega), bI_some]
    by_cases c0 : tkC B t i = 0
    · rw [if_pos (sgK_0.mp (hK.trans c0)), lT_eq]
      refine ⟨_, rfl, ?_, (gI_uI_nf (by omega)).trans g9, ?_, fun y => by omega⟩
      · rw [gI_uI_at, c0]; rfl
      · rw [gI_uI_nf (by omega), g8]; unfold tkE; rw [if_pos c0]
    · rw [if_neg (fun y => c0 (hK.symm.trans (sgK_0.mpr y))), in_az, bI_some, if_b01, ite_dec, hK]
      by_cases c1 : tkC B t i = 1
      · obtain ⟨w', r1, r2, r3, r4⟩ := adv83_L ht FU (tkS B t i) _ E2 g8 (by omega) (by rw [FU_eq]; omega)
        rw [if_pos c1]
        refine ⟨w', r1, by rw [r3, c1]; rfl, r4.trans g9, ?_, fun y => by omega⟩
        rw [r2]; unfold tkE; rw [if_neg c0, if_pos (Or.inl c1), c1]
      · rw [if_neg c1, in_09, bI_some, if_b01, ite_dec, hK]
        by_cases c2 : tkC B t i = 2
        · have s2 : Sx p9 (uI w1 79 9 (nI (tkS B t i))) (uI (uI w1 79 9 (nI (tkS B t i))) 79 11 0) := (Sx.rf).uI rfl
          obtain ⟨w', r1, r2, r3, r4, r5⟩ := adv144_L ht FU (tkS B t i) 0 _ (E2.of (s2.mono p98)) ((gI_uI_nf (by omega)).trans g8) gI_uI_at (by omega) (by omega) (by rw [FU_eq]; omega)
          rw [if_pos c2, lT_eq]
          refine ⟨w', r1, by rw [r4, c2]; rfl, r5.trans ((gI_uI_nf (by omega)).trans g9), ?_, fun y => ?_⟩
          · rw [r2]; unfold tkE; rw [if_neg c0, if_pos (Or.inr c2), c2]
          · rw [r3]; unfold tkV; rw [if_pos c2]
        · have k3 := sgK_3i (by rw [hK]; exact c0) h5 (by rw [hK]; exact c1) (by rw [hK]; exact c2)
          rw [hK] at k3
          have eE : tkE B t i = tkS B t i + 1 := by unfold tkE; rw [if_neg c0, if_neg (fun y => y.elim c1 c2)]
          rw [if_neg c2]
          by_cases c3 : chB B t (tkS B t i) = 59
          · rw [if_pos c3] at k3
            rw [if_pos c3, lT_eq, gI_uI_nf (show 8 ≠ 10 by omega), g8, lT_eq, nI_1]
            refine ⟨_, rfl, ?_, ?_, ?_, fun y => by omega⟩
            · rw [gI_uI_nf (by omega), gI_uI_at, k3]; rfl
            · rw [gI_uI_nf (by omega), gI_uI_nf (by omega)]; exact g9
            · rw [gI_uI_at, eE]
          · rw [if_neg c3] at k3
            rw [if_neg c3, lT_eq, gI_uI_nf (show 8 ≠ 10 by omega), g8, lT_eq, nI_1]
            refine ⟨_, rfl, ?_, ?_, ?_, fun y => by omega⟩
            · rw [gI_uI_nf (by omega), gI_uI_at, k3]; rfl
            · rw [gI_uI_nf (by omega), gI_uI_nf (by omega)]; exact g9
            · rw [gI_uI_at, eE]
  obtain ⟨w', r1, r2, r3, r4, r5⟩ := main
  have e : fX10_advance w = some w' := by
    unfold fX10_advance
    rw [q1, r1]
  exact ⟨w', e, r2, r3, r4, r5, qX10_advance Sx.rf _ e⟩
theorem MR.adv (C : MR B t w z) (ht : t ≤ 800) (hf : z.f = 0) : ∃ w', fX10_advance w = some w' ∧ MR B t w' (zt B t 0 z.p z.e) ∧ Sx p8 w w' := by
  obtain ⟨E, I, h12, h13, h10, h9, h8, h11⟩ := C
  obtain ⟨w', q1, q2, q3, q4, q5, q6⟩ := advance_ok E ht h8 I.2.2.2.1
  exact ⟨w', q1, ⟨E.of (q6.mono p98), I.adv, (q6 79 12 rfl).1.trans (h12.trans (by rw [hf]; rfl)), (q6 79 13 rfl).1.trans h13, q2, q3, q4, q5⟩, q6.mono p98⟩
theorem MR.good (C : MR B t w z) : fX10_good w = some (b01 (decide (z.f = 0))) := by
  have hI := C.2.1.1
  unfold fX10_good
  rw [C.2.2.1]
  by_cases h : z.f = 0
  · rw [if_pos (show nI z.f = 0 from congrArg nI h), decide_eq_true h]; rfl
  · rw [if_neg (show ¬ nI z.f = 0 from fun y => h ((nI_eqv (b := 0) (by omega) (by omega)).mp y)), decide_eq_false h]; rfl
theorem MR.errs (C : MR B t w z) (ht : t ≤ 800) {n : Nat} (hn : n ≤ 3) : ∃ w', fX10_errs w (nI n) = some w' ∧ MR B t w' (errZ n z) ∧ Sx p8 w w' := by
  have I' := C.2.1.err ht hn
  have hg := C.good
  unfold fX10_errs
  rw [hg, bI_some, if_b01', ite_dec]
  by_cases hf : z.f = 0
  · obtain ⟨E, I, h12, h13, h10, h9, h8, h11⟩ := C
    have s1 : Sx p8 w (uI (uI w 79 12 (nI n)) 79 13 (nI z.s)) := ((Sx.rf).uI rfl).uI rfl
    unfold errZ at I' ⊢
    rw [if_pos hf] at I' ⊢
    rw [if_pos hf, lT_eq, gI_uI_nf (show 9 ≠ 12 by omega), h9, lT_eq]
    refine ⟨_, rfl, ⟨E.of s1, I', ?_, ?_, ?_, ?_, ?_, ?_⟩, s1⟩
    · rw [gI_uI_nf (by omega), gI_uI_at]; rfl
    · rw [gI_uI_at]; exact (aI_s _).symm
    · rw [gI_uI_nf (by omega), gI_uI_nf (by omega)]; exact h10
    · rw [gI_uI_nf (by omega), gI_uI_nf (by omega)]; exact h9
    · rw [gI_uI_nf (by omega), gI_uI_nf (by omega)]; exact h8
    · intro y; rw [gI_uI_nf (by omega), gI_uI_nf (by omega)]; exact h11 y
  · unfold errZ
    rw [if_neg hf, if_neg hf]
    exact ⟨w, rfl, C, Sx.rf⟩
theorem is39_0 {q F : Nat} (hq : q < 13) (hF : 0 < F) {i : Int32} : fX10_is_39 w q F 0 i = some 0 := by
  obtain ⟨F, rfl⟩ : ∃ E, F = E + 1 := ⟨F - 1, by omega⟩
  rw [fX10_is_39, if_pos (decide_eq_true hq), if_neg (show ¬ ¬ (0 : Int32) = 0 from fun y => y rfl), if_pos (show zB 0 = true from rfl), ite_self]
theorem is39_L (E : ME B t w) (ht : t ≤ 800) {q s n : Nat} (hq : q < 13) (hn : n = hlen.getD q 0) (h9 : gI w 79 9 = nI s) (hs : s + n ≤ t) (hw : ∀ i, s ≤ i → i < s + n → sgK (chB B t i) = 1) : ∀ F i, i ≤ n → n - i + 1 < F → (∀ j, j < i → chB B t (s + j) = sCh q (nI j)) → fX10_is_39 w q F 1 (nI i) = some (b01 (alB (fun i => decide (chB B t (s + i) = sCh q (nI i))) n)) := by
  have hl := hlen_le q hq
  intro F
  induction F with
  | zero => intro i _ h; omega
  | succ F ih =>
    intro i hi hF hj
    rw [fX10_is_39, if_pos (decide_eq_true hq), sLn_ok q hq, ← hn]
    by_cases h : i < n
    · have hr := hw (s + i) (by omega) (by omega)
      have eC : chB B t (s + i) = B (s + i) &&& 255 := by unfold chB; rw [if_pos (by omega)]
      have eB : B (s + i) = chB B t (s + i) := by
        rw [eC] at hr ⊢
        exact (raw_eq (E.2.2 _ (by omega)) hr).symm
      rw [if_pos (nI_lt h (by omega)), if_pos (show ¬ (1 : Int32) = 0 by decide), h9, nI_add, if_pos (inB_nI (by omega) (by omega)), if_pos (by rw [decide_eq_true hq, inB_nI h (by omega)]; rfl), ix_nI (n := s + i) (by omega), E.2.1 _ (by omega), eB]
      by_cases c : chB B t (s + i) = sCh q (nI i)
      · rw [if_pos c, nI_1]
        exact ih (i + 1) (by omega) (by omega) (fun j hj2 => by
          by_cases e : j = i
          · subst e; exact c
          · exact hj j (by omega))
      · rw [if_neg c, is39_0 hq (by omega)]
        have : alB (fun i => decide (chB B t (s + i) = sCh q (nI i))) n = false := by
          cases y : alB (fun i => decide (chB B t (s + i) = sCh q (nI i))) n with
          | false => rfl
          | true => exact absurd (of_decide_eq_true ((alB_iff n).mp y i h)) c
        rw [this]
        rfl
    · have e : i = n := by omega
      rw [if_neg (nI_nlt (by omega) (by omega)), if_pos (show zB 1 = true from rfl), (alB_iff n).mpr (fun j hj2 => decide_eq_true (hj j (by omega)))]
      rfl
theorem MR.is (C : MR B t w z) (ht : t ≤ 800) {q : Nat} (hq : q < 13) : fX10_is w q = some (b01 (decide (z.f = 0) && isz B t q z)) := by
  have hg := C.good
  obtain ⟨E, I, h12, h13, h10, h9, h8, h11⟩ := C
  have hl := hlen_le q hq
  have hI := I.2.2.1
  have hI2 := I.2.2.2.1
  have hI3 := I.2.2.2.2.1
  unfold fX10_is isz
  rw [hg, bI_some, if_b01, ite_dec]
  by_cases hf : z.f = 0
  · rw [if_pos hf, decide_eq_true hf, Bool.true_and, h10]
    by_cases c : z.c = 1
    · rw [if_pos (show nI z.c = 1 from congrArg nI c), if_pos (decide_eq_true hq), h8, h9, sLn_ok q hq, nI_subI hI, decide_eq_true c, Bool.true_and]
      by_cases c2 : z.e - z.s = hlen.getD q 0
      · rw [if_pos (congrArg nI c2), decide_eq_true c2, Bool.true_and]
        exact is39_L E ht hq rfl h9 (by omega) (fun i a b => I.2.2.2.2.2.2.2 c i a (by omega)) FU 0 (Nat.zero_le _) (by rw [FU_eq]; omega) (fun j hj => by omega)
      · rw [if_neg (fun y => c2 ((nI_eqv (by omega) (by omega)).mp y)), decide_eq_false c2, Bool.false_and, is39_0 hq (by rw [FU_eq]; omega)]
        rfl
    · rw [if_neg (show ¬ nI z.c = 1 from fun y => c ((nI_eqv (b := 1) (by omega) (by omega)).mp y)), decide_eq_false c, Bool.false_and, is39_0 hq (by rw [FU_eq]; omega)]
      rfl
  · rw [if_neg hf, decide_eq_false hf, Bool.false_and, is39_0 hq (by rw [FU_eq]; omega)]
    rfl
theorem MR.takes (C : MR B t w z) (ht : t ≤ 800) {q : Nat} (hq : q < 13) : ∃ w', fX10_takes w q = some (b01 (decide (z.f = 0) && isz B t q z), w') ∧ MR B t w' (if z.f = 0 ∧ isz B t q z = true then zt B t 0 z.p z.e else z) ∧ Sx p8 w w' := by
  unfold fX10_takes
  rw [C.is ht hq, bI_some, if_b01, zB_b01, if_pos rfl]
  by_cases c : z.f = 0 ∧ isz B t q z = true
  · obtain ⟨w', q1, q2, q3⟩ := C.adv ht c.1
    rw [if_pos (by rw [decide_eq_true c.1, c.2]; rfl), if_pos c, q1, bI_some, if_pos rfl]
    exact ⟨w', rfl, q2, q3⟩
  · rw [if_neg c, if_neg (fun y => c (by rw [Bool.and_eq_true, decide_eq_true_eq] at y; exact y))]
    exact ⟨w, rfl, C, Sx.rf⟩
theorem MR.word (C : MR B t w z) (ht : t ≤ 800) {q : Nat} (hq : q < 13) : ∃ w', fX10_needs w q = some w' ∧ MR B t w' (wordZ B t q z) ∧ Sx p8 w w' := by
  obtain ⟨w1, q1, q2, q3⟩ := C.takes ht hq
  unfold fX10_needs wordZ
  rw [q1, bW_some, if_b01']
  by_cases hf : z.f = 0
  · by_cases c : isz B t q z = true
    · rw [if_pos ⟨hf, c⟩] at q2
      rw [if_pos (by rw [decide_eq_true hf, c]; rfl), if_pos hf, if_pos c]
      exact ⟨w1, rfl, q2, q3⟩
    · rw [if_neg (fun y => c y.2)] at q2
      obtain ⟨w2, r1, r2, r3⟩ := q2.errs ht (n := 1) (by omega)
      rw [if_neg (by rw [show isz B t q z = false by simpa using c, Bool.and_false]; decide), if_pos hf, if_neg c, show fX10_errs w1 1 = _ from r1, bI_some]
      exact ⟨w2, rfl, r2, q3.tr r3⟩
  · rw [if_neg (fun y => hf y.1)] at q2
    obtain ⟨w2, r1, r2, r3⟩ := q2.errs ht (n := 1) (by omega)
    unfold errZ at r2
    rw [if_neg hf] at r2
    rw [if_neg (by rw [decide_eq_false hf, Bool.false_and]; decide), if_neg hf, show fX10_errs w1 1 = _ from r1, bI_some]
    exact ⟨w2, rfl, r2, q3.tr r3⟩
theorem num47_ok (C : MR B t w z) (ht : t ≤ 800) (h2 : z.f = 0 → z.c = 2) : ∃ w', fX10_number_47 w = some (nI (if z.f = 0 then z.v else 0), w') ∧ MR B t w' (if z.f = 0 then zt B t 0 z.p z.e else z) ∧ Sx p8 w w' := by
  unfold fX10_number_47
  rw [C.good, bI_some, if_b01', ite_dec]
  by_cases hf : z.f = 0
  · obtain ⟨w', q1, q2, q3⟩ := C.adv ht hf
    rw [if_pos hf, if_pos hf, if_pos hf, lT_eq, q1, bI_some, C.2.2.2.2.2.2.2 (h2 hf)]
    exact ⟨w', rfl, q2, q3⟩
  · rw [if_neg hf, if_neg hf, if_neg hf]
    exact ⟨w, rfl, C, Sx.rf⟩
theorem errZ_f {n : Nat} (hn : n ≠ 0) : (errZ n z).f ≠ 0 := by
  unfold errZ
  split
  · exact hn
  · assumption
theorem in_lo {lo n v : Nat} (hlo : lo ≤ 900) (hn : n ≤ 900) (hv : v ≤ 99999) : fX10_in w (nI v).toInt64 (nI lo).toInt64 (aI n).toInt64 = some (b01 (decide (lo ≤ v ∧ v < n))) := by
  rw [in_ok]
  have e1 : nI lo ≤ nI v ↔ lo ≤ v := by rw [fa_le, nI_toInt (by omega), nI_toInt (by omega)]; omega
  have e2 : nI v ≤ aI n ↔ v < n := by
    rw [← Int32.not_lt, aI_ltn (by omega) (by omega)]
    omega
  by_cases c : lo ≤ v ∧ v < n
  · rw [if_pos ⟨e1.mpr c.1, e2.mpr c.2⟩, decide_eq_true c]; rfl
  · rw [if_neg (fun y => c ⟨e1.mp y.1, e2.mp y.2⟩), decide_eq_false c]; rfl
theorem MR.num (C : MR B t w z) (ht : t ≤ 800) {lo n : Nat} (hlo : lo ≤ 900) (hn : n ≤ 900) : ∃ w', fX10_number w (nI lo) (aI n) = some (nI (numV lo n z), w') ∧ MR B t w' (numZ B t lo n z) ∧ Sx p8 w w' := by
  have hc4 := C.2.1.2.2.2.2.1
  have hv9 := C.2.1.2.2.2.2.2.1
  -- behind a fault nothing more
  have bad : ∀ w1 z1, MR B t w1 z1 → z1.f ≠ 0 → fX10_number_20 w1 (nI lo) (aI n) = some (0, w1) := by
    intro w1 z1 C1 h1
    unfold fX10_number_20 fX10_number_47
    rw [C1.good, bI_some, if_b01, ite_dec, if_neg h1, bI_some, if_b01', ite_dec, if_neg h1]
  unfold fX10_number numZ numV
  rw [C.good, bI_some, if_b01, ite_dec]
  by_cases hf : z.f = 0
  · rw [if_pos hf, if_pos hf, C.2.2.2.2.1]
    by_cases c : z.c = 2
    · rw [if_neg (show ¬ ¬ nI z.c = 2 from fun y => y (congrArg nI c)), if_pos c]
      unfold fX10_number_20
      rw [C.good, bI_some, if_b01, ite_dec, if_pos hf, C.2.2.2.2.2.2.2 c, in_lo hlo hn hv9, bI_some, if_b01', ite_dec]
      by_cases g : lo ≤ z.v ∧ z.v < n
      · obtain ⟨w', q1, q2, q3⟩ := num47_ok C ht (fun _ => c)
        rw [if_pos hf] at q1 q2
        rw [if_pos g, if_pos ⟨hf, c, g⟩, if_pos g]
        exact ⟨w', q1, q2, q3⟩
      · obtain ⟨w1, r1, r2, r3⟩ := C.errs ht (n := 2) (by omega)
        have e2 := errZ_f (z := z) (n := 2) (by omega)
        rw [if_neg g, if_neg (fun y => g y.2.2), if_neg g, show fX10_errs w 2 = _ from r1, bI_some]
        unfold fX10_number_47
        rw [r2.good, bI_some, if_b01', ite_dec, if_neg e2]
        exact ⟨w1, rfl, r2, r3⟩
    · obtain ⟨w1, r1, r2, r3⟩ := C.errs ht (n := 1) (by omega)
      rw [if_pos (show ¬ nI z.c = 2 from fun y => c ((nI_eqv (b := 2) (by omega) (by omega)).mp y)), if_neg c, if_neg (fun y => c y.2.1), show fX10_errs w 1 = _ from r1, bI_some, bad w1 _ r2 (errZ_f (by omega))]
      exact ⟨w1, rfl, r2, r3⟩
  · rw [if_neg hf, if_neg hf, if_neg (fun y => hf y.1), bad w z C hf]
    exact ⟨w, rfl, C, Sx.rf⟩
theorem MR.told (C : MR B t w z) (ht : t ≤ 800) {q lo n : Nat} (hq : q < 13) (hlo : lo ≤ 900) (hn : n ≤ 900) : ∃ w', fX10_told w q (nI lo) (aI n) = some (nI (numV lo n (wordZ B t q z)), w') ∧ MR B t w' (numZ B t lo n (wordZ B t q z)) ∧ Sx p8 w w' := by
  obtain ⟨w1, q1, q2, q3⟩ := C.word ht hq
  obtain ⟨w2, r1, r2, r3⟩ := q2.num ht hlo hn
  unfold fX10_told
  rw [q1, bI_some, r1, bW_some]
  exact ⟨w2, rfl, r2, q3.tr r3⟩
end MRS
