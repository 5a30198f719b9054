/-! PLANS: bribe, unmark, spoil, spoilt -/
/-- the first with the most, one more, and the most -/
def mxF (ok : Nat → Bool) (v : Nat → Nat) (m0 : Nat) : Nat → Nat × Nat
  | 0 => (0, m0)
  | n + 1 => if ok n = true ∧ (mxF ok v m0 n).2 < v n then (n + 1, v n) else mxF ok v m0 n
/-- the first with the least, one more, and the least -/
def mnF (ok : Nat → Bool) (v : Nat → Nat) (m0 : Nat) : Nat → Nat × Nat
  | 0 => (0, m0)
  | n + 1 => if ok n = true ∧ v n < (mnF ok v m0 n).2 then (n + 1, v n) else mnF ok v m0 n
theorem mxF_s (ok : Nat → Bool) (v : Nat → Nat) (m0 n : Nat) : mxF ok v m0 (n + 1) = if ok n = true ∧ (mxF ok v m0 n).2 < v n then (n + 1, v n) else mxF ok v m0 n := rfl
theorem mnF_s (ok : Nat → Bool) (v : Nat → Nat) (m0 n : Nat) : mnF ok v m0 (n + 1) = if ok n = true ∧ v n < (mnF ok v m0 n).2 then (n + 1, v n) else mnF ok v m0 n := rfl
theorem mxF_le {ok : Nat → Bool} {v : Nat → Nat} {m0 B : Nat} (h0 : m0 ≤ B) (hv : ∀ i, v i ≤ B) : ∀ n, (mxF ok v m0 n).2 ≤ B ∧ (mxF ok v m0 n).1 ≤ n := by
  intro n
  induction n with
  | zero => exact ⟨h0, Nat.le_refl _⟩
  | succ n ih =>
    rw [mxF_s]
    split
    · exact ⟨hv n, Nat.le_refl _⟩
    · exact ⟨ih.1, by omega⟩
theorem mnF_le {ok : Nat → Bool} {v : Nat → Nat} {m0 : Nat} : ∀ n, (mnF ok v m0 n).2 ≤ m0 ∧ (mnF ok v m0 n).1 ≤ n ∧ (mnF ok v m0 n).2 = if (mnF ok v m0 n).1 = 0 then m0 else v ((mnF ok v m0 n).1 - 1) := by
  intro n
  induction n with
  | zero => exact ⟨Nat.le_refl _, Nat.le_refl _, rfl⟩
  | succ n ih =>
    rw [mnF_s]
    split
    · next h => exact ⟨by have := h.2; have := ih.1; show v n ≤ m0; omega, Nat.le_refl _, by show v n = if n + 1 = 0 then m0 else v (n + 1 - 1); rw [if_neg (by omega), Nat.add_sub_cancel]⟩
    · exact ⟨ih.1, by omega, ih.2.2⟩
theorem mnF_skip {ok : Nat → Bool} {v : Nat → Nat} {m0 : Nat} : ∀ n, (∀ i, i < n → ok i = false → m0 ≤ v i) → mnF ok v m0 n = mnF (fun _ => true) v m0 n := by
  intro n
  induction n with
  | zero => intro _; rfl
  | succ n ih =>
    intro h
    rw [mnF_s, mnF_s, ih (fun i hi => h i (by omega))]
    cases c : ok n with
    | true => rfl
    | false =>
      have h1 := h n (by omega) c
      have h2 := (mnF_le (ok := fun _ => true) (v := v) (m0 := m0) n).1
      rw [if_neg (fun z => by cases z.1), if_neg (fun z => by have := z.2; omega)]
theorem VP_le {K : Nat → Nat} (W : WF K) (M mk au tk : Nat) : VP K M mk au tk ≤ 1386 :=
  PL.W_le' (plC K M mk au tk (wR K)) (show K 0 ≤ 14 from W.b.1) (fun b _ => plC_u (fun b hb => (W.bil hb).2.1) b) _ _
section BRX
variable {K : Nat → Nat} {kn ks : Nat}
theorem p255 {a : Nat} : nd 255 (2 ^ a) < 2 ^ 31 := Nat.lt_of_lt_of_le (nd_lt (n := 8) (by omega)) (by omega)
theorem bribeX_L (W : WF K) {s : Nat} (hs : s ≤ 1) : ∀ F i (w : HW), i ≤ K 4 → K 4 - i < F → RelN w kn ks → CC w kn K → ∃ w', fX9_bribe_25 (nI s) F w (aI (mxF (fun a => !decide (K (9 + 3 * a) = s)) (fun a => VP K (sB K s) (K 8) (nd 255 (2 ^ a)) 0) (VP K (sB K s) (K 8) 255 0) i).1) (nI (mxF (fun a => !decide (K (9 + 3 * a) = s)) (fun a => VP K (sB K s) (K 8) (nd 255 (2 ^ a)) 0) (VP K (sB K s) (K 8) 255 0) i).2) (nI i) = some (aI (mxF (fun a => !decide (K (9 + 3 * a) = s)) (fun a => VP K (sB K s) (K 8) (nd 255 (2 ^ a)) 0) (VP K (sB K s) (K 8) 255 0) (K 4)).1, w') := by
  have hb := W.b
  intro F
  induction F with
  | zero => intro i w h1 h2; omega
  | succ F ih =>
    intro i w h1 h2 HN HC
    have L := mxF_le (ok := fun a => !decide (K (9 + 3 * a) = s)) (v := fun a => VP K (sB K s) (K 8) (nd 255 (2 ^ a)) 0) (VP_le W (sB K s) (K 8) 255 0) (fun a => VP_le W _ _ _ _) i
    have st := mxF_s (fun a => !decide (K (9 + 3 * a) = s)) (fun a => VP K (sB K s) (K 8) (nd 255 (2 ^ a)) 0) (VP K (sB K s) (K 8) 255 0) i
    have hv := VP_le W (sB K s) (K 8) (nd 255 (2 ^ i)) 0
    rw [fX9_bribe_25]
    simp only [now_ok HN]
    rw [HC.c6]
    by_cases hi : i < K 4
    · have hA := W.aug hi
      rw [if_pos (nI_lt hi (by omega)), if_pos (inB_nI (by omega) (by omega)), ix_nI (by omega), (HC.aug hi).1]
      by_cases c : K (9 + 3 * i) = s
      · have i1 := ih (i + 1) w (by omega) (by omega) HN HC
        rw [st, if_neg (by rw [decide_eq_true c]; simp)] at i1
        rw [if_pos (congrArg nI c), nI_1]
        exact i1
      · obtain ⟨w1, q1, _, _, q3⟩ := worthOfPlans_ok (tk := 0) W HN HC (sB_256 W s) (lt31 W W.mk) (p255 (a := i)) (by omega)
        rw [if_neg (fun z => c ((nI_eqv (by omega) (by omega)).mp z)), X0_billsOf_ok HC W (by omega), bI_some, HC.c5, iSl_1 (by omega), show (255 : Int32) = nI 255 from rfl, nI_nd, show fX9_worthOfPlans w (nI (sB K s)) (nI (K 8)) (nI (nd 255 (2 ^ i))) 0 = _ from q1, bW_some]
        have i1 := ih (i + 1) w1 (by omega) (by omega) (HN.sx q3) (HC.sx q3)
        by_cases c2 : (mxF (fun a => !decide (K (9 + 3 * a) = s)) (fun a => VP K (sB K s) (K 8) (nd 255 (2 ^ a)) 0) (VP K (sB K s) (K 8) 255 0) i).2 < VP K (sB K s) (K 8) (nd 255 (2 ^ i)) 0
        · rw [st, if_pos ⟨by rw [decide_eq_false c]; rfl, c2⟩, aI_s] at i1
          rw [if_pos (nI_lt c2 (by omega)), nI_1]
          exact i1
        · rw [st, if_neg (fun z => c2 z.2)] at i1
          rw [if_neg (nI_nlt (by omega) (by omega)), nI_1]
          exact i1
    · have e : i = K 4 := by omega
      rw [if_neg (nI_nlt (by omega) (by omega)), e]
      exact ⟨w, rfl⟩
theorem bribeM_L (W : WF K) (hG : 1 ≤ K 2) {s : Nat} (hs : s ≤ 1) : ∀ F i (w : HW), i ≤ K 4 → K 4 - i < F → RC w K → (gI w 79 28 = 0 ∧ gI w 79 30 = 0 ∧ gI w 79 32 = -1) → ∃ w', fX10_bribe_22 (nI s) F w (nI (mxF (fun a => !decide (K (9 + 3 * a) = s)) (fun a => VP K (sB K s) (K 8) (nd 255 (2 ^ a)) 0) (VP K (sB K s) (K 8) 255 0) i).2) (aI (mxF (fun a => !decide (K (9 + 3 * a) = s)) (fun a => VP K (sB K s) (K 8) (nd 255 (2 ^ a)) 0) (VP K (sB K s) (K 8) 255 0) i).1) (nI i) = some (aI (mxF (fun a => !decide (K (9 + 3 * a) = s)) (fun a => VP K (sB K s) (K 8) (nd 255 (2 ^ a)) 0) (VP K (sB K s) (K 8) 255 0) (K 4)).1, w') ∧ Sy 29 w w' ∧ gI w' 79 29 = 0 := by
  have hb := W.b
  intro F
  induction F with
  | zero => intro i w h1 h2; omega
  | succ F ih =>
    intro i w h1 h2 HR C
    have L := mxF_le (ok := fun a => !decide (K (9 + 3 * a) = s)) (v := fun a => VP K (sB K s) (K 8) (nd 255 (2 ^ a)) 0) (VP_le W (sB K s) (K 8) 255 0) (fun a => VP_le W _ _ _ _) i
    have st := mxF_s (fun a => !decide (K (9 + 3 * a) = s)) (fun a => VP K (sB K s) (K 8) (nd 255 (2 ^ a)) 0) (VP K (sB K s) (K 8) 255 0) i
    have hv := VP_le W (sB K s) (K 8) (nd 255 (2 ^ i)) 0
    rw [fX10_bribe_22, if_pos (show inB 4 77 = true from rfl), ix_4, HR.r4]
    by_cases hi : i < K 4
    · have hA := W.aug hi
      rw [if_pos (nI_lt hi (by omega)), X10_ofAugur_0 HR W hi, bI_some]
      by_cases c : K (9 + 3 * i) = s
      · have i1 := ih (i + 1) w (by omega) (by omega) HR C
        rw [st, if_neg (by rw [decide_eq_true c]; simp)] at i1
        rw [if_pos (congrArg nI c), nI_1]
        exact i1
      · have s1 : Sy 29 w (uI w 79 29 (nI (2 ^ i))) := (Sx.rf).sy.put
        have R : RP (uI w 79 29 (nI (2 ^ i))) 0 (2 ^ i) 0 0 := ⟨(gI_uI_nf (by omega)).trans C.1, gI_uI_at, (gI_uI_nf (by omega)).trans C.2.1, (gI_uI_nf (by omega)).trans C.2.2⟩
        have z := refPlans_ok W (by omega) (HR.sy s1) R (by omega) (ow_side W hs) hG
        rw [nd_0] at z
        obtain ⟨w2, q1, q4, _, _, q3⟩ := z
        have s2 : Sy 29 w w2 := s1.tr q3.sy
        rw [if_neg (fun z => c ((nI_eqv (by omega) (by omega)).mp z)), iSl_1 (by omega), lT_eq, q1, bW_some]
        have C2 : gI w2 79 28 = 0 ∧ gI w2 79 30 = 0 ∧ gI w2 79 32 = -1 := ⟨((s2 79 28 rfl).1 (by omega)).trans C.1, ((s2 79 30 rfl).1 (by omega)).trans C.2.1, ((s2 79 32 rfl).1 (by omega)).trans C.2.2⟩
        have i1 := ih (i + 1) w2 (by omega) (by omega) q4 C2
        by_cases c2 : (mxF (fun a => !decide (K (9 + 3 * a) = s)) (fun a => VP K (sB K s) (K 8) (nd 255 (2 ^ a)) 0) (VP K (sB K s) (K 8) 255 0) i).2 < VP K (sB K s) (K 8) (nd 255 (2 ^ i)) 0
        · rw [st, if_pos ⟨by rw [decide_eq_false c]; rfl, c2⟩, aI_s] at i1
          rw [if_neg (fun z => z (nI_lt c2 (by omega))), nI_1]
          obtain ⟨w3, r1, r2, r3⟩ := i1
          exact ⟨w3, r1, s2.tr r2, r3⟩
        · rw [st, if_neg (fun z => c2 z.2)] at i1
          rw [if_pos (nI_nlt (by omega) (by omega)), nI_1]
          obtain ⟨w3, r1, r2, r3⟩ := i1
          exact ⟨w3, r1, s2.tr r2, r3⟩
    · have e : i = K 4 := by omega
      rw [if_neg (nI_nlt (by omega) (by omega)), e, lT_eq]
      exact ⟨_, rfl, (Sx.rf).sy.put, gI_uI_at⟩
theorem unmarkX_L (W : WF K) {s : Nat} (hs : s ≤ 1) : ∀ F i (w : HW), i ≤ K 0 → K 0 - i < F → RelN w kn ks → CC w kn K → ∃ w', fX9_unmark_25 (nI s) F w (aI (mxF (fun a => (K 8).testBit a) (fun a => VP K (sB K s) (nd (K 8) (2 ^ a)) 255 0) (VP K (sB K s) (K 8) 255 0) i).1) (nI (mxF (fun a => (K 8).testBit a) (fun a => VP K (sB K s) (nd (K 8) (2 ^ a)) 255 0) (VP K (sB K s) (K 8) 255 0) i).2) (nI i) = some (aI (mxF (fun a => (K 8).testBit a) (fun a => VP K (sB K s) (nd (K 8) (2 ^ a)) 255 0) (VP K (sB K s) (K 8) 255 0) (K 0)).1, w') := by
  have hb := W.b
  intro F
  induction F with
  | zero => intro i w h1 h2; omega
  | succ F ih =>
    intro i w h1 h2 HN HC
    have L := mxF_le (ok := fun a => (K 8).testBit a) (v := fun a => VP K (sB K s) (nd (K 8) (2 ^ a)) 255 0) (VP_le W (sB K s) (K 8) 255 0) (fun a => VP_le W _ _ _ _) i
    have st := mxF_s (fun a => (K 8).testBit a) (fun a => VP K (sB K s) (nd (K 8) (2 ^ a)) 255 0) (VP K (sB K s) (K 8) 255 0) i
    have hv := VP_le W (sB K s) (nd (K 8) (2 ^ i)) 255 0
    rw [fX9_unmark_25]
    simp only [now_ok HN]
    rw [HC.c1]
    by_cases hi : i < K 0
    · rw [if_pos (nI_lt hi (by omega)), HC.c5, holds_ok w (lt31 W W.mk) (by omega), bI_some, if_b01']
      by_cases c : (K 8).testBit i = true
      · obtain ⟨w1, q1, _, _, q3⟩ := worthOfPlans_ok (mk := nd (K 8) (2 ^ i)) (au := 255) (tk := 0) W HN HC (sB_256 W s) (lt31 W (nd_lt W.mk)) (by omega) (by omega)
        rw [if_pos c, X0_billsOf_ok HC W (by omega), bI_some, iSl_1 (by omega), nI_nd, show fX9_worthOfPlans w (nI (sB K s)) (nI (nd (K 8) (2 ^ i))) 255 0 = _ from q1, bW_some]
        have i1 := ih (i + 1) w1 (by omega) (by omega) (HN.sx q3) (HC.sx q3)
        by_cases c2 : (mxF (fun a => (K 8).testBit a) (fun a => VP K (sB K s) (nd (K 8) (2 ^ a)) 255 0) (VP K (sB K s) (K 8) 255 0) i).2 < VP K (sB K s) (nd (K 8) (2 ^ i)) 255 0
        · rw [st, if_pos ⟨c, c2⟩, aI_s] at i1
          rw [if_pos (nI_lt c2 (by omega)), nI_1]
          exact i1
        · rw [st, if_neg (fun z => c2 z.2)] at i1
          rw [if_neg (nI_nlt (by omega) (by omega)), nI_1]
          exact i1
      · have i1 := ih (i + 1) w (by omega) (by omega) HN HC
        rw [st, if_neg (fun z => c z.1)] at i1
        rw [if_neg c, nI_1]
        exact i1
    · have e : i = K 0 := by omega
      rw [if_neg (nI_nlt (by omega) (by omega)), e]
      exact ⟨w, rfl⟩
theorem unmarkM_L (W : WF K) (hG : 1 ≤ K 2) {s : Nat} (hs : s ≤ 1) : ∀ F i (w : HW), i ≤ K 0 → K 0 - i < F → RC w K → (gI w 79 28 = 0 ∧ gI w 79 29 = 0 ∧ gI w 79 32 = -1) → ∃ w', fX10_unmark_22 (nI s) F w (nI (mxF (fun a => (K 8).testBit a) (fun a => VP K (sB K s) (nd (K 8) (2 ^ a)) 255 0) (VP K (sB K s) (K 8) 255 0) i).2) (aI (mxF (fun a => (K 8).testBit a) (fun a => VP K (sB K s) (nd (K 8) (2 ^ a)) 255 0) (VP K (sB K s) (K 8) 255 0) i).1) (nI i) = some (aI (mxF (fun a => (K 8).testBit a) (fun a => VP K (sB K s) (nd (K 8) (2 ^ a)) 255 0) (VP K (sB K s) (K 8) 255 0) (K 0)).1, w') ∧ Sy 30 w w' ∧ gI w' 79 30 = 0 := by
  have hb := W.b
  intro F
  induction F with
  | zero => intro i w h1 h2; omega
  | succ F ih =>
    intro i w h1 h2 HR C
    have L := mxF_le (ok := fun a => (K 8).testBit a) (v := fun a => VP K (sB K s) (nd (K 8) (2 ^ a)) 255 0) (VP_le W (sB K s) (K 8) 255 0) (fun a => VP_le W _ _ _ _) i
    have st := mxF_s (fun a => (K 8).testBit a) (fun a => VP K (sB K s) (nd (K 8) (2 ^ a)) 255 0) (VP K (sB K s) (K 8) 255 0) i
    have hv := VP_le W (sB K s) (nd (K 8) (2 ^ i)) 255 0
    rw [fX10_unmark_22, if_pos (show inB 0 77 = true from rfl), ix_0, HR.r0]
    by_cases hi : i < K 0
    · rw [if_pos (nI_lt hi (by omega)), if_pos (show inB 8 77 = true from rfl), ix_8, HR.r8, bit_ok w (lt31 W W.mk) (by omega), bI_some, if_b01']
      by_cases c : (K 8).testBit i = true
      · have s1 : Sy 30 w (uI w 79 30 (nI (2 ^ i))) := (Sx.rf).sy.put
        have R : RP (uI w 79 30 (nI (2 ^ i))) 0 0 (2 ^ i) 0 := ⟨(gI_uI_nf (by omega)).trans C.1, (gI_uI_nf (by omega)).trans C.2.1, gI_uI_at, (gI_uI_nf (by omega)).trans C.2.2⟩
        have z := refPlans_ok W (by omega) (HR.sy s1) R (by omega) (ow_side W hs) hG
        rw [show nd 255 0 = 255 from rfl] at z
        obtain ⟨w2, q1, q4, _, _, q3⟩ := z
        have s2 : Sy 30 w w2 := s1.tr q3.sy
        rw [if_pos c, iSl_1 (by omega), lT_eq, q1, bW_some]
        have C2 : gI w2 79 28 = 0 ∧ gI w2 79 29 = 0 ∧ gI w2 79 32 = -1 := ⟨((s2 79 28 rfl).1 (by omega)).trans C.1, ((s2 79 29 rfl).1 (by omega)).trans C.2.1, ((s2 79 32 rfl).1 (by omega)).trans C.2.2⟩
        have i1 := ih (i + 1) w2 (by omega) (by omega) q4 C2
        by_cases c2 : (mxF (fun a => (K 8).testBit a) (fun a => VP K (sB K s) (nd (K 8) (2 ^ a)) 255 0) (VP K (sB K s) (K 8) 255 0) i).2 < VP K (sB K s) (nd (K 8) (2 ^ i)) 255 0
        · rw [st, if_pos ⟨c, c2⟩, aI_s] at i1
          rw [if_neg (fun z => z (nI_lt c2 (by omega))), nI_1]
          obtain ⟨w3, r1, r2, r3⟩ := i1
          exact ⟨w3, r1, s2.tr r2, r3⟩
        · rw [st, if_neg (fun z => c2 z.2)] at i1
          rw [if_pos (nI_nlt (by omega) (by omega)), nI_1]
          obtain ⟨w3, r1, r2, r3⟩ := i1
          exact ⟨w3, r1, s2.tr r2, r3⟩
      · have i1 := ih (i + 1) w (by omega) (by omega) HR C
        rw [st, if_neg (fun z => c z.1)] at i1
        rw [if_neg c, nI_1]
        exact i1
    · have e : i = K 0 := by omega
      rw [if_neg (nI_nlt (by omega) (by omega)), e, lT_eq]
      exact ⟨_, rfl, (Sx.rf).sy.put, gI_uI_at⟩
theorem spoilX_L (W : WF K) {s : Nat} (hs : s ≤ 1) {U : Nat} (hU : U < 2 ^ 31) : ∀ F i (w : HW), i ≤ K 0 → K 0 - i < F → RelN w kn ks → CC w kn K → ∃ w', fX9_spoilingDay_20 (nI s) (nI U) F w (aI (mnF (fun a => U.testBit a) (fun a => VP K (sB K s) (K 8) 255 (2 ^ a)) (VP K (sB K s) (K 8) 255 0) i).1) (nI (mnF (fun a => U.testBit a) (fun a => VP K (sB K s) (K 8) 255 (2 ^ a)) (VP K (sB K s) (K 8) 255 0) i).2) (nI i) = some (aI (mnF (fun a => U.testBit a) (fun a => VP K (sB K s) (K 8) 255 (2 ^ a)) (VP K (sB K s) (K 8) 255 0) (K 0)).1, w') := by
  have hb := W.b
  intro F
  induction F with
  | zero => intro i w h1 h2; omega
  | succ F ih =>
    intro i w h1 h2 HN HC
    have L := mnF_le (ok := fun a => U.testBit a) (v := fun a => VP K (sB K s) (K 8) 255 (2 ^ a)) (m0 := VP K (sB K s) (K 8) 255 0) i
    have hv0 := VP_le W (sB K s) (K 8) 255 0
    have st := mnF_s (fun a => U.testBit a) (fun a => VP K (sB K s) (K 8) 255 (2 ^ a)) (VP K (sB K s) (K 8) 255 0) i
    have hv := VP_le W (sB K s) (K 8) 255 (2 ^ i)
    rw [fX9_spoilingDay_20]
    simp only [now_ok HN]
    rw [HC.c1]
    by_cases hi : i < K 0
    · rw [if_pos (nI_lt hi (by omega)), holds_ok w hU (by omega), bI_some, if_b01']
      by_cases c : U.testBit i = true
      · obtain ⟨w1, q1, _, _, q3⟩ := worthOfPlans_ok (mk := K 8) (au := 255) (tk := 2 ^ i) W HN HC (sB_256 W s) (lt31 W W.mk) (by omega) (Nat.pow_lt_pow_right (by omega) (by omega))
        rw [if_pos c, X0_billsOf_ok HC W (by omega), bI_some, HC.c5, iSl_1 (by omega), show fX9_worthOfPlans w (nI (sB K s)) (nI (K 8)) 255 (nI (2 ^ i)) = _ from q1, bW_some]
        have i1 := ih (i + 1) w1 (by omega) (by omega) (HN.sx q3) (HC.sx q3)
        by_cases c2 : VP K (sB K s) (K 8) 255 (2 ^ i) < (mnF (fun a => U.testBit a) (fun a => VP K (sB K s) (K 8) 255 (2 ^ a)) (VP K (sB K s) (K 8) 255 0) i).2
        · rw [st, if_pos ⟨c, c2⟩, aI_s] at i1
          rw [if_pos (nI_lt c2 (by omega)), nI_1]
          exact i1
        · rw [st, if_neg (fun z => c2 z.2)] at i1
          rw [if_neg (nI_nlt (by omega) (by omega)), nI_1]
          exact i1
      · have i1 := ih (i + 1) w (by omega) (by omega) HN HC
        rw [st, if_neg (fun z => c z.1)] at i1
        rw [if_neg c, nI_1]
        exact i1
    · have e : i = K 0 := by omega
      rw [if_neg (nI_nlt (by omega) (by omega)), e]
      exact ⟨w, rfl⟩
theorem spoilM_L (W : WF K) (hG : 1 ≤ K 2) {s : Nat} (hs : s ≤ 1) : ∀ F i (w : HW), i ≤ K 0 → K 0 - i < F → RC w K → (gI w 79 29 = 0 ∧ gI w 79 30 = 0 ∧ gI w 79 32 = -1) → gI w 79 33 = nI (mnF (fun _ => true) (fun a => VP K (sB K s) (K 8) 255 (2 ^ a)) (VP K (sB K s) (K 8) 255 0) i).2 → ∃ w', fX10_spoilOf_13 (nI s) F w (aI (mnF (fun _ => true) (fun a => VP K (sB K s) (K 8) 255 (2 ^ a)) (VP K (sB K s) (K 8) 255 0) i).1) (nI i) = some (aI (mnF (fun _ => true) (fun a => VP K (sB K s) (K 8) 255 (2 ^ a)) (VP K (sB K s) (K 8) 255 0) (K 0)).1, w') ∧ Sy 28 w w' ∧ gI w' 79 28 = 0 ∧ gI w' 79 33 = nI (mnF (fun _ => true) (fun a => VP K (sB K s) (K 8) 255 (2 ^ a)) (VP K (sB K s) (K 8) 255 0) (K 0)).2 := by
  have hb := W.b
  intro F
  induction F with
  | zero => intro i w h1 h2; omega
  | succ F ih =>
    intro i w h1 h2 HR C h33
    have L := mnF_le (ok := fun _ => true) (v := fun a => VP K (sB K s) (K 8) 255 (2 ^ a)) (m0 := VP K (sB K s) (K 8) 255 0) i
    have hv0 := VP_le W (sB K s) (K 8) 255 0
    have st := mnF_s (fun _ => true) (fun a => VP K (sB K s) (K 8) 255 (2 ^ a)) (VP K (sB K s) (K 8) 255 0) i
    have hv := VP_le W (sB K s) (K 8) 255 (2 ^ i)
    rw [fX10_spoilOf_13, if_pos (show inB 0 77 = true from rfl), ix_0, HR.r0]
    by_cases hi : i < K 0
    · have s1 : Sy 28 w (uI w 79 28 (nI (2 ^ i))) := (Sx.rf).sy.put
      have R : RP (uI w 79 28 (nI (2 ^ i))) (2 ^ i) 0 0 0 := ⟨gI_uI_at, (gI_uI_nf (by omega)).trans C.1, (gI_uI_nf (by omega)).trans C.2.1, (gI_uI_nf (by omega)).trans C.2.2⟩
      have z := refPlans_ok W (by omega) (HR.sy s1) R (by omega) (ow_side W hs) hG
      rw [nd_0, nd_0] at z
      obtain ⟨w2, q1, q4, _, _, q3⟩ := z
      have s2 : Sy 28 w w2 := s1.tr q3.sy
      have k33 : gI w2 79 33 = nI (mnF (fun _ => true) (fun a => VP K (sB K s) (K 8) 255 (2 ^ a)) (VP K (sB K s) (K 8) 255 0) i).2 := ((qX10_layPlans Sx.rf _ _ q1 79 33 rfl).1.trans (gI_uI_nf (by omega))).trans h33
      have C2 : gI w2 79 29 = 0 ∧ gI w2 79 30 = 0 ∧ gI w2 79 32 = -1 := ⟨((s2 79 29 rfl).1 (by omega)).trans C.1, ((s2 79 30 rfl).1 (by omega)).trans C.2.1, ((s2 79 32 rfl).1 (by omega)).trans C.2.2⟩
      rw [if_pos (nI_lt hi (by omega)), iSl_1 (by omega), lT_eq, q1, bW_some, k33]
      by_cases c2 : VP K (sB K s) (K 8) 255 (2 ^ i) < (mnF (fun _ => true) (fun a => VP K (sB K s) (K 8) 255 (2 ^ a)) (VP K (sB K s) (K 8) 255 0) i).2
      · have s3 : Sy 28 w (uI w2 79 33 (nI (VP K (sB K s) (K 8) 255 (2 ^ i)))) := s2.tr ((Sx.rf).uI rfl).sy
        have i1 := ih (i + 1) (uI w2 79 33 (nI (VP K (sB K s) (K 8) 255 (2 ^ i)))) (by omega) (by omega) (HR.sy s3) ⟨(gI_uI_nf (by omega)).trans C2.1, (gI_uI_nf (by omega)).trans C2.2.1, (gI_uI_nf (by omega)).trans C2.2.2⟩ (by rw [st, if_pos ⟨rfl, c2⟩, gI_uI_at])
        obtain ⟨w3, r1, r2, r3⟩ := i1
        rw [st, if_pos ⟨rfl, c2⟩, aI_s] at r1
        rw [if_neg (fun z => z (nI_lt c2 (by omega))), lT_eq, nI_1]
        exact ⟨w3, r1, s3.tr r2, r3⟩
      · have i1 := ih (i + 1) w2 (by omega) (by omega) q4 C2 (by rw [st, if_neg (fun z => c2 z.2), k33])
        obtain ⟨w3, r1, r2, r3⟩ := i1
        rw [st, if_neg (fun z => c2 z.2)] at r1
        rw [if_pos (nI_nlt (by omega) (by omega)), nI_1]
        exact ⟨w3, r1, s2.tr r2, r3⟩
    · have e : i = K 0 := by omega
      subst e
      rw [if_neg (nI_nlt (by omega) (by omega)), lT_eq]
      exact ⟨_, rfl, (Sx.rf).sy.put, gI_uI_at, (gI_uI_nf (by omega)).trans h33⟩
end BRX
theorem ag_bribe {w : HW} (H : Rel w) (x : Int32) : Agree w (fX9_bribe · x) (fX10_bribe · x) := by
  obtain ⟨HO, K, W, HR, kn, ks, HN, HC⟩ := id H
  have hb := W.b
  by_cases h : 0 < K 7 ∧ (x = 0 ∨ x = 1)
  · obtain ⟨s, hs, rfl⟩ := side_of h.2
    have hG := (W.2.2.1 h.1).2
    obtain ⟨w0, p1, _, _, p3⟩ := worthOfPlan_ok W HN HC hs
    obtain ⟨w1, p4⟩ := bribeX_L W hs FU 0 w0 (Nat.zero_le _) (by rw [FU_eq]; omega) (HN.sx p3) (HC.sx p3)
    have ex : fX9_bribe w (nI s) = some (aI (mxF (fun a => !decide (K (9 + 3 * a) = s)) (fun a => VP K (sB K s) (K 8) (nd 255 (2 ^ a)) 0) (VP K (sB K s) (K 8) 255 0) (K 4)).1, w1) := by
      unfold fX9_bribe
      simp only [now_ok HN, X0_hasSide_ok HC W, bI_some, if_b01', and_dec]
      rw [if_pos h, p1, bW_some]
      exact p4
    have p5 : Sx sc w w1 := rX9_bribe Sx.rf _ _ ex
    have C := (HO.sx p5).2.2.1
    obtain ⟨w2, q1, q3, _, _, q2⟩ := refPlan_ok W hs (HR.sx p5) C hG
    have C2 := (HO.sx (p5.tr q2)).2.2.1
    obtain ⟨w3, r1, r2, r3⟩ := bribeM_L W hG hs FU 0 w2 (Nat.zero_le _) (by rw [FU_eq]; omega) q3 ⟨C2.2.1, C2.2.2.2.1, C2.2.2.2.2⟩
    refine ⟨_, w1, w3, ex, ?_, (H.sx (p5.tr q2)).sx (r2.fin (r3.trans C2.2.2.1.symm))⟩
    show fX10_bribe w1 (nI s) = _
    unfold fX10_bribe
    rw [X10_isSide_ok (HR.sx p5) W, bI_some, if_b01', and_dec, if_pos h, q1, bW_some]
    exact r1
  · refine ⟨-2, w, w, ?_, ?_, H⟩
    · show fX9_bribe w x = _
      unfold fX9_bribe
      simp only [now_ok HN, X0_hasSide_ok HC W, bI_some, if_b01', and_dec]
      rw [if_neg h]
    · show fX10_bribe w x = _
      unfold fX10_bribe
      rw [X10_isSide_ok HR W, bI_some, if_b01', and_dec, if_neg h]
theorem ag_unmark {w : HW} (H : Rel w) (x : Int32) : Agree w (fX9_unmark · x) (fX10_unmark · x) := by
  obtain ⟨HO, K, W, HR, kn, ks, HN, HC⟩ := id H
  have hb := W.b
  by_cases h : 0 < K 7 ∧ (x = 0 ∨ x = 1)
  · obtain ⟨s, hs, rfl⟩ := side_of h.2
    have hG := (W.2.2.1 h.1).2
    obtain ⟨w0, p1, _, _, p3⟩ := worthOfPlan_ok W HN HC hs
    obtain ⟨w1, p4⟩ := unmarkX_L W hs FU 0 w0 (Nat.zero_le _) (by rw [FU_eq]; omega) (HN.sx p3) (HC.sx p3)
    have ex : fX9_unmark w (nI s) = some (aI (mxF (fun a => (K 8).testBit a) (fun a => VP K (sB K s) (nd (K 8) (2 ^ a)) 255 0) (VP K (sB K s) (K 8) 255 0) (K 0)).1, w1) := by
      unfold fX9_unmark
      simp only [now_ok HN, X0_hasSide_ok HC W, bI_some, if_b01', and_dec]
      rw [if_pos h, p1, bW_some]
      exact p4
    have p5 : Sx sc w w1 := rX9_unmark Sx.rf _ _ ex
    have C := (HO.sx p5).2.2.1
    obtain ⟨w2, q1, q3, _, _, q2⟩ := refPlan_ok W hs (HR.sx p5) C hG
    have C2 := (HO.sx (p5.tr q2)).2.2.1
    obtain ⟨w3, r1, r2, r3⟩ := unmarkM_L W hG hs FU 0 w2 (Nat.zero_le _) (by rw [FU_eq]; omega) q3 ⟨C2.2.1, C2.2.2.1, C2.2.2.2.2⟩
    refine ⟨_, w1, w3, ex, ?_, (H.sx (p5.tr q2)).sx (r2.fin (r3.trans C2.2.2.2.1.symm))⟩
    show fX10_unmark w1 (nI s) = _
    unfold fX10_unmark
    rw [X10_isSide_ok (HR.sx p5) W, bI_some, if_b01', and_dec, if_pos h, q1, bW_some]
    exact r1
  · refine ⟨-2, w, w, ?_, ?_, H⟩
    · show fX9_unmark w x = _
      unfold fX9_unmark
      simp only [now_ok HN, X0_hasSide_ok HC W, bI_some, if_b01', and_dec]
      rw [if_neg h]
    · show fX10_unmark w x = _
      unfold fX10_unmark
      rw [X10_isSide_ok HR W, bI_some, if_b01', and_dec, if_neg h]
/-- a day that no bill of the first plan passes on takes nothing away -/
theorem VP_taken {K : Nat → Nat} {M mk au d : Nat} (h : (plC K M mk au 0 (wR K)).bi (frm K) 0 d = 0) : VP K M mk au 0 ≤ VP K M mk au (2 ^ d) := by
  have hc : ∀ x s b, x ≠ d → (plC K M mk au (2 ^ d) (wR K)).can x s b = (plC K M mk au 0 (wR K)).can x s b := by
    intro x s b hx
    have e : opC K M mk au (2 ^ d) b x = opC K M mk au 0 b x := by
      unfold opC opD
      rw [nd_0]
      have q : ∀ A, (nd A (2 ^ d)).testBit x = A.testBit x := fun A => by rw [nd_bit, Nat.testBit_two_pow, decide_eq_false (show ¬ d = x from fun z => hx z.symm)]; simp
      rw [q]
    unfold PL.can
    rw [show (plC K M mk au (2 ^ d) (wR K)).op b x = opC K M mk au (2 ^ d) b x from rfl, show (plC K M mk au 0 (wR K)).op b x = opC K M mk au 0 b x from rfl, e]
    rfl
  have hN : (plC K M mk au (2 ^ d) (wR K)).N = (plC K M mk au 0 (wR K)).N := rfl
  have hG : (plC K M mk au (2 ^ d) (wR K)).G = (plC K M mk au 0 (wR K)).G := rfl
  have hu : ∀ b, (plC K M mk au (2 ^ d) (wR K)).u b = (plC K M mk au 0 (wR K)).u b := fun _ => rfl
  have hG1 : 1 ≤ (plC K M mk au 0 (wR K)).G := show 1 ≤ max 1 (K 2) by omega
  have hF : (plC K M mk au 0 (wR K)).N - frm K ≤ K 0 := show K 0 - frm K ≤ K 0 from Nat.sub_le _ _
  have hz : (plC K M mk au 0 (wR K)).bip (d + 1) (frm K) 0 d = 0 := h
  exact PL.W_taken hN hG hG1 hu hc (K 0) (frm K) 0 hF hz
theorem spoilingDay_ok {w : HW} {kn ks : Nat} {K : Nat → Nat} (W : WF K) (HN : RelN w kn ks) (HC : CC w kn K) {s : Nat} (hs : s ≤ 1) : ∃ w', fX9_spoilingDay w (nI s) = some (aI (mnF (fun _ => true) (fun a => VP K (sB K s) (K 8) 255 (2 ^ a)) (VP K (sB K s) (K 8) 255 0) (K 0)).1, w') ∧ Sx sc w w' := by
  have hb := W.b
  have hfr : frm K ≤ K 0 := Nat.min_le_left _ _
  obtain ⟨w0, p1, p2, p4, p3⟩ := worthOfPlan_ok W HN HC hs
  have ed := days4_L p2 p4 (show K 0 ≤ 14 by omega) (show 1 ≤ max 1 (K 2) by omega) (show max 1 (K 2) ≤ 9 by omega) (plC_pre W) (fun b _ => plC_u (fun b hb => (W.bil hb).2.1) b) (fun b x _ ho => plC_op b x ho) (by omega) FU 0 (Nat.zero_le _) (by rw [FU_eq]; show K 0 - 0 < _; omega)
  have hU : bS (fun y => decide ((plC K (sB K s) (K 8) 255 0 (wR K)).bi (frm K) 0 y ≠ 0)) (plC K (sB K s) (K 8) 255 0 (wR K)).N < 2 ^ 31 := bS_lt31 _ (show K 0 ≤ 31 by omega)
  obtain ⟨w1, p5⟩ := spoilX_L W hs hU FU 0 w0 (Nat.zero_le _) (by rw [FU_eq]; omega) (HN.sx p3) (HC.sx p3)
  rw [mnF_skip (K 0) (fun i hi hq => by
    rw [bS_bit, decide_eq_true (show i < (plC K (sB K s) (K 8) 255 0 (wR K)).N from hi), Bool.true_and, decide_eq_false_iff_not, Decidable.not_not] at hq
    exact VP_taken hq)] at p5
  have e : fX9_spoilingDay w (nI s) = some (aI (mnF (fun _ => true) (fun a => VP K (sB K s) (K 8) 255 (2 ^ a)) (VP K (sB K s) (K 8) 255 0) (K 0)).1, w1) := by
    unfold fX9_spoilingDay
    rw [p1, bW_some]
    unfold fX3_daysOfFirstPlan
    rw [show fX3_daysOfFirstPlan_4 w0 FU 0 0 = _ from ed, bI_some]
    exact p5
  exact ⟨w1, e, rX9_spoilingDay Sx.rf _ _ e⟩
theorem spoilOf_ok {w : HW} {K : Nat → Nat} (W : WF K) (HR : RC w K) (C : RelC w) (hG : 1 ≤ K 2) {s : Nat} (hs : s ≤ 1) : ∃ w', fX10_spoilOf w (nI s) = some (aI (mnF (fun _ => true) (fun a => VP K (sB K s) (K 8) 255 (2 ^ a)) (VP K (sB K s) (K 8) 255 0) (K 0)).1, w') ∧ Sx sc w w' ∧ gI w' 79 33 = nI (mnF (fun _ => true) (fun a => VP K (sB K s) (K 8) 255 (2 ^ a)) (VP K (sB K s) (K 8) 255 0) (K 0)).2 := by
  have hb := W.b
  obtain ⟨w0, q1, q3, _, _, q2⟩ := refPlan_ok W hs HR C hG
  have s1 : Sx sc w (uI w0 79 33 (nI (VP K (sB K s) (K 8) 255 0))) := q2.uI rfl
  have z : ∀ f, sc 79 f = false → gI (uI w0 79 33 (nI (VP K (sB K s) (K 8) 255 0))) 79 f = gI w 79 f := fun f hf => (s1 79 f hf).1
  obtain ⟨w1, r1, r2, r3, r4⟩ := spoilM_L W hG hs FU 0 (uI w0 79 33 (nI (VP K (sB K s) (K 8) 255 0))) (Nat.zero_le _) (by rw [FU_eq]; omega) (HR.sx s1) ⟨(z 29 rfl).trans C.2.2.1, (z 30 rfl).trans C.2.2.2.1, (z 32 rfl).trans C.2.2.2.2⟩ gI_uI_at
  refine ⟨w1, ?_, s1.tr (r2.fin (r3.trans ((z 28 rfl).trans C.2.1).symm)), r4⟩
  unfold fX10_spoilOf
  rw [q1, bW_some, lT_eq]
  exact r1
theorem ag_spoil {w : HW} (H : Rel w) (x : Int32) : Agree w (fX9_spoil · x) (fX10_spoil · x) := by
  obtain ⟨HO, K, W, HR, kn, ks, HN, HC⟩ := id H
  by_cases h : 0 < K 7 ∧ (x = 0 ∨ x = 1)
  · obtain ⟨s, hs, rfl⟩ := side_of h.2
    have hG := (W.2.2.1 h.1).2
    obtain ⟨w1, p1, p3⟩ := spoilingDay_ok W HN HC hs
    obtain ⟨w2, q1, q2, _⟩ := spoilOf_ok W (HR.sx p3) (HO.sx p3).2.2.1 hG hs
    refine ⟨aI (mnF (fun _ => true) (fun a => VP K (sB K s) (K 8) 255 (2 ^ a)) (VP K (sB K s) (K 8) 255 0) (K 0)).1, w1, w2, ?_, ?_, (H.sx p3).sx q2⟩
    · show fX9_spoil w (nI s) = some (aI (mnF (fun _ => true) (fun a => VP K (sB K s) (K 8) 255 (2 ^ a)) (VP K (sB K s) (K 8) 255 0) (K 0)).1, w1)
      unfold fX9_spoil
      simp only [now_ok HN, X0_hasSide_ok HC W, bI_some, if_b01, and_dec]
      rw [if_pos h, p1, bW_some]
    · show fX10_spoil w1 (nI s) = _
      unfold fX10_spoil
      rw [X10_isSide_ok (HR.sx p3) W, bI_some, if_b01, and_dec, if_pos h, q1, bW_some]
  · refine ⟨-2, w, w, ?_, ?_, H⟩
    · show fX9_spoil w x = _
      unfold fX9_spoil
      simp only [now_ok HN, X0_hasSide_ok HC W, bI_some, if_b01, and_dec]
      rw [if_neg h]
    · show fX10_spoil w x = _
      unfold fX10_spoil
      rw [X10_isSide_ok HR W, bI_some, if_b01, and_dec, if_neg h]
theorem ag_spoilt {w : HW} (H : Rel w) (x : Int32) : Agree w (fX9_spoilt · x) (fX10_spoilt · x) := by
  obtain ⟨HO, K, W, HR, kn, ks, HN, HC⟩ := id H
  have hb := W.b
  by_cases h : 0 < K 7 ∧ (x = 0 ∨ x = 1)
  · obtain ⟨s, hs, rfl⟩ := side_of h.2
    have hG := (W.2.2.1 h.1).2
    obtain ⟨w1, p1, p3⟩ := spoilingDay_ok W HN HC hs
    have L := mnF_le (ok := fun _ => true) (v := fun a => VP K (sB K s) (K 8) 255 (2 ^ a)) (m0 := VP K (sB K s) (K 8) 255 0) (K 0)
    have ex : ∃ w2, fX9_spoilt w (nI s) = some (nI (mnF (fun _ => true) (fun a => VP K (sB K s) (K 8) 255 (2 ^ a)) (VP K (sB K s) (K 8) 255 0) (K 0)).2, w2) := by
      unfold fX9_spoilt
      simp only [now_ok HN, X0_hasSide_ok HC W, bI_some, if_b01', and_dec]
      rw [if_pos h, p1, bW_some]
      simp only [now_ok (HN.sx p3)]
      rw [X0_billsOf_ok (HC.sx p3) W (by omega), bI_some, (HC.sx p3).c5, L.2.2]
      cases e : (mnF (fun _ => true) (fun a => VP K (sB K s) (K 8) 255 (2 ^ a)) (VP K (sB K s) (K 8) 255 0) (K 0)).1 with
      | zero =>
        obtain ⟨w2, r1, _, _, _⟩ := worthOfPlans_ok (mk := K 8) (au := 255) (tk := 0) W (HN.sx p3) (HC.sx p3) (sB_256 W s) (lt31 W W.mk) (by omega) (by omega)
        rw [aI_0, if_pos rfl, if_pos rfl, show fX9_worthOfPlans w1 (nI (sB K s)) (nI (K 8)) 255 0 = _ from r1, bW_some]
        exact ⟨w2, rfl⟩
      | succ d =>
        have hd : d < 14 := by have := L.2.1; omega
        obtain ⟨w2, r1, _, _, _⟩ := worthOfPlans_ok (mk := K 8) (au := 255) (tk := 2 ^ d) W (HN.sx p3) (HC.sx p3) (sB_256 W s) (lt31 W W.mk) (by omega) (Nat.pow_lt_pow_right (by omega) (by omega))
        rw [aI_s, if_neg (nI_ne_m1 (by omega)), if_neg (by omega), Nat.add_sub_cancel, iSl_1 (by omega), show fX9_worthOfPlans w1 (nI (sB K s)) (nI (K 8)) 255 (nI (2 ^ d)) = _ from r1, bW_some]
        exact ⟨w2, rfl⟩
    obtain ⟨w2, ex⟩ := ex
    have p5 : Sx sc w w2 := rX9_spoilt Sx.rf _ _ ex
    obtain ⟨w3, q1, q2, q3⟩ := spoilOf_ok W (HR.sx p5) (HO.sx p5).2.2.1 hG hs
    refine ⟨_, w2, w3, ex, ?_, (H.sx p5).sx q2⟩
    show fX10_spoilt w2 (nI s) = _
    unfold fX10_spoilt
    rw [X10_isSide_ok (HR.sx p5) W, bI_some, if_b01', and_dec, if_pos h, q1, bW_some, q3]
  · refine ⟨-2, w, w, ?_, ?_, H⟩
    · show fX9_spoilt w x = _
      unfold fX9_spoilt
      simp only [now_ok HN, X0_hasSide_ok HC W, bI_some, if_b01', and_dec]
      rw [if_neg h]
    · show fX10_spoilt w x = _
      unfold fX10_spoilt
      rw [X10_isSide_ok HR W, bI_some, if_b01', and_dec, if_neg h]
