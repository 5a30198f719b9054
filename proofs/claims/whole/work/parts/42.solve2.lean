/-! PLANS, what the class's planner is laid for -/
/-- the days on which b may be asked for: marks mk, augurs au, one day tk taken -/
def opD (K : Nat → Nat) (mk au tk b : Nat) : Nat := nd (nd (nd (2 ^ K 0 - 1) mk) (skF K (fun a => (au &&& sA K (1 - K (33 + 3 * b))).testBit a) (K 4))) tk
def opC (K : Nat → Nat) (M mk au tk b x : Nat) : Bool := decide (b < K 5) && (M.testBit b && (opD K mk au tk b).testBit x)
def plC (K : Nat → Nat) (M mk au tk : Nat) (u : Nat → Nat) : PL := mkP (K 0) (max 1 (K 2)) (opC K M mk au tk) (fun b => if b < K 5 then K (35 + 3 * b) else 0) (fun b => if b < K 5 then u b else 0)
def frm (K : Nat → Nat) : Nat := min (K 0) (K 2 - K 1)
theorem opD_lt (K : Nat → Nat) (mk au tk b : Nat) : opD K mk au tk b < 2 ^ K 0 := nd_lt (nd_lt (nd_lt (by have := Nat.two_pow_pos (K 0); omega)))
section SL2
variable {w : HW} {k : Nat} {K : Nat → Nat} {M mk au tk : Nat} {u : Nat → Nat}
theorem openBill_L {b D : Nat} (hb : b < 8) (hD : D < 2 ^ 31) (c : Nat → Nat) : ∀ F i (w : HW), i ≤ 14 → 14 - i < F → (∀ x, x < 14 → gI w 16 x = if x < i ∧ D.testBit x = true then nI (c x ||| 2 ^ b) else nI (c x)) → ∃ w', fX3_openBill_2 (nI b) (nI D) F w (nI i) = some w' ∧ (∀ x, x < 14 → gI w' 16 x = nI (if D.testBit x = true then c x ||| 2 ^ b else c x)) ∧ (∀ a f, a ≠ 16 → gI w' a f = gI w a f) := by
  intro F
  induction F with
  | zero => intro i w h1 h2; omega
  | succ F ih =>
    intro i w h1 h2 h
    rw [fX3_openBill_2]
    by_cases hi : i < 14
    · rw [if_pos (show nI i < 14 from nI_lt (b := 14) hi (by omega)), holds_ok w hD (by omega), bI_some, if_b01, nI_1]
      by_cases c1 : D.testBit i = true
      · rw [if_pos c1, if_pos (inB_nI hi (by omega)), if_pos (inB_nI hi (by omega)), ix_nI (by omega), h i hi, if_neg (by omega), iSl_1 (by omega), nI_or, lT_eq]
        obtain ⟨w', p, q, r⟩ := ih (i + 1) (uI w 16 i (nI (c i ||| 2 ^ b))) (by omega) (by omega) (fun x hx => by
          rw [gI_uI]
          by_cases e : x = i
          · subst e; rw [if_pos ⟨rfl, rfl⟩, if_pos ⟨by omega, c1⟩]
          · rw [if_neg (by omega), h x hx]
            by_cases e2 : x < i ∧ D.testBit x = true
            · rw [if_pos e2, if_pos ⟨by omega, e2.2⟩]
            · rw [if_neg e2, if_neg (fun z => e2 ⟨by omega, z.2⟩)])
        exact ⟨w', p, q, fun a f ha => by rw [r a f ha, gI_uI_ne ha]⟩
      · rw [if_neg c1]
        exact ih (i + 1) w (by omega) (by omega) (fun x hx => by
          rw [h x hx]
          by_cases e2 : x < i ∧ D.testBit x = true
          · rw [if_pos e2, if_pos ⟨by omega, e2.2⟩]
          · rw [if_neg e2, if_neg (fun z => e2 ⟨by
              by_cases e : x = i
              · subst e; exact absurd z.2 c1
              · omega, z.2⟩)])
    · have e : i = 14 := by omega
      subst e
      rw [if_neg (show ¬ nI 14 < 14 from nI_nlt (b := 14) (by omega) (by omega))]
      refine ⟨w, rfl, fun x hx => ?_, fun _ _ _ => rfl⟩
      rw [h x hx]
      by_cases e2 : D.testBit x = true
      · rw [if_pos ⟨hx, e2⟩, if_pos e2]
      · rw [if_neg (fun z => e2 z.2), if_neg e2]
theorem solve55_L (W : WF K) (hk : 26 ≤ k) (hM : M < 256) (hmk : mk < 2 ^ 31) (hau : au < 2 ^ 31) (htk : tk < 2 ^ 31) : ∀ F b (w : HW), b ≤ K 5 → K 5 - b < F → CC w k K → (∀ x, x < 14 → gI w 16 x = nI (bS (fun c => opC K M mk au tk c x) b)) → (∀ c, c < b → gI w 15 c = nI (if K (35 + 3 * c) = 0 then 0 else 2 ^ (K (35 + 3 * c) - 1))) → ∃ w', fX3_solve_55 k (nI M) (nI mk) (nI au) (nI tk) F w (nI b) = fX3_solve_155 w' (nI M) ∧ (∀ x, x < 14 → gI w' 16 x = nI (bS (fun c => opC K M mk au tk c x) (K 5))) ∧ (∀ c, c < K 5 → gI w' 15 c = nI (if K (35 + 3 * c) = 0 then 0 else 2 ^ (K (35 + 3 * c) - 1))) ∧ (∀ a f, a ≠ 15 → a ≠ 16 → gI w' a f = gI w a f) := by
  have hb := W.b
  intro F
  induction F with
  | zero => intro b w h1 h2; omega
  | succ F ih =>
    intro b w h1 h2 HC h16 h15
    rw [fX3_solve_55, HC.c10]
    by_cases hbl : b < K 5
    · have hB := W.bil hbl
      have st : ∀ v : Int32, v = nI (if K (35 + 3 * b) = 0 then 0 else 2 ^ (K (35 + 3 * b) - 1)) → ∃ w', fX3_solve_93 w (fun w x6 => fX3_solve_55 k (nI M) (nI mk) (nI au) (nI tk) F w x6) k (nI M) (nI mk) (nI au) (nI tk) (nI b) v (nI b) = fX3_solve_155 w' (nI M) ∧ (∀ x, x < 14 → gI w' 16 x = nI (bS (fun c => opC K M mk au tk c x) (K 5))) ∧ (∀ c, c < K 5 → gI w' 15 c = nI (if K (35 + 3 * c) = 0 then 0 else 2 ^ (K (35 + 3 * c) - 1))) ∧ (∀ a f, a ≠ 15 → a ≠ 16 → gI w' a f = gI w a f) := by
        rintro v rfl
        have HC1 : CC (uI w 15 b (nI (if K (35 + 3 * b) = 0 then 0 else 2 ^ (K (35 + 3 * b) - 1)))) k K := HC.of (fun c x y f => gI_uI_ne (by omega))
        have p15 : ∀ c, c < b + 1 → gI (uI w 15 b (nI (if K (35 + 3 * b) = 0 then 0 else 2 ^ (K (35 + 3 * b) - 1)))) 15 c = nI (if K (35 + 3 * c) = 0 then 0 else 2 ^ (K (35 + 3 * c) - 1)) := fun c hc => by
          by_cases e : c = b
          · subst e; exact gI_uI_at
          · rw [gI_uI_nf e]; exact h15 c (by omega)
        unfold fX3_solve_93
        rw [if_pos (inB_nI (by omega) (by omega)), ix_nI (by omega), lT_eq, holds_ok _ (by omega) (by omega), bI_some, if_b01]
        by_cases c1 : M.testBit b = true
        · have hsl : au &&& sA K (1 - K (33 + 3 * b)) < 2 ^ 31 := and_lt31 hau
          obtain ⟨w1, q1, q2, q3⟩ := openBill_L (b := b) (D := opD K mk au tk b) (by omega) (lt31 W (opD_lt K mk au tk b)) (fun x => bS (fun c => opC K M mk au tk c x) b) FU 0 (uI w 15 b (nI (if K (35 + 3 * b) = 0 then 0 else 2 ^ (K (35 + 3 * b) - 1)))) (by omega) (by rw [FU_eq]; omega) (fun x hx => by rw [if_neg (show ¬ (x < 0 ∧ (opD K mk au tk b).testBit x = true) from fun z => by have := z.1; omega), gI_uI_ne (by omega)]; exact h16 x hx)
          rw [if_pos c1, if_pos (inB_nI (by omega) (by omega)), (HC1.bil hbl).1, one_sub (by omega), X0_augursOf_ok HC1 W (by omega), bI_some, nI_and, X0_skyOf_ok HC1 W hsl, bI_some, X0_allDays_ok HC1 W, bI_some, nI_nd, nI_nd, nI_nd]
          have q1' : fX3_openBill (uI w 15 b (nI (if K (35 + 3 * b) = 0 then 0 else 2 ^ (K (35 + 3 * b) - 1)))) (nI b) (nI (opD K mk au tk b)) = some w1 := q1
          unfold opD at q1'
          rw [q1', bI_some, nI_1]
          obtain ⟨w2, r1, r2, r3, r4⟩ := ih (b + 1) w1 (by omega) (by omega) (HC1.of (fun c x y f => q3 c f (by omega))) (fun x hx => by
            rw [q2 x hx]
            show _ = nI (if opC K M mk au tk b x = true then _ else _)
            unfold opC
            rw [decide_eq_true hbl, c1, Bool.true_and, Bool.true_and]) (fun c hc => by rw [q3 _ _ (by omega)]; exact p15 c hc)
          exact ⟨w2, r1, r2, r3, fun a f h1 h2 => by rw [r4 a f h1 h2, q3 a f h2, gI_uI_ne h1]⟩
        · rw [if_neg c1, nI_1]
          obtain ⟨w2, r1, r2, r3, r4⟩ := ih (b + 1) (uI w 15 b (nI (if K (35 + 3 * b) = 0 then 0 else 2 ^ (K (35 + 3 * b) - 1)))) (by omega) (by omega) HC1 (fun x hx => by
            rw [gI_uI_ne (by omega), h16 x hx]
            show _ = nI (if opC K M mk au tk b x = true then _ else _)
            unfold opC
            rw [show M.testBit b = false by simpa using c1, Bool.false_and, Bool.and_false, if_neg (by decide)]) p15
          exact ⟨w2, r1, r2, r3, fun a f h1 h2 => by rw [r4 a f h1 h2, gI_uI_ne h1]⟩
      rw [if_pos (nI_lt hbl (by omega)), if_pos (inB_nI (by omega) (by omega)), ix_nI (by omega), (HC.bil hbl).2.2, lT_eq]
      by_cases c : K (35 + 3 * b) = 0
      · rw [if_pos ((aI_m1 (by omega)).mpr c)]
        exact st _ (by rw [if_pos c]; rfl)
      · obtain ⟨a, ha⟩ : ∃ a, K (35 + 3 * b) = a + 1 := ⟨K (35 + 3 * b) - 1, by omega⟩
        rw [if_neg (fun z => c ((aI_m1 (by omega)).mp z))]
        exact st _ (by rw [if_neg c, ha, aI_s, iSl_1 (by omega), Nat.add_sub_cancel])
    · have e : b = K 5 := by omega
      subst e
      rw [if_neg (nI_nlt (by omega) (by omega))]
      exact ⟨w, rfl, h16, h15, fun _ _ _ _ => rfl⟩
theorem solve31_L (W : WF K) (hk : 26 ≤ k) (hM : M < 256) (hmk : mk < 2 ^ 31) (hau : au < 2 ^ 31) (htk : tk < 2 ^ 31) : ∀ F i (w : HW), i ≤ 14 → 14 - i < F → CC w k K → (∀ x, x < i → gI w 16 x = 0) → ∃ w', fX3_solve_31 k (nI M) (nI mk) (nI au) (nI tk) F w (nI i) = fX3_solve_155 w' (nI M) ∧ (∀ x, x < 14 → gI w' 16 x = nI (bS (fun c => opC K M mk au tk c x) (K 5))) ∧ (∀ c, c < K 5 → gI w' 15 c = nI (if K (35 + 3 * c) = 0 then 0 else 2 ^ (K (35 + 3 * c) - 1))) ∧ (∀ a f, a ≠ 15 → a ≠ 16 → gI w' a f = gI w a f) := by
  intro F
  induction F with
  | zero => intro b w h1 h2; omega
  | succ F ih =>
    intro i w h1 h2 HC h16
    rw [fX3_solve_31]
    by_cases hi : i < 14
    · rw [if_pos (show nI i < 14 from nI_lt (b := 14) hi (by omega)), if_pos (inB_nI hi (by omega)), ix_nI (by omega), lT_eq, nI_1]
      obtain ⟨w', p, q, r, t⟩ := ih (i + 1) (uI w 16 i 0) (by omega) (by omega) (HC.of (fun c x y f => gI_uI_ne (by omega))) (fun x hx => by
        by_cases e : x = i
        · subst e; exact gI_uI_at
        · rw [gI_uI_nf e]; exact h16 x (by omega))
      exact ⟨w', p, q, r, fun a f h1 h2 => by rw [t a f h1 h2, gI_uI_ne h2]⟩
    · rw [if_neg (show ¬ nI i < 14 from nI_nlt (b := 14) (by omega) (by omega))]
      exact solve55_L W hk hM hmk hau htk FU 0 w (by omega) (by have := W.b; rw [FU_eq]; omega) HC (fun x hx => h16 x (by omega)) (fun c hc => by omega)
theorem solve_ok (HC : CC w k K) (W : WF K) (hk : 26 ≤ k) (hM : M < 256) (hmk : mk < 2 ^ 31) (hau : au < 2 ^ 31) (htk : tk < 2 ^ 31) (hu : ∀ b, b < K 5 → u b ≤ 99 ∧ gI w 14 b = nI (u b)) : ∃ w', fX3_solve w k (nI M) (nI mk) (nI au) (nI tk) = some (nI ((plC K M mk au tk u).W (frm K) 0).1, w') ∧ PX (plC K M mk au tk u) (frm K) w' ∧ TD (plC K M mk au tk u) M (frm K) w' (frm K) := by
  have hb := W.b
  have hfr : frm K ≤ K 0 := Nat.min_le_left _ _
  unfold fX3_solve
  have HC3 : CC (uI (uI (uI w 11 5 (nI (frm K))) 11 6 (nI (K 0))) 11 7 (nI (max 1 (K 2)))) k K := HC.of (fun c x y f => by rw [gI_uI_ne (by omega), gI_uI_ne (by omega), gI_uI_ne (by omega)])
  obtain ⟨w1, p1, p2, p3, p4⟩ := solve31_L W hk hM hmk hau htk FU 0 (uI (uI (uI w 11 5 (nI (frm K))) 11 6 (nI (K 0))) 11 7 (nI (max 1 (K 2)))) (by omega) (by rw [FU_eq]; omega) HC3 (fun x hx => by omega)
  have e7 : iMx 1 (nI (K 2)) = nI (max 1 (K 2)) := iMx_nI (a := 1) (by omega) (by omega)
  rw [X0_firstHungryDay_ok HC W, bI_some, lT_eq, lT_eq, lT_eq, show nI (min (K 0) (K 2 - K 1)) = nI (frm K) from rfl, gI_uI_ne (by omega), HC.c1, gI_uI_ne (by omega), gI_uI_ne (by omega), HC.c3, e7]
  rw [show fX3_solve_31 k (nI M) (nI mk) (nI au) (nI tk) FU (uI (uI (uI w 11 5 (nI (frm K))) 11 6 (nI (K 0))) 11 7 (nI (max 1 (K 2)))) 0 = _ from p1]
  have hop : ∀ b x, opC K M mk au tk b x = true → b < K 5 ∧ M.testBit b = true := fun b x h => by
    unfold opC at h
    rw [Bool.and_eq_true, decide_eq_true_eq, Bool.and_eq_true] at h
    exact ⟨h.1, h.2.1⟩
  have P1 : PX (plC K M mk au tk u) (frm K) w1 := by
    refine ⟨?_, ?_, ?_, fun x hx => ?_, fun b x hx ho => ?_⟩
    · rw [p4 _ _ (by omega) (by omega), gI_uI_nf (by omega), gI_uI_nf (by omega), gI_uI_at]
    · rw [p4 _ _ (by omega) (by omega), gI_uI_nf (by omega), gI_uI_at]; rfl
    · rw [p4 _ _ (by omega) (by omega), gI_uI_at]; rfl
    · have hx' : x < K 0 := hx
      rw [p2 x (by omega)]
      refine congrArg nI ?_
      apply Nat.eq_of_testBit_eq
      intro i
      rw [bS_bit, bS_bit]
      show _ = (decide (i < 8) && opC K M mk au tk i x)
      by_cases q : opC K M mk au tk i x = true
      · have := (hop i x q).1
        rw [q, decide_eq_true this, decide_eq_true (show i < 8 by omega)]
      · rw [show opC K M mk au tk i x = false by simpa using q, Bool.and_false, Bool.and_false]
    · have hbl := (hop b x ho).1
      refine ⟨by omega, ?_, ?_⟩
      · rw [p3 b hbl]
        show _ = nI (if (if b < K 5 then K (35 + 3 * b) else 0) = 0 then 0 else _)
        show _ = nI (if (if b < K 5 then K (35 + 3 * b) else 0) = 0 then 0 else 2 ^ ((if b < K 5 then K (35 + 3 * b) else 0) - 1))
        rw [if_pos hbl]
      · rw [p4 _ _ (by omega) (by omega), gI_uI_ne (by omega), gI_uI_ne (by omega), gI_uI_ne (by omega), (hu b hbl).2]
        show _ = nI (if b < K 5 then u b else 0)
        rw [if_pos hbl]
  have hGm : (plC K M mk au tk u).G = max 1 (K 2) := rfl
  obtain ⟨w2, q1, q2, q3⟩ := goBack_ok (p := plC K M mk au tk u) (fr := frm K) (M := M) (show K 0 ≤ 14 by omega) (show 1 ≤ max 1 (K 2) by omega) (show max 1 (K 2) ≤ 9 by omega) (fun b => by
    show (if b < K 5 then K (35 + 3 * b) else 0) ≤ 8
    by_cases q : b < K 5
    · rw [if_pos q]; have := W.bil q; omega
    · rw [if_neg q]; omega) (fun b hb8 => by
    show (if b < K 5 then u b else 0) ≤ 99
    by_cases q : b < K 5
    · rw [if_pos q]; exact (hu b q).1
    · rw [if_neg q]; omega) (fun b x _ ho => (hop b x ho).2) hM (by omega) P1
  refine ⟨w2, ?_, q2, q3⟩
  unfold fX3_solve_155
  have z := q3 (frm K) 0 (by omega) (Nat.le_refl _) hfr (Nat.zero_and M) (Or.inr (by rw [show cB 0 14 = 0 from rfl, Nat.zero_mul, Nat.zero_add]; exact Nat.le_refl _))
  rw [q1, bI_some, q2.1, m256, if_pos (inB_nI (by omega) (by omega)), ix_nI (by omega)]
  rw [Nat.add_zero] at z
  rw [z.1]
end SL2
