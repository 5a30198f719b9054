/-! PLANS: the first plan, on both sides -/
def PL.bi (p : PL) (x s y : Nat) : Nat := p.bip (y + 1) x s y
theorem PL.bi_lt (p : PL) (hG : 1 ≤ p.G) {x s y : Nat} (h : x < y) : p.bi x s y = if p.fb x s = 0 then p.bi (x + 1) s y else p.bi (x + p.G) (s ||| 2 ^ (p.fb x s - 1)) y := by
  unfold PL.bi
  rw [p.bip_fuel hG (y + 1) y (x + 1) s (by omega) (by omega), p.bip_fuel hG (y + 1) y (x + p.G) _ (by omega) (by omega)]
  show (if x < y then _ else _) = _
  rw [if_pos h]
theorem PL.bi_eq (p : PL) {s y : Nat} : p.bi y s y = p.fb y s := by
  show (if y < y then _ else if y = y then _ else _) = _
  rw [if_neg (by omega), if_pos rfl]
theorem PL.bi_gt (p : PL) {x s y : Nat} (h : y < x) : p.bi x s y = 0 := by
  show (if x < y then _ else if x = y then _ else _) = _
  rw [if_neg (by omega), if_neg (by omega)]
theorem PL.fb_le (p : PL) {x s : Nat} : p.fb x s ≤ 8 := by
  unfold PL.fb
  split
  · split
    · omega
    · cases e : fsF (p.eqb x s) 8 with
      | zero => omega
      | succ b => have := ((fsF_s 8).mp e).1; omega
  · omega
section FBX
variable {w : HW} {p : PL} {fr M : Nat}
theorem firstBill77_L (P : PX p fr w) (T : TD p M fr w fr) (hN : p.N ≤ 14) (hG : 1 ≤ p.G) (hp : ∀ b, p.pre b ≤ 8) (hu : ∀ b, b < 8 → p.u b ≤ 99) (hM : ∀ b x, x < p.N → p.op b x = true → M.testBit b = true) {x s : Nat} (hx : x < p.N) (hs : s < 256) (hsM : s &&& M = s) (hcs : cB s 14 * p.G + fr ≤ x) (hG9 : p.G ≤ 9) : ∀ F b, b ≤ 8 → 8 - b < F → (∀ c, c < b → p.eqb x s c = false) → fX3_firstBill_77 w (nI s) (nI (x * 256 + s)) (nI (min p.N (x + p.G) * 256)) (nI (nd (bS (fun b => p.op b x) 8) s)) F (nI b) = some (aI (fsF (p.eqb x s) 8)) := by
  have hW : ∀ x s, (p.W x s).1 ≤ 99 * 14 := fun x s => Nat.le_trans (p.W_le hu p.N x s) (Nat.mul_le_mul (Nat.le_refl _) hN)
  have h7 : nd (bS (fun b => p.op b x) 8) s < 2 ^ 8 := nd_lt (bS_lt _ _)
  intro F
  induction F with
  | zero => intro b h1 h2; omega
  | succ F ih =>
    intro b h1 h2 h3
    rw [fX3_firstBill_77]
    by_cases hb : b < 8
    · have nx : p.eqb x s b = false → fX3_firstBill_77 w (nI s) (nI (x * 256 + s)) (nI (min p.N (x + p.G) * 256)) (nI (nd (bS (fun b => p.op b x) 8) s)) F (nI (b + 1)) = some (aI (fsF (p.eqb x s) 8)) := fun hn => ih (b + 1) (by omega) (by omega) (fun c hc => by
        by_cases e : c = b
        · subst e; exact hn
        · exact h3 c (by omega))
      have eb : (nd (bS (fun b => p.op b x) 8) s).testBit b = (p.op b x && !s.testBit b) := by rw [nd_bit, bS_bit, decide_eq_true hb, Bool.true_and]
      rw [if_pos (show nI b < 8 from nI_lt (b := 8) hb (by omega)), holds_ok w (by omega) (by omega), bI_some, if_b01, eb]
      by_cases c1 : (p.op b x && !s.testBit b) = true
      · have ho : p.op b x = true := by
          cases q : p.op b x with
          | true => rfl
          | false => rw [q] at c1; cases c1
        have hns : s.testBit b = false := by
          cases q : s.testBit b with
          | false => rfl
          | true => rw [q] at c1; simp at c1
        have hpre := pre_ok P hp (s := s) hx ho
        have ec : p.can x s b = (decide (p.pre b = 0) || s.testBit (p.pre b - 1)) := by
          unfold PL.can
          rw [← Bool.and_assoc, c1, Bool.true_and]
        rw [if_pos c1, if_pos (inB_nI hb (by omega)), ix_nI (by omega)]
        by_cases c2 : (decide (p.pre b = 0) || s.testBit (p.pre b - 1)) = true
        · have hcan : p.can x s b = true := ec.trans c2
          have hl := lt256 hs hb
          have hub := hu b hb
          have hWb := hW (x + p.G) (s ||| 2 ^ b)
          have hWx := hW x s
          have eW : p.W (min p.N (x + p.G)) (s ||| 2 ^ b) = p.W (x + p.G) (s ||| 2 ^ b) := by
            by_cases q : p.N ≤ x + p.G
            · rw [Nat.min_eq_left q, p.W_big (Nat.le_refl _), p.W_big q]
            · rw [Nat.min_eq_right (by omega)]
          have t1 := T (min p.N (x + p.G)) (s ||| 2 ^ b) hl (by omega) (by omega) (sub_or hsM (hM b x hx ho)) (by rw [cB_or hns 14 (by omega), Nat.succ_mul]; omega)
          have t2 := T x s hs (by omega) (by omega) hsM (Or.inr hcs)
          rw [if_pos (hpre.mpr c2)]
          unfold fX3_firstBill_113
          rw [if_pos (show ¬ (1 : Int32) = 0 by decide), if_pos (inB_nI hb (by omega)), iSl_1 (by omega), nI_or, nI_add, if_pos (inB_nI (by omega) (by omega)), if_pos (inB_nI (by omega) (by omega)), ix_nI (n := b) (by omega), ix_nI (n := min p.N (x + p.G) * 256 + (s ||| 2 ^ b)) (by omega), ix_nI (n := x * 256 + s) (by omega), t1.1, t2.1, (P.2.2.2.2 b x hx ho).2.2, nI_add, eW]
          by_cases c3 : p.u b + (p.W (x + p.G) (s ||| 2 ^ b)).1 = (p.W x s).1
          · rw [if_pos (congrArg nI c3), (fsF_s 8).mpr ⟨hb, by unfold PL.eqb; rw [hcan, decide_eq_true c3]; rfl, h3⟩, aI_s]
          · rw [if_neg (fun z => c3 ((nI_eqv (by omega) (by omega)).mp z)), nI_1]
            exact nx (by unfold PL.eqb; rw [decide_eq_false c3, Bool.and_false])
        · rw [if_neg (fun z => c2 (hpre.mp z))]
          unfold fX3_firstBill_113
          rw [if_neg (show ¬ ¬ (0 : Int32) = 0 by decide), nI_1]
          exact nx (by unfold PL.eqb; rw [ec, show (decide (p.pre b = 0) || s.testBit (p.pre b - 1)) = false by simpa using c2, Bool.false_and])
      · rw [if_neg c1]
        unfold fX3_firstBill_113
        rw [if_neg (show ¬ ¬ (0 : Int32) = 0 by decide), nI_1]
        exact nx (by unfold PL.eqb PL.can; rw [← Bool.and_assoc (p.op b x), show (p.op b x && !s.testBit b) = false by simpa using c1, Bool.false_and, Bool.false_and])
    · have e : b = 8 := by omega
      subst e
      rw [if_neg (show ¬ nI 8 < 8 from nI_nlt (b := 8) (by omega) (by omega)), (fsF_0 8).mpr h3]
      rfl
theorem firstBill_ok (P : PX p fr w) (T : TD p M fr w fr) (hN : p.N ≤ 14) (hG : 1 ≤ p.G) (hG9 : p.G ≤ 9) (hp : ∀ b, p.pre b ≤ 8) (hu : ∀ b, b < 8 → p.u b ≤ 99) (hM : ∀ b x, x < p.N → p.op b x = true → M.testBit b = true) {x s : Nat} (hx : x < p.N) (hs : s < 256) (hsM : s &&& M = s) (hcs : cB s 14 * p.G + fr ≤ x) : fX3_firstBill w (nI x) (nI s) = some (aI (p.fb x s)) := by
  have hW : ∀ x s, (p.W x s).1 ≤ 99 * 14 := fun x s => Nat.le_trans (p.W_le hu p.N x s) (Nat.mul_le_mul (Nat.le_refl _) hN)
  have h1 := hW x s
  have h2 := hW (x + 1) s
  have t1 := T (x + 1) s hs (by omega) (by omega) hsM (Or.inr (by omega))
  have t2 := T x s hs (by omega) (by omega) hsM (Or.inr hcs)
  have hb8 : bS (fun b => p.op b x) 8 < 2 ^ 31 := bS_lt31 _ (by omega)
  unfold fX3_firstBill PL.fb
  rw [if_pos (nI_pos (by omega)), P.2.1, if_neg (fun z => z (nI_lt hx (by omega))), p256, lT_eq, show nI (x * 256 + s) + 256 = nI ((x + 1) * 256 + s) from by rw [show (256 : Int32) = nI 256 from rfl, nI_add]; exact congrArg nI (by omega), if_pos (inB_nI (by omega) (by omega)), if_pos (inB_nI (by omega) (by omega)), ix_nI (n := (x + 1) * 256 + s) (by omega), ix_nI (n := x * 256 + s) (by omega), t1.1, t2.1, if_pos hx]
  by_cases c : (p.W (x + 1) s).1 = (p.W x s).1
  · rw [if_pos (congrArg nI c), if_pos c]
    rfl
  · rw [if_neg (fun z => c ((nI_eqv (by omega) (by omega)).mp z)), if_neg c, P.2.2.1, nI_add, iMn_nI (by omega) (by omega), m256, lT_eq, if_pos (inB_nI (by omega) (by omega)), ix_nI (n := x) (by omega), P.2.2.2.1 x hx, nI_nd, lT_eq]
    exact firstBill77_L P T hN hG hp hu hM hx hs hsM hcs hG9 FU 0 (by omega) (by rw [FU_eq]; omega) (fun c hc => by omega)
theorem bill7_L (P : PX p fr w) (T : TD p M fr w fr) (hN : p.N ≤ 14) (hG : 1 ≤ p.G) (hG9 : p.G ≤ 9) (hp : ∀ b, p.pre b ≤ 8) (hu : ∀ b, b < 8 → p.u b ≤ 99) (hM : ∀ b x, x < p.N → p.op b x = true → M.testBit b = true) {y : Nat} (hy : y < p.N) : ∀ F x s i, y + 1 - x < F → x ≤ 30 → s < 256 → s &&& M = s → cB s 14 * p.G + fr ≤ x → i ≤ x → fX3_billInFirstPlan_10 w (nI y) F (nI s) (nI x) (nI i) = some (aI (p.bi x s y)) := by
  intro F
  induction F with
  | zero => intro x s i h1; omega
  | succ F ih =>
    intro x s i h1 h2 hs hsM hcs hi
    have out : ¬ x < y → fX3_billInFirstPlan_62 w (nI y) (nI s) (nI x) = some (aI (p.bi x s y)) := by
      intro c
      unfold fX3_billInFirstPlan_62
      by_cases e : x = y
      · subst e
        rw [if_pos rfl, firstBill_ok P T hN hG hG9 hp hu hM hy hs hsM hcs, bI_some, p.bi_eq]
      · rw [if_neg (fun z => e ((nI_eqv (by omega) (by omega)).mp z)), p.bi_gt (by omega)]
        rfl
    rw [fX3_billInFirstPlan_10]
    by_cases c14 : i < 14
    case neg =>
      rw [if_neg (show ¬ nI i < 14 from nI_nlt (b := 14) (by omega) (by omega))]
      exact out (by omega)
    rw [if_pos (show nI i < 14 from nI_lt (b := 14) c14 (by omega))]
    by_cases c : x < y
    · rw [if_pos (nI_lt c (by omega)), firstBill_ok P T hN hG hG9 hp hu hM (show x < p.N by omega) hs hsM hcs, bI_some, p.bi_lt hG c]
      cases e : p.fb x s with
      | zero =>
        rw [aI_0, if_pos rfl, if_pos rfl, nI_1, nI_1]
        exact ih (x + 1) s (i + 1) (by omega) (by omega) hs hsM (by omega) (by omega)
      | succ b =>
        obtain ⟨b8, f1, f2, _, _⟩ := p.fb_s (show x < p.N by omega) e
        have ho : p.op b x = true := by
          unfold PL.can at f1
          cases q : p.op b x with
          | true => rfl
          | false => rw [q] at f1; cases f1
        have hns : s.testBit b = false := by
          unfold PL.can at f1
          cases q : s.testBit b with
          | false => rfl
          | true => rw [q] at f1; simp at f1
        rw [aI_s, if_neg (nI_ne_m1 (by omega)), if_neg (by omega), Nat.add_sub_cancel, iSl_1 (by omega), nI_or, lT_eq, P.2.2.1, nI_add, lT_eq, nI_1]
        exact ih (x + p.G) (s ||| 2 ^ b) (i + 1) (by omega) (by omega) (lt256 hs b8) (sub_or hsM (hM b x (by omega) ho)) (by rw [cB_or hns 14 (by omega), Nat.succ_mul]; omega) (by omega)
    · rw [if_neg (nI_nlt (by omega) (by omega))]
      exact out c
theorem bill_ok (P : PX p fr w) (T : TD p M fr w fr) (hN : p.N ≤ 14) (hG : 1 ≤ p.G) (hG9 : p.G ≤ 9) (hp : ∀ b, p.pre b ≤ 8) (hu : ∀ b, b < 8 → p.u b ≤ 99) (hM : ∀ b x, x < p.N → p.op b x = true → M.testBit b = true) (hfr : fr ≤ 14) {y : Nat} (hy : y < p.N) : fX3_billInFirstPlan w (nI y) = some (aI (p.bi fr 0 y)) := by
  unfold fX3_billInFirstPlan
  rw [P.1, lT_eq]
  exact bill7_L P T hN hG hG9 hp hu hM hy FU fr 0 0 (by rw [FU_eq]; omega) (by omega) (by omega) (Nat.zero_and _) (by rw [show cB 0 14 = 0 from rfl, Nat.zero_mul, Nat.zero_add]; exact Nat.le_refl _) (Nat.zero_le _)
theorem days4_L (P : PX p fr w) (T : TD p M fr w fr) (hN : p.N ≤ 14) (hG : 1 ≤ p.G) (hG9 : p.G ≤ 9) (hp : ∀ b, p.pre b ≤ 8) (hu : ∀ b, b < 8 → p.u b ≤ 99) (hM : ∀ b x, x < p.N → p.op b x = true → M.testBit b = true) (hfr : fr ≤ 14) : ∀ F y, y ≤ p.N → p.N - y < F → fX3_daysOfFirstPlan_4 w F (nI (bS (fun y => decide (p.bi fr 0 y ≠ 0)) y)) (nI y) = some (nI (bS (fun y => decide (p.bi fr 0 y ≠ 0)) p.N)) := by
  intro F
  induction F with
  | zero => intro y h1 h2; omega
  | succ F ih =>
    intro y h1 h2
    rw [fX3_daysOfFirstPlan_4, P.2.1]
    by_cases hy : y < p.N
    · have i1 := ih (y + 1) (by omega) (by omega)
      rw [bS] at i1
      rw [if_pos (nI_lt hy (by omega)), bill_ok P T hN hG hG9 hp hu hM hfr hy, bI_some]
      cases e : p.bi fr 0 y with
      | zero =>
        rw [e] at i1
        rw [aI_0, if_neg (fun z => z rfl), nI_1]
        exact i1
      | succ b =>
        have hb : b < 2 ^ 31 := by
          have L : ∀ F x s, p.bip F x s y ≤ 8 := by
            intro F
            induction F with
            | zero => intro x s; exact Nat.zero_le _
            | succ F ih2 =>
              intro x s
              unfold PL.bip
              split
              · split
                · exact ih2 _ _
                · exact ih2 _ _
              · split
                · exact p.fb_le
                · omega
          have := L (y + 1) fr 0
          unfold PL.bi at e
          omega
        rw [e] at i1
        rw [aI_s, if_pos (nI_ne_m1 hb), iSl_1 (by omega), nI_or, lT_eq, nI_1]
        exact i1
    · have e : y = p.N := by omega
      rw [if_neg (nI_nlt (by omega) (by omega)), e]
end FBX
section PLM
variable {K : Nat → Nat} {t28 t29 t30 s bn : Nat} {p p1 : PL} {w : HW}
theorem pl102_L (W : WF K) (P : PH K t28 t29 t30 s bn p (fun b => K (34 + 3 * b))) (hG : 1 ≤ K 2) (HR : RC w K) (O : OL K t28 t29 t30 s bn w (K 5)) (T : TF K s bn p p1 w 0) {d S bf : Nat} (hd : d < K 0) (hS : S < 2 ^ cN (ow K s bn) (K 5)) (hf : p.fb d (idS (ow K s bn) (K 5) S) = bf + 1) (Q : HW → Int32 → Int32 → Int32 → Int32 → Option (Int32 × HW)) (x2 x3 : Int32) : ∀ n b, b ≤ bf → bf - b = n → ∀ F, n < F → fX10_planned_102 Q x2 x3 (nI S) (nI d) (nI (stR d (K 2) S)) F w (nI (cN (ow K s bn) b)) = fX10_planned_192 w Q x2 (nI S) (nI (cN (ow K s bn) bf)) (nI d) 1 := by
  have hb := W.b
  have hS8 := p2_lt256 W hS
  obtain ⟨pN, pG, pu, pu9, pc, po⟩ := P
  obtain ⟨b8, f1, f2, f3, f4⟩ := p.fb_s (by omega) hf
  have hbf : bf < K 5 := by
    apply Nat.lt_of_not_le
    intro z
    rw [po bf d _ z] at f1
    cases f1
  have hx : stR d (K 2) S < 38400 := stR_lt (by omega) (by omega) hS8
  have B1 : inB (nI (stR d (K 2) S)) 38400 = true := inB_nI hx (by omega)
  have e1 : ix (nI (stR d (K 2) S)) = stR d (K 2) S := ix_nI (by omega)
  have t0 := (T d (K 2) S (Nat.zero_le _) (by omega) (Nat.le_refl _) hS).1
  rw [Nat.sub_self, Nat.add_zero] at t0
  have hc5 := cN_le (ow K s bn) (K 5)
  have g1 := p.W_le' (by omega) pu9 d (idS (ow K s bn) (K 5) S)
  intro n
  induction n with
  | zero =>
    intro b h1 h2 F hF
    have e : b = bf := by omega
    subst e
    obtain ⟨F, rfl⟩ : ∃ E, F = E + 1 := ⟨F - 1, by omega⟩
    have can1 := pc b d (idS (ow K s bn) (K 5) S) hbf
    rw [f1] at can1
    have z : ow K s bn b = true := by
      cases q : ow K s bn b with
      | true => rfl
      | false => rw [q] at can1; cases can1
    rw [z, Bool.true_and] at can1
    have c1 : (fdS K t28 t29 t30 (K (33 + 3 * b))).testBit d = true := by
      cases q : (fdS K t28 t29 t30 (K (33 + 3 * b))).testBit d with
      | true => rfl
      | false => rw [q] at can1; cases can1
    have c2 : mayI K (idS (ow K s bn) (K 5) S) b = true := by
      cases q : mayI K (idS (ow K s bn) (K 5) S) b with
      | true => rfl
      | false => rw [q, Bool.and_false] at can1; cases can1
    have hlt := cN_lt hbf z
    have hk : inB (nI (cN (ow K s bn) b)) 8 = true := inB_nI (by omega) (by omega)
    have ek : ix (nI (cN (ow K s bn) b)) = cN (ow K s bn) b := ix_nI (by omega)
    have hT : S ||| 2 ^ cN (ow K s bn) b < 2 ^ cN (ow K s bn) (K 5) := or_lt hS (Nat.pow_lt_pow_right (by omega) hlt)
    have hn : stR (d + 1) 1 (S ||| 2 ^ cN (ow K s bn) b) < 38400 := stR_lt (by omega) (by omega) (p2_lt256 W hT)
    have t1 := (T (d + 1) 1 _ (Nat.zero_le _) (by omega) hG hT).1
    rw [idS_or hbf z, show d + 1 + (K 2 - 1) = d + p.G by omega] at t1
    rw [pu b hbf] at f2
    rw [fX10_planned_102, if_pos hk, ek, (O.2 b hbf z).2, bit_ok w (fdS_31 W _) (by omega), bI_some, if_b01, if_pos c1, mayPass_ok W HR O hS8 hbf z, bI_some, if_b01, if_pos c2, if_pos hk, (O.2 b hbf z).1, X10_of_1 HR W hbf, bI_some, iSl_1 (by omega), nI_or, nI_1, show fX10_state w (nI (d + 1)) 1 (nI (S ||| 2 ^ cN (ow K s bn) b)) = _ from state_ok w (d + 1) 1 _, bI_some, if_pos (inB_nI hn (by omega)), if_pos B1, ix_nI (by omega), e1, t1, t0, nI_add, if_neg (fun z => z (congrArg nI f2)), if_neg (nI_ne_m1 (by omega))]
  | succ n ih =>
    intro b h1 h2 F hF
    have hbl : b < K 5 := by omega
    have nq := f3 b (by omega)
    have can1 := pc b d (idS (ow K s bn) (K 5) S) hbl
    cases z : ow K s bn b with
    | false =>
      have e := ih (b + 1) (by omega) (by omega) F (by omega)
      rw [cN_s, z, if_neg (by decide), Nat.add_zero] at e
      exact e
    | true =>
      obtain ⟨F, rfl⟩ : ∃ E, F = E + 1 := ⟨F - 1, by omega⟩
      have e := ih (b + 1) (by omega) (by omega) F (by omega)
      rw [cN_s, z, if_pos rfl] at e
      rw [z, Bool.true_and] at can1
      have hlt := cN_lt hbl z
      have hk : inB (nI (cN (ow K s bn) b)) 8 = true := inB_nI (by omega) (by omega)
      have ek : ix (nI (cN (ow K s bn) b)) = cN (ow K s bn) b := ix_nI (by omega)
      rw [fX10_planned_102, if_pos hk, ek, (O.2 b hbl z).2, bit_ok w (fdS_31 W _) (by omega), bI_some, if_b01]
      cases c1 : (fdS K t28 t29 t30 (K (33 + 3 * b))).testBit d with
      | false => rw [if_neg (by decide), nI_1]; exact e
      | true =>
        rw [if_pos rfl, mayPass_ok W HR O hS8 hbl z, bI_some, if_b01]
        cases c2 : mayI K (idS (ow K s bn) (K 5) S) b with
        | false => rw [if_neg (by decide), nI_1]; exact e
        | true =>
          have hT : S ||| 2 ^ cN (ow K s bn) b < 2 ^ cN (ow K s bn) (K 5) := or_lt hS (Nat.pow_lt_pow_right (by omega) hlt)
          have hn : stR (d + 1) 1 (S ||| 2 ^ cN (ow K s bn) b) < 38400 := stR_lt (by omega) (by omega) (p2_lt256 W hT)
          have t1 := (T (d + 1) 1 _ (Nat.zero_le _) (by omega) hG hT).1
          rw [idS_or hbl z, show d + 1 + (K 2 - 1) = d + p.G by omega] at t1
          have g2 := p.W_le' (by omega) pu9 (d + p.G) (idS (ow K s bn) (K 5) S ||| 2 ^ b)
          have g5 := (W.bil hbl).2.1
          have ne : ¬ K (34 + 3 * b) + (p.W (d + p.G) (idS (ow K s bn) (K 5) S ||| 2 ^ b)).1 = (p.W d (idS (ow K s bn) (K 5) S)).1 := by
            intro q
            unfold PL.eqb at nq
            rw [can1, c1, c2, pu b hbl, decide_eq_true q] at nq
            cases nq
          rw [if_pos rfl, if_pos hk, (O.2 b hbl z).1, X10_of_1 HR W hbl, bI_some, iSl_1 (by omega), nI_or, nI_1, show fX10_state w (nI (d + 1)) 1 (nI (S ||| 2 ^ cN (ow K s bn) b)) = _ from state_ok w (d + 1) 1 _, bI_some, if_pos (inB_nI hn (by omega)), if_pos B1, ix_nI (by omega), e1, t1, t0, nI_add, if_pos (fun z => ne ((nI_eqv (by omega) (by omega)).mp z)), nI_1]
          exact e
theorem pl51_L (W : WF K) (P : PH K t28 t29 t30 s bn p (fun b => K (34 + 3 * b))) (hG : 1 ≤ K 2) (HR : RC w K) (O : OL K t28 t29 t30 s bn w (K 5)) (T : TF K s bn p p1 w 0) {y : Nat} (hy : y < K 0) (R : Int32) : ∀ F d h S (x5 : Int32), d ≤ y + 1 → y + 1 - d < F → h ≤ K 2 → S < 2 ^ cN (ow K s bn) (K 5) → (d ≤ y → R = aI (p.bi (d + (K 2 - h)) (idS (ow K s bn) (K 5) S) y)) → (d = y + 1 → fX10_planned_218 w x5 = some (R, w)) → fX10_planned_51 (nI y) F w (nI h) (nI S) x5 (nI d) = some (R, w) := by
  have hb := W.b
  have pG := P.2.1
  have pN := P.1
  have hc5 := cN_le (ow K s bn) (K 5)
  intro F
  induction F with
  | zero => intro d h S x5 h1 h2; omega
  | succ F ih =>
    intro d h S x5 h1 h2 hh hS hR h5
    have hS8 := p2_lt256 W hS
    rw [fX10_planned_51]
    by_cases hd : d ≤ y
    · have hR := hR hd
      have hx : stR d h S < 38400 := stR_lt (by omega) (by omega) hS8
      have hn : stR (d + 1) (min (K 2) (h + 1)) S < 38400 := stR_lt (by omega) (by omega) hS8
      have t0 := (T d h S (Nat.zero_le _) (by omega) hh hS).1
      have t1 := (T (d + 1) (min (K 2) (h + 1)) S (Nat.zero_le _) (by omega) (by omega) hS).1
      have g1 := p.W_le' (by omega) P.2.2.2.1 (d + (K 2 - h)) (idS (ow K s bn) (K 5) S)
      have g2 := p.W_le' (by omega) P.2.2.2.1 (d + 1 + (K 2 - min (K 2) (h + 1))) (idS (ow K s bn) (K 5) S)
      rw [if_pos (nI_nlt hd (by omega)), state_ok, bI_some, then_ok W HR (by omega), bI_some, nI_1, state_ok, bI_some, if_pos (inB_nI hn (by omega)), if_pos (inB_nI hx (by omega)), ix_nI (n := stR (d + 1) (min (K 2) (h + 1)) S) (by omega), ix_nI (n := stR d h S) (by omega), t0, t1]
      have skip : (d + 1 ≤ y → R = aI (p.bi (d + 1 + (K 2 - min (K 2) (h + 1))) (idS (ow K s bn) (K 5) S) y)) → (d = y → R = -1) → (if ((-1) : Int32) = (-1) then bI (some (nI (min (K 2) (h + 1)))) fun r_23 => fX10_planned_192 w (fun w x3 x4 x5 x6 => fX10_planned_51 (nI y) F w x3 x4 x5 x6) (nI y) (nI S) (-1) (nI d) r_23 else fX10_planned_192 w (fun w x3 x4 x5 x6 => fX10_planned_51 (nI y) F w x3 x4 x5 x6) (nI y) (nI S) (-1) (nI d) 1) = some (R, w) := by
        intro k1 k2
        rw [if_pos rfl, bI_some]
        unfold fX10_planned_192
        rw [if_pos rfl, show nI S ||| (0 : Int32) = nI S from by rw [n0, nI_or, Nat.or_zero], lT_eq, nI_1]
        refine ih (d + 1) (min (K 2) (h + 1)) S (-1) (by omega) (by omega) (by omega) hS k1 (fun e => ?_)
        unfold fX10_planned_218
        rw [if_pos rfl, k2 (by omega)]
      by_cases hl : h < K 2
      · have ed : d + 1 + (K 2 - min (K 2) (h + 1)) = d + (K 2 - h) := by omega
        rw [ed] at skip ⊢
        rw [if_neg (fun z => z rfl)]
        exact skip (fun _ => hR) (fun e => by rw [hR, p.bi_gt (by omega)]; rfl)
      · have eh : h = K 2 := by omega
        subst eh
        have ed : d + 1 + (K 2 - min (K 2) (K 2 + 1)) = d + 1 := by omega
        rw [ed] at skip g2 ⊢
        have ed0 : d + (K 2 - K 2) = d := by omega
        rw [ed0] at hR g1 ⊢
        by_cases c : (p.W (d + 1) (idS (ow K s bn) (K 5) S)).1 = (p.W d (idS (ow K s bn) (K 5) S)).1
        · have f0 := (p.fb_0 (by omega) (show d < p.N by omega)).mpr c
          rw [if_neg (fun z => z (congrArg nI c))]
          refine skip (fun e => ?_) (fun e => ?_)
          · rw [hR, p.bi_lt (by omega) (by omega), if_pos f0]
          · subst e; rw [hR, p.bi_eq, f0]; rfl
        · rw [if_pos (fun z => c ((nI_eqv (by omega) (by omega)).mp z))]
          obtain ⟨bf, hf⟩ : ∃ bf, p.fb d (idS (ow K s bn) (K 5) S) = bf + 1 := ⟨p.fb d (idS (ow K s bn) (K 5) S) - 1, by
            have := mt (p.fb_0 (by omega) (show d < p.N by omega)).mp c
            omega⟩
          obtain ⟨b8, f1, f2, f3, f4⟩ := p.fb_s (by omega) hf
          have hbf : bf < K 5 := by
            apply Nat.lt_of_not_le
            intro z
            rw [P.2.2.2.2.2 bf d _ z] at f1
            cases f1
          have z : ow K s bn bf = true := by
            have can1 := P.2.2.2.2.1 bf d (idS (ow K s bn) (K 5) S) hbf
            rw [f1] at can1
            cases q : ow K s bn bf with
            | true => rfl
            | false => rw [q] at can1; cases can1
          have hlt := cN_lt hbf z
          have hT : S ||| 2 ^ cN (ow K s bn) bf < 2 ^ cN (ow K s bn) (K 5) := or_lt hS (Nat.pow_lt_pow_right (by omega) hlt)
          have e102 := pl102_L W P hG HR O T (show d < K 0 by omega) hS hf (fun w x3 x4 x5 x6 => fX10_planned_51 (nI y) F w x3 x4 x5 x6) (nI y) (nI (K 2)) bf 0 (Nat.zero_le _) (by omega) FU (by rw [FU_eq]; omega)
          rw [show (0 : Int32) = nI (cN (ow K s bn) 0) from rfl, e102]
          unfold fX10_planned_192
          rw [if_neg (nI_ne_m1 (by omega)), iSl_1 (by omega), nI_or, lT_eq, nI_1]
          refine ih (d + 1) 1 (S ||| 2 ^ cN (ow K s bn) bf) (nI (cN (ow K s bn) bf)) (by omega) (by omega) hG hT (fun e => ?_) (fun e => ?_)
          · rw [hR, p.bi_lt (by omega) (by omega), if_neg (by omega), hf, Nat.add_sub_cancel, idS_or hbf z, show d + p.G = d + 1 + (K 2 - 1) by omega]
          · have ey : d = y := by omega
            subst ey
            unfold fX10_planned_218
            rw [if_neg (nI_ne_m1 (by omega)), if_pos (inB_nI (by omega) (by omega)), ix_nI (by omega), (O.2 bf hbf z).1, hR, p.bi_eq, hf, aI_s]
    · rw [if_neg (fun z => z (nI_lt (by omega) (by omega)))]
      exact h5 (by omega)
end PLM
section PXY
variable {K : Nat → Nat} {M mk au tk : Nat} {u : Nat → Nat}
theorem plC_pre (W : WF K) (b : Nat) : (plC K M mk au tk u).pre b ≤ 8 := by
  show (if b < K 5 then K (35 + 3 * b) else 0) ≤ 8
  by_cases q : b < K 5
  · rw [if_pos q]; have := W.bil q; have := W.b; omega
  · rw [if_neg q]; omega
theorem plC_u (hu : ∀ b, b < K 5 → u b ≤ 99) (b : Nat) : (plC K M mk au tk u).u b ≤ 99 := by
  show (if b < K 5 then u b else 0) ≤ 99
  by_cases q : b < K 5
  · rw [if_pos q]; exact hu b q
  · rw [if_neg q]; omega
theorem plC_op (b x : Nat) (h : (plC K M mk au tk u).op b x = true) : M.testBit b = true := by
  have h' : opC K M mk au tk b x = true := h
  unfold opC at h'
  rw [Bool.and_eq_true, Bool.and_eq_true] at h'
  exact h'.2.1
end PXY
theorem ag_planned {w : HW} (H : Rel w) (x y : Int32) : Agree w (fX9_planned · x y) (fX10_planned · x y) := by
  obtain ⟨HO, K, W, HR, kn, ks, HN, HC⟩ := id H
  have hb := W.b
  by_cases h : 0 < K 7 ∧ (x = 0 ∨ x = 1)
  · by_cases h2 : 0 ≤ y ∧ y < nI (K 0)
    · obtain ⟨s, hs, rfl⟩ := side_of h.2
      obtain ⟨d, hd, rfl⟩ := rng_of (by omega) h2
      have hG := (W.2.2.1 h.1).2
      have hfr : frm K ≤ K 0 := Nat.min_le_left _ _
      obtain ⟨w1, p1, p2, p4, p3⟩ := worthOfPlan_ok W HN HC hs
      obtain ⟨w2, q1, q3, q4, q5, q2⟩ := refPlan_ok W hs (HR.sx p3) (HO.sx p3).2.2.1 hG
      have P : PH K 0 0 0 s 0 (plC K (sB K s) (nd (K 8) 0) (nd 255 0) 0 (wR K)) (wR K) := PH_plC W (ow_side W hs) hG (fun b hb => (W.bil hb).2.1)
      rw [nd_0, nd_0] at P
      refine ⟨aI ((plC K (sB K s) (K 8) 255 0 (wR K)).bi (frm K) 0 d), w1, w2, ?_, ?_, (H.sx p3).sx q2⟩
      · show fX9_planned w (nI s) (nI d) = _
        unfold fX9_planned
        simp only [now_ok HN, X0_hasSide_ok HC W, X0_hasDay_ok HC W, bI_some, if_b01, if_b01', and_dec, ite_dec]
        rw [if_pos h, if_pos h2, p1, bW_some, bill_ok p2 p4 (show K 0 ≤ 14 by omega) (show 1 ≤ max 1 (K 2) by omega) (show max 1 (K 2) ≤ 9 by omega) (plC_pre W) (fun b _ => plC_u (fun b hb => (W.bil hb).2.1) b) (fun b x _ ho => plC_op b x ho) (by omega) (show d < K 0 from hd), bI_some]
      · show fX10_planned w1 (nI s) (nI d) = _
        unfold fX10_planned
        rw [X10_isSide_ok (HR.sx p3) W, bI_some, if_b01, and_dec, if_pos h, X10_isDay_ok (HR.sx p3) W, bI_some, if_b01', if_pos (decide_eq_true h2), q1, bW_some, if_pos (show inB 2 77 = true from rfl), if_pos (show inB 1 77 = true from rfl), ix_2, ix_1, q3.r2, q3.r1, iMn_nI (by omega) (by omega), lT_eq]
        refine pl51_L W P hG q3 q4 q5 hd _ FU 0 (min (K 2) (K 1)) 0 (-1) (by omega) (by rw [FU_eq]; omega) (by omega) (Nat.two_pow_pos _) (fun _ => ?_) (fun e => by omega)
        rw [idS_0, Nat.zero_add]
        unfold frm
        by_cases q : K 0 ≤ K 2 - K 1
        · rw [PL.bi_gt _ (by omega), PL.bi_gt _ (by omega)]
        · rw [show min (K 0) (K 2 - K 1) = K 2 - min (K 2) (K 1) by omega]
    · refine ⟨-2, w, w, ?_, ?_, H⟩
      · show fX9_planned w x y = _
        unfold fX9_planned
        simp only [now_ok HN, X0_hasSide_ok HC W, X0_hasDay_ok HC W, bI_some, if_b01, if_b01', and_dec, ite_dec]
        rw [if_pos h, if_neg h2]
      · show fX10_planned w x y = _
        unfold fX10_planned
        rw [X10_isSide_ok HR W, bI_some, if_b01, and_dec, if_pos h, X10_isDay_ok HR W, bI_some, if_b01', if_neg (fun z => h2 (of_decide_eq_true z))]
  · refine ⟨-2, w, w, ?_, ?_, H⟩
    · show fX9_planned w x y = _
      unfold fX9_planned
      simp only [now_ok HN, X0_hasSide_ok HC W, bI_some, if_b01, and_dec]
      rw [if_neg h]
    · show fX10_planned w x y = _
      unfold fX10_planned
      rw [X10_isSide_ok HR W, bI_some, if_b01, and_dec, if_neg h]
