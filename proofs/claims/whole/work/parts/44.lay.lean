/-! PLANS, the reference's table -/
def stR (d h S : Nat) : Nat := (d * 10 + h) * 256 + S
theorem state_ok (w : HW) (d h S : Nat) : fX10_state w (nI d) (nI h) (nI S) = some (nI (stR d h S)) := by
  unfold fX10_state stR
  rw [show (10 : Int32) = nI 10 from rfl, show (256 : Int32) = nI 256 from rfl, pk_mul, nI_add, pk_mul, nI_add]
theorem stR_lt {d h S : Nat} (hd : d ≤ 14) (hh : h ≤ 9) (hS : S < 256) : stR d h S < 38400 := by unfold stR; omega
theorem stR_ne {d h S d' h' S' : Nat} (hh : h ≤ 9) (hS : S < 256) (hh' : h' ≤ 9) (hS' : S' < 256) (e : ¬ (d = d' ∧ h = h' ∧ S = S')) : stR d h S ≠ stR d' h' S' := by
  unfold stR
  omega
/-- the bills that a set of places stands for -/
def idS (o : Nat → Bool) (n S : Nat) : Nat := bS (fun b => o b && S.testBit (cN o b)) n
theorem idS_bit (o : Nat → Bool) (n S b : Nat) : (idS o n S).testBit b = (decide (b < n) && (o b && S.testBit (cN o b))) := bS_bit _ _ _
theorem cN_ne {o : Nat → Bool} {a b : Nat} (e : a ≠ b) (ha : o a = true) (hb : o b = true) : cN o a ≠ cN o b := by
  rcases Nat.lt_or_gt_of_ne e with g | g
  · have := cN_lt g ha; omega
  · have := cN_lt g hb; omega
theorem idS_or {o : Nat → Bool} {n S b : Nat} (hb : b < n) (ho : o b = true) : idS o n (S ||| 2 ^ cN o b) = idS o n S ||| 2 ^ b := by
  apply Nat.eq_of_testBit_eq
  intro i
  rw [Nat.testBit_or, idS_bit, idS_bit, Nat.testBit_or, Nat.testBit_two_pow, Nat.testBit_two_pow]
  by_cases e : b = i
  · subst e; simp [hb, ho]
  · cases hoi : o i with
    | true => have := cN_ne e ho hoi; simp [e, this]
    | false => simp [e]
theorem idS_0 (o : Nat → Bool) (n : Nat) : idS o n 0 = 0 := by
  apply Nat.eq_of_testBit_eq
  intro i
  rw [idS_bit, Nat.zero_testBit]
  simp
/-- a bill may pass on an open day, those of I having passed -/
def mayI (K : Nat → Nat) (I b : Nat) : Bool := !I.testBit b && (decide (K (35 + 3 * b) = 0) || I.testBit (K (35 + 3 * b) - 1))
section LAY
variable {K : Nat → Nat} {t28 t29 t30 s bn : Nat}
theorem may33_L (W : WF K) {w : HW} (O : OL K t28 t29 t30 s bn w (K 5)) {S a : Nat} (hS : S < 256) (ha : a < 8) : ∀ n b, b ≤ K 5 → K 5 - b = n → (∀ c, c < b → ow K s bn c = true → c ≠ a) → ∀ F, n < F → fX10_mayPass_33 w (nI S) (nI a) F (nI (cN (ow K s bn) b)) = some (b01 ((idS (ow K s bn) (K 5) S).testBit a)) := by
  have hb := W.b
  intro n
  induction n with
  | zero =>
    intro b h1 h2 h3 F hF
    have e : b = K 5 := by omega
    subst e
    obtain ⟨F, rfl⟩ : ∃ E, F = E + 1 := ⟨F - 1, by omega⟩
    have hc := cN_le (ow K s bn) (K 5)
    rw [fX10_mayPass_33, O.1, if_neg (nI_nlt (Nat.le_refl _) (by omega)), idS_bit]
    by_cases q : a < K 5
    · have : ow K s bn a = false := by
        cases z : ow K s bn a with
        | false => rfl
        | true => exact absurd rfl (h3 a q z)
      rw [this, Bool.false_and, Bool.and_false]
      rfl
    · rw [decide_eq_false q]
      rfl
  | succ n ih =>
    intro b h1 h2 h3 F hF
    have hbl : b < K 5 := by omega
    have hc := cN_le (ow K s bn) b
    cases z : ow K s bn b with
    | false =>
      have e := ih (b + 1) (by omega) (by omega) (fun c hc ho => by
        by_cases q : c = b
        · subst q; rw [z] at ho; cases ho
        · exact h3 c (by omega) ho) F (by omega)
      rw [cN_s, z, if_neg (by decide), Nat.add_zero] at e
      exact e
    | true =>
      obtain ⟨F, rfl⟩ : ∃ E, F = E + 1 := ⟨F - 1, by omega⟩
      have hlt := cN_lt hbl z
      have hc5 := cN_le (ow K s bn) (K 5)
      rw [fX10_mayPass_33, O.1, if_pos (nI_lt hlt (by omega)), if_pos (inB_nI (by omega) (by omega)), ix_nI (by omega), (O.2 b hbl z).1]
      by_cases q : b = a
      · subst q
        rw [if_pos rfl]
        unfold fX10_mayPass_53
        rw [bit_ok w (by omega) (by omega), bI_some, if_b011, some_b01, idS_bit, decide_eq_true hbl, z]
        rfl
      · rw [if_neg (fun y => q ((nI_eqv (by omega) (by omega)).mp y)), nI_1]
        have e := ih (b + 1) (by omega) (by omega) (fun c hc ho => by
          by_cases q : c = b
          · subst q; exact q
          · exact h3 c (by omega) ho) F (by omega)
        rw [cN_s, z, if_pos rfl] at e
        exact e
theorem mayPass_ok (W : WF K) {w : HW} (HR : RC w K) (O : OL K t28 t29 t30 s bn w (K 5)) {S b : Nat} (hS : S < 256) (hbl : b < K 5) (ho : ow K s bn b = true) : fX10_mayPass w (nI (cN (ow K s bn) b)) (nI S) = some (b01 (mayI K (idS (ow K s bn) (K 5) S) b)) := by
  have hb := W.b
  have hc := cN_le (ow K s bn) b
  have hB := W.bil hbl
  have eb : (idS (ow K s bn) (K 5) S).testBit b = S.testBit (cN (ow K s bn) b) := by rw [idS_bit, decide_eq_true hbl, ho]; rfl
  unfold fX10_mayPass mayI
  rw [bit_ok w (by omega) (by omega), bI_some, if_b011, eb]
  cases z : S.testBit (cN (ow K s bn) b) with
  | true => rfl
  | false =>
    rw [if_neg (by decide), if_pos (inB_nI (by omega) (by omega)), ix_nI (by omega), (O.2 b hbl ho).1, X10_of_2 HR W hbl, bI_some]
    by_cases q : K (35 + 3 * b) = 0
    · rw [if_pos ((aI_m1 (by omega)).mpr q), decide_eq_true q]
      rfl
    · obtain ⟨a, ha⟩ : ∃ a, K (35 + 3 * b) = a + 1 := ⟨K (35 + 3 * b) - 1, by omega⟩
      rw [if_neg (fun y => q ((aI_m1 (by omega)).mp y)), decide_eq_false q, ha, aI_s]
      exact may33_L W O hS (show a < 8 by omega) (K 5) 0 (Nat.zero_le _) (by omega) (fun c hc _ => by omega) FU (by rw [FU_eq]; omega)
theorem lay171_ok {w : HW} {x nx a v a' m m' : Nat} {c c' : Int32} (hx : x < 38400) (hn : nx < 38400) (hne : nx ≠ x) (ha : a ≤ 4000) (hv : v + a' ≤ 4000) (hm : m ≤ 4000) (hm' : m' ≤ 4000) (h91 : gI w 91 x = nI a) (h92 : gI w 92 x = c) (h93 : gI w 93 x = nI m) (g92 : gI w 92 nx = c') (g93 : gI w 93 nx = nI m') (Q : HW → Int32 → Option HW) (x1 x3 x6 : Int32) : ∃ w', fX10_layState_171 w Q x1 x3 (nI x) x6 (nI nx) (nI (v + a')) = Q w' (x6 + 1) ∧ gI w' 91 x = nI (max a (v + a')) ∧ gI w' 92 x = (if v + a' = max a (v + a') then c + c' else c + 0) ∧ gI w' 93 x = nI (max m (1 + m')) ∧ (∀ A f, (A ≠ 91 ∧ A ≠ 92 ∧ A ≠ 93) ∨ f ≠ x → gI w' A f = gI w A f) := by
  have B1 : inB (nI x) 38400 = true := inB_nI hx (by omega)
  have B2 : inB (nI nx) 38400 = true := inB_nI hn (by omega)
  have e1 : ix (nI x) = x := ix_nI (by omega)
  have e2 : ix (nI nx) = nx := ix_nI (by omega)
  have fin : ∀ z : Int32, ∃ w', fX10_layState_221 (uI w 91 x (nI (max a (v + a')))) Q x1 x3 (nI x) x6 (nI nx) z c (nI x) = Q w' (x6 + 1) ∧ gI w' 91 x = nI (max a (v + a')) ∧ gI w' 92 x = c + z ∧ gI w' 93 x = nI (max m (1 + m')) ∧ (∀ A f, (A ≠ 91 ∧ A ≠ 92 ∧ A ≠ 93) ∨ f ≠ x → gI w' A f = gI w A f) := by
    intro z
    unfold fX10_layState_221
    rw [if_pos B1, lT_eq, if_pos B1, if_pos B2, if_pos B1, lT_eq, e1, e2]
    refine ⟨_, rfl, ?_, ?_, ?_, fun A f h => ?_⟩
    · rw [gI_uI_ne (by omega), gI_uI_ne (by omega), gI_uI_at]
    · rw [gI_uI_ne (by omega), gI_uI_at]
    · rw [gI_uI_at, gI_uI_ne (by omega), gI_uI_ne (by omega), gI_uI_ne (by omega), gI_uI_ne (by omega), h93, g93, show (1 : Int32) + nI m' = nI (1 + m') from nI_add 1 m', iMx_nI (by omega) (by omega)]
    · rw [gI_uI, if_neg (by omega), gI_uI, if_neg (by omega), gI_uI, if_neg (by omega)]
  unfold fX10_layState_171
  rw [if_pos B1, if_pos B1, lT_eq, if_pos B1, if_pos B1, if_pos B2, e1, e2, h91, iMx_nI (by omega) (by omega), gI_uI_at, gI_uI_ne (show 92 ≠ 91 by omega), gI_uI_ne (show 92 ≠ 91 by omega), h92, g92]
  by_cases q : v + a' = max a (v + a')
  · rw [if_pos (congrArg nI q), if_pos q]
    exact fin c'
  · rw [if_neg (fun y => q ((nI_eqv (by omega) (by omega)).mp y)), if_neg q]
    exact fin 0
/-- one day of the planning, the bills below b tried -/
def fdP (p : PL) (x I : Nat) (acc : Nat × Int32) (b : Nat) : Nat × Int32 := fdW (p.can x I) (fun b => p.W (x + p.G) (I ||| 2 ^ b)) p.u acc b
/-- p plans as the reference does, with the worths u -/
def PH (K : Nat → Nat) (t28 t29 t30 s bn : Nat) (p : PL) (u : Nat → Nat) : Prop :=
  p.N = K 0 ∧ p.G = K 2 ∧ (∀ b, b < K 5 → p.u b = u b) ∧ (∀ b, b < 8 → p.u b ≤ 99) ∧
  (∀ b x I, b < K 5 → p.can x I b = (ow K s bn b && ((fdS K t28 t29 t30 (K (33 + 3 * b))).testBit x && mayI K I b))) ∧ (∀ b x I, K 5 ≤ b → p.can x I b = false)
theorem PL.W_le' (p : PL) (hN : p.N ≤ 14) (hu : ∀ b, b < 8 → p.u b ≤ 99) (x s : Nat) : (p.W x s).1 ≤ 1386 := Nat.le_trans (p.W_le hu p.N x s) (Nat.mul_le_mul (Nat.le_refl 99) hN)
theorem fdP_le (p : PL) (hN : p.N ≤ 14) (hu : ∀ b, b < 8 → p.u b ≤ 99) {x I : Nat} {acc : Nat × Int32} (ha : acc.1 ≤ 2000) : ∀ b, b ≤ 8 → (fdP p x I acc b).1 ≤ 2000 := by
  intro b
  induction b with
  | zero => intro _; exact ha
  | succ b ih =>
    intro h
    have h1 := ih (by omega)
    unfold fdP at h1 ⊢
    rw [fdW_s]
    split
    · have h2 := (stW_le (p.u b) (fdW (p.can x I) (fun b => p.W (x + p.G) (I ||| 2 ^ b)) p.u acc b) (p.W (x + p.G) (I ||| 2 ^ b))).2
      have h3 := p.W_le' hN hu (x + p.G) (I ||| 2 ^ b)
      have h4 := hu b (by omega)
      exact Nat.le_trans h2 (Nat.max_le.mpr ⟨h1, by omega⟩)
    · exact h1
/-- the reference's table is right at one place -/
def TR (K : Nat → Nat) (s bn : Nat) (p p1 : PL) (w : HW) (d h S : Nat) : Prop :=
  gI w 91 (stR d h S) = nI (p.W (d + (K 2 - h)) (idS (ow K s bn) (K 5) S)).1 ∧ gI w 92 (stR d h S) = (p.W (d + (K 2 - h)) (idS (ow K s bn) (K 5) S)).2 ∧ gI w 93 (stR d h S) = nI (p1.W (d + (K 2 - h)) (idS (ow K s bn) (K 5) S)).1
theorem stW_eq (v : Nat) (a a' : Nat) (c c' : Int32) : stW v (a, c) (a', c') = (max a (v + a'), if v + a' = max a (v + a') then (if a < v + a' then 0 else c) + c' else c) := by
  unfold stW
  by_cases h1 : a < v + a'
  · rw [if_pos h1, if_pos h1, Nat.max_eq_right (Nat.le_of_lt h1), if_pos rfl]
  · rw [if_neg h1, if_neg h1]
    by_cases h2 : v + a' = a
    · rw [if_pos h2, h2, Nat.max_self, if_pos rfl]
    · rw [if_neg h2, Nat.max_eq_left (Nat.le_of_not_lt h1), if_neg h2]
theorem OL.of {w w' : HW} {b : Nat} (O : OL K t28 t29 t30 s bn w b) (h : ∀ A f, A ≠ 91 ∧ A ≠ 92 ∧ A ≠ 93 → gI w' A f = gI w A f) : OL K t28 t29 t30 s bn w' b := by
  refine ⟨(h _ _ (by omega)).trans O.1, fun c hc ho => ?_⟩
  rw [h _ _ (by omega), h _ _ (by omega)]
  exact O.2 c hc ho
theorem p2_lt256 (W : WF K) {S : Nat} (hS : S < 2 ^ cN (ow K s bn) (K 5)) : S < 256 := by
  have hc := cN_le (ow K s bn) (K 5)
  have hb := W.b
  have h256 : 2 ^ cN (ow K s bn) (K 5) ≤ 2 ^ 8 := Nat.pow_le_pow_right (by omega) (by omega)
  omega
theorem fdS_31 (W : WF K) (y : Nat) : fdS K t28 t29 t30 y < 2 ^ 31 := Nat.lt_of_lt_of_le (fdS_lt K t28 t29 t30 y) (Nat.pow_le_pow_right (by omega) (by have := W.b; omega))
theorem lay78_L (W : WF K) {p p1 : PL} (P : PH K t28 t29 t30 s bn p (fun b => K (34 + 3 * b))) (P1 : PH K t28 t29 t30 s bn p1 (fun _ => 1)) (hG : 1 ≤ K 2) {d S x : Nat} (hd : d < K 0) (hS : S < 2 ^ cN (ow K s bn) (K 5)) (hx : x < 38400) (hxd : ∀ T, T < 256 → stR (d + 1) 1 T ≠ x) {acc acc1 : Nat × Int32} (ha : acc.1 ≤ 2000) (ha1 : acc1.1 ≤ 2000) : ∀ n b, b ≤ K 5 → K 5 - b = n → ∀ F (w : HW), n < F → RC w K → OL K t28 t29 t30 s bn w (K 5) → (∀ T, T < 2 ^ cN (ow K s bn) (K 5) → TR K s bn p p1 w (d + 1) 1 T) → gI w 91 x = nI (fdP p d (idS (ow K s bn) (K 5) S) acc b).1 → gI w 92 x = (fdP p d (idS (ow K s bn) (K 5) S) acc b).2 → gI w 93 x = nI (fdP p1 d (idS (ow K s bn) (K 5) S) acc1 b).1 → ∃ w', fX10_layState_78 (nI d) (nI S) (nI x) F w (nI (cN (ow K s bn) b)) = some w' ∧ gI w' 91 x = nI (fdP p d (idS (ow K s bn) (K 5) S) acc (K 5)).1 ∧ gI w' 92 x = (fdP p d (idS (ow K s bn) (K 5) S) acc (K 5)).2 ∧ gI w' 93 x = nI (fdP p1 d (idS (ow K s bn) (K 5) S) acc1 (K 5)).1 ∧ (∀ A f, (A ≠ 91 ∧ A ≠ 92 ∧ A ≠ 93) ∨ f ≠ x → gI w' A f = gI w A f) := by
  have hb := W.b
  obtain ⟨pN, pG, pu, pu9, pc, _⟩ := P
  obtain ⟨qN, qG, qu, qu9, qc, _⟩ := P1
  have hS8 := p2_lt256 W hS
  intro n
  induction n with
  | zero =>
    intro b h1 h2 F w hF HR O T h91 h92 h93
    have e : b = K 5 := by omega
    subst e
    obtain ⟨F, rfl⟩ : ∃ E, F = E + 1 := ⟨F - 1, by omega⟩
    have hc := cN_le (ow K s bn) (K 5)
    rw [fX10_layState_78, O.1, if_neg (nI_nlt (Nat.le_refl _) (by omega))]
    exact ⟨w, rfl, h91, h92, h93, fun _ _ _ => rfl⟩
  | succ n ih =>
    intro b h1 h2 F w hF HR O T h91 h92 h93
    have hbl : b < K 5 := by omega
    have hc := cN_le (ow K s bn) b
    have hc5 := cN_le (ow K s bn) (K 5)
    cases z : ow K s bn b with
    | false =>
      have e := ih (b + 1) (by omega) (by omega) F w (by omega) HR O T
      have n1 : ¬ p.can d (idS (ow K s bn) (K 5) S) b = true := by rw [pc b d _ hbl, z, Bool.false_and]; decide
      have n2 : ¬ p1.can d (idS (ow K s bn) (K 5) S) b = true := by rw [qc b d _ hbl, z, Bool.false_and]; decide
      rw [cN_s, z, if_neg (by decide), Nat.add_zero] at e
      have u1 : ∀ acc, fdP p d (idS (ow K s bn) (K 5) S) acc (b + 1) = fdP p d (idS (ow K s bn) (K 5) S) acc b := fun acc => by unfold fdP; rw [fdW_s, if_neg n1]
      have u2 : ∀ acc, fdP p1 d (idS (ow K s bn) (K 5) S) acc (b + 1) = fdP p1 d (idS (ow K s bn) (K 5) S) acc b := fun acc => by unfold fdP; rw [fdW_s, if_neg n2]
      rw [u1, u2] at e
      exact e h91 h92 h93
    | true =>
      obtain ⟨F, rfl⟩ : ∃ E, F = E + 1 := ⟨F - 1, by omega⟩
      have hlt := cN_lt hbl z
      have hk : inB (nI (cN (ow K s bn) b)) 8 = true := inB_nI (by omega) (by omega)
      have ek : ix (nI (cN (ow K s bn) b)) = cN (ow K s bn) b := ix_nI (by omega)
      have ecn : cN (ow K s bn) (b + 1) = cN (ow K s bn) b + 1 := by rw [cN_s, z, if_pos rfl]
      have can1 := pc b d (idS (ow K s bn) (K 5) S) hbl
      have can2 := qc b d (idS (ow K s bn) (K 5) S) hbl
      rw [z, Bool.true_and] at can1 can2
      have no : ((fdS K t28 t29 t30 (K (33 + 3 * b))).testBit d && mayI K (idS (ow K s bn) (K 5) S) b) = false → ∃ w', fX10_layState_78 (nI d) (nI S) (nI x) F w (nI (cN (ow K s bn) b + 1)) = some w' ∧ gI w' 91 x = nI (fdP p d (idS (ow K s bn) (K 5) S) acc (K 5)).1 ∧ gI w' 92 x = (fdP p d (idS (ow K s bn) (K 5) S) acc (K 5)).2 ∧ gI w' 93 x = nI (fdP p1 d (idS (ow K s bn) (K 5) S) acc1 (K 5)).1 ∧ (∀ A f, (A ≠ 91 ∧ A ≠ 92 ∧ A ≠ 93) ∨ f ≠ x → gI w' A f = gI w A f) := by
        intro q
        have e := ih (b + 1) (by omega) (by omega) F w (by omega) HR O T
        have u1 : ∀ acc, fdP p d (idS (ow K s bn) (K 5) S) acc (b + 1) = fdP p d (idS (ow K s bn) (K 5) S) acc b := fun acc => by unfold fdP; rw [fdW_s, if_neg (by rw [can1, q]; decide)]
        have u2 : ∀ acc, fdP p1 d (idS (ow K s bn) (K 5) S) acc (b + 1) = fdP p1 d (idS (ow K s bn) (K 5) S) acc b := fun acc => by unfold fdP; rw [fdW_s, if_neg (by rw [can2, q]; decide)]
        rw [u1, u2, ecn] at e
        exact e h91 h92 h93
      rw [fX10_layState_78, O.1, if_pos (nI_lt hlt (by omega)), if_pos hk, ek, (O.2 b hbl z).2, bit_ok w (fdS_31 W _) (by omega), bI_some, if_b01]
      cases c1 : (fdS K t28 t29 t30 (K (33 + 3 * b))).testBit d with
      | false =>
        rw [if_neg (by decide), nI_1]
        exact no (by rw [c1]; rfl)
      | true =>
        rw [if_pos rfl, mayPass_ok W HR O hS8 hbl z, bI_some, if_b01']
        cases c2 : mayI K (idS (ow K s bn) (K 5) S) b with
        | false =>
          rw [if_neg (by decide), nI_1]
          exact no (by rw [c2, Bool.and_false])
        | true =>
          have y1 : p.can d (idS (ow K s bn) (K 5) S) b = true := by rw [can1, c1, c2]; rfl
          have y2 : p1.can d (idS (ow K s bn) (K 5) S) b = true := by rw [can2, c1, c2]; rfl
          have hT : S ||| 2 ^ cN (ow K s bn) b < 2 ^ cN (ow K s bn) (K 5) := or_lt hS (Nat.pow_lt_pow_right (by omega) hlt)
          have hT8 := p2_lt256 W hT
          have hn : stR (d + 1) 1 (S ||| 2 ^ cN (ow K s bn) b) < 38400 := stR_lt (by omega) (by omega) hT8
          obtain ⟨t1, t2, t3⟩ := T _ hT
          rw [idS_or hbl z, show d + 1 + (K 2 - 1) = d + K 2 by omega] at t1 t2 t3
          have B1 : inB (nI x) 38400 = true := inB_nI hx (by omega)
          have ex : ix (nI x) = x := ix_nI (by omega)
          have g1 := fdP_le p (by omega) pu9 (x := d) (I := idS (ow K s bn) (K 5) S) ha b (by omega)
          have g2 := fdP_le p1 (by omega) qu9 (x := d) (I := idS (ow K s bn) (K 5) S) ha1 b (by omega)
          have g3 := p.W_le' (by omega) pu9 (d + K 2) (idS (ow K s bn) (K 5) S ||| 2 ^ b)
          have g4 := p1.W_le' (by omega) qu9 (d + K 2) (idS (ow K s bn) (K 5) S ||| 2 ^ b)
          have g5 := (W.bil hbl).2.1
          rw [if_pos rfl, iSl_1 (by omega), nI_or, nI_1, show fX10_state w (nI (d + 1)) 1 (nI (S ||| 2 ^ cN (ow K s bn) b)) = _ from state_ok w (d + 1) 1 _, bI_some, if_pos hk, (O.2 b hbl z).1, X10_of_1 HR W hbl, bI_some, if_pos (inB_nI hn (by omega)), ix_nI (by omega), t1, nI_add, lT_eq, if_pos B1, ex, h91, if_pos B1]
          have fin : ∀ (w1 : HW) (c : Int32), gI w1 91 x = nI (fdP p d (idS (ow K s bn) (K 5) S) acc b).1 → gI w1 92 x = c → c = (if (fdP p d (idS (ow K s bn) (K 5) S) acc b).1 < K (34 + 3 * b) + (p.W (d + K 2) (idS (ow K s bn) (K 5) S ||| 2 ^ b)).1 then 0 else (fdP p d (idS (ow K s bn) (K 5) S) acc b).2) → (∀ A f, (A ≠ 91 ∧ A ≠ 92 ∧ A ≠ 93) ∨ f ≠ x → gI w1 A f = gI w A f) → gI w1 93 x = gI w 93 x → ∃ w', fX10_layState_171 w1 (fun w x6 => fX10_layState_78 (nI d) (nI S) (nI x) F w x6) (nI d) (nI S) (nI x) (nI (cN (ow K s bn) b)) (nI (stR (d + 1) 1 (S ||| 2 ^ cN (ow K s bn) b))) (nI (K (34 + 3 * b) + (p.W (d + K 2) (idS (ow K s bn) (K 5) S ||| 2 ^ b)).1)) = some w' ∧ gI w' 91 x = nI (fdP p d (idS (ow K s bn) (K 5) S) acc (K 5)).1 ∧ gI w' 92 x = (fdP p d (idS (ow K s bn) (K 5) S) acc (K 5)).2 ∧ gI w' 93 x = nI (fdP p1 d (idS (ow K s bn) (K 5) S) acc1 (K 5)).1 ∧ (∀ A f, (A ≠ 91 ∧ A ≠ 92 ∧ A ≠ 93) ∨ f ≠ x → gI w' A f = gI w A f) := by
            intro w1 c k91 k92 hc1 kf k93
            obtain ⟨w2, r1, r2, r3, r4, r5⟩ := lay171_ok (v := K (34 + 3 * b)) (a' := (p.W (d + K 2) (idS (ow K s bn) (K 5) S ||| 2 ^ b)).1) hx hn (hxd _ hT8) (show _ ≤ 4000 by omega) (show _ ≤ 4000 by omega) (show _ ≤ 4000 by omega) (show _ ≤ 4000 by omega) k91 k92 (k93.trans h93) ((kf 92 _ (Or.inr (hxd _ hT8))).trans t2) ((kf 93 _ (Or.inr (hxd _ hT8))).trans t3) (fun w x6 => fX10_layState_78 (nI d) (nI S) (nI x) F w x6) (nI d) (nI S) (nI (cN (ow K s bn) b))
            have rf : ∀ A f, (A ≠ 91 ∧ A ≠ 92 ∧ A ≠ 93) ∨ f ≠ x → gI w2 A f = gI w A f := fun A f h => (r5 A f h).trans (kf A f h)
            have u1 : fdP p d (idS (ow K s bn) (K 5) S) acc (b + 1) = stW (K (34 + 3 * b)) ((fdP p d (idS (ow K s bn) (K 5) S) acc b).1, (fdP p d (idS (ow K s bn) (K 5) S) acc b).2) ((p.W (d + K 2) (idS (ow K s bn) (K 5) S ||| 2 ^ b)).1, (p.W (d + K 2) (idS (ow K s bn) (K 5) S ||| 2 ^ b)).2) := by
              have e : fdP p d (idS (ow K s bn) (K 5) S) acc (b + 1) = stW (p.u b) (fdP p d (idS (ow K s bn) (K 5) S) acc b) (p.W (d + p.G) (idS (ow K s bn) (K 5) S ||| 2 ^ b)) := by
                show fdW _ _ _ _ _ = _
                rw [fdW_s, if_pos y1]
                rfl
              rw [e, pu b hbl, pG]
            have u2 : fdP p1 d (idS (ow K s bn) (K 5) S) acc1 (b + 1) = stW 1 ((fdP p1 d (idS (ow K s bn) (K 5) S) acc1 b).1, (fdP p1 d (idS (ow K s bn) (K 5) S) acc1 b).2) ((p1.W (d + K 2) (idS (ow K s bn) (K 5) S ||| 2 ^ b)).1, (p1.W (d + K 2) (idS (ow K s bn) (K 5) S ||| 2 ^ b)).2) := by
              have e : fdP p1 d (idS (ow K s bn) (K 5) S) acc1 (b + 1) = stW (p1.u b) (fdP p1 d (idS (ow K s bn) (K 5) S) acc1 b) (p1.W (d + p1.G) (idS (ow K s bn) (K 5) S ||| 2 ^ b)) := by
                show fdW _ _ _ _ _ = _
                rw [fdW_s, if_pos y2]
                rfl
              rw [e, qu b hbl, qG]
            rw [stW_eq] at u1 u2
            obtain ⟨w3, s1, s2, s3, s4, s5⟩ := ih (b + 1) (by omega) (by omega) F w2 (by omega) (HR.cell (fun f => rf 80 f (Or.inl (by omega)))) (O.of (fun A f h => rf A f (Or.inl h))) (fun T' hT' => by
              obtain ⟨a1, a2, a3⟩ := T T' hT'
              have hq := hxd T' (p2_lt256 W hT')
              exact ⟨(rf _ _ (Or.inr hq)).trans a1, (rf _ _ (Or.inr hq)).trans a2, (rf _ _ (Or.inr hq)).trans a3⟩) (by rw [r2, u1]) (by
                rw [r3, u1]
                show _ = if _ then _ else _
                rw [← hc1]
                by_cases q : K (34 + 3 * b) + (p.W (d + K 2) (idS (ow K s bn) (K 5) S ||| 2 ^ b)).1 = max (fdP p d (idS (ow K s bn) (K 5) S) acc b).1 (K (34 + 3 * b) + (p.W (d + K 2) (idS (ow K s bn) (K 5) S ||| 2 ^ b)).1)
                · rw [if_pos q, if_pos q]
                · rw [if_neg q, if_neg q, Int32.add_zero, hc1, if_neg (by omega)]) (by rw [r4, u2])
            rw [ecn] at s1
            rw [r1, nI_1]
            exact ⟨w3, s1, s2, s3, s4, fun A f h => (s5 A f h).trans (rf A f h)⟩
          by_cases c3 : (fdP p d (idS (ow K s bn) (K 5) S) acc b).1 < K (34 + 3 * b) + (p.W (d + K 2) (idS (ow K s bn) (K 5) S ||| 2 ^ b)).1
          · rw [if_pos (nI_lt c3 (by omega)), lT_eq]
            exact fin _ 0 (by rw [gI_uI_ne (by omega), h91]) gI_uI_at (by rw [if_pos c3]) (fun A f h => by rw [gI_uI, if_neg (by omega)]) (gI_uI_ne (by omega))
          · rw [if_neg (nI_nlt (Nat.le_of_not_lt c3) (by omega))]
            exact fin w _ h91 h92 (by rw [if_neg c3]) (fun _ _ _ => rfl) rfl
end LAY
