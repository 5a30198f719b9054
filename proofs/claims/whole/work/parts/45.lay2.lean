/-! PLANS, the reference's table, whole -/
theorem fdW_skip {can : Nat → Bool} {nx : Nat → Nat × Int32} {u : Nat → Nat} {acc : Nat × Int32} {n : Nat} : ∀ m, n ≤ m → (∀ b, n ≤ b → can b = false) → fdW can nx u acc m = fdW can nx u acc n := by
  intro m
  induction m with
  | zero =>
    intro h _
    have e : n = 0 := by omega
    subst e
    rfl
  | succ m ih =>
    intro h hc
    by_cases e : n = m + 1
    · subst e; rfl
    · rw [fdW_s, if_neg (by rw [hc m (by omega)]; decide)]
      exact ih (by omega) hc
section LAY2
variable {K : Nat → Nat} {t28 t29 t30 s bn : Nat} {p p1 : PL}
theorem then_ok (W : WF K) {w : HW} (HR : RC w K) {h : Nat} (hh : h ≤ 9) : fX10_then w (nI h) = some (nI (min (K 2) (h + 1))) := by
  have hb := W.b
  unfold fX10_then
  rw [if_pos (show inB 2 77 = true from rfl), ix_2, HR.r2, nI_1, iMn_nI (by omega) (by omega)]
theorem PH.step {u : Nat → Nat} (W : WF K) (P : PH K t28 t29 t30 s bn p u) (hG : 1 ≤ K 2) {d I : Nat} (hd : d < K 0) : p.W d I = fdP p d I (p.W (d + 1) I) (K 5) := by
  rw [p.W_at (by rw [P.2.1]; exact hG) (by rw [P.1]; exact hd)]
  exact fdW_skip 8 (by have := W.b; omega) (fun b h => P.2.2.2.2.2 b d I h)
theorem layState_ok (W : WF K) (P : PH K t28 t29 t30 s bn p (fun b => K (34 + 3 * b))) (P1 : PH K t28 t29 t30 s bn p1 (fun _ => 1)) (hG : 1 ≤ K 2) {w : HW} (HR : RC w K) (O : OL K t28 t29 t30 s bn w (K 5)) {d h S : Nat} (hd : d < K 0) (hh : h ≤ K 2) (hS : S < 2 ^ cN (ow K s bn) (K 5)) (T : ∀ h' T, h' ≤ K 2 → T < 2 ^ cN (ow K s bn) (K 5) → TR K s bn p p1 w (d + 1) h' T) : ∃ w', fX10_layState w (nI d) (nI h) (nI S) = some w' ∧ TR K s bn p p1 w' d h S ∧ (∀ A f, (A ≠ 91 ∧ A ≠ 92 ∧ A ≠ 93) ∨ f ≠ stR d h S → gI w' A f = gI w A f) := by
  have hb := W.b
  have hS8 := p2_lt256 W hS
  have hx : stR d h S < 38400 := stR_lt (by omega) (by omega) hS8
  have hy : stR (d + 1) (min (K 2) (h + 1)) S < 38400 := stR_lt (by omega) (by omega) hS8
  have B1 : inB (nI (stR d h S)) 38400 = true := inB_nI hx (by omega)
  have B2 : inB (nI (stR (d + 1) (min (K 2) (h + 1)) S)) 38400 = true := inB_nI hy (by omega)
  have e1 : ix (nI (stR d h S)) = stR d h S := ix_nI (by omega)
  have e2 : ix (nI (stR (d + 1) (min (K 2) (h + 1)) S)) = stR (d + 1) (min (K 2) (h + 1)) S := ix_nI (by omega)
  obtain ⟨t1, t2, t3⟩ := T (min (K 2) (h + 1)) S (by omega) hS
  have g3 := p.W_le' (by rw [P.1]; omega) P.2.2.2.1 (d + 1) (idS (ow K s bn) (K 5) S)
  have g4 := p1.W_le' (by rw [P1.1]; omega) P1.2.2.2.1 (d + 1) (idS (ow K s bn) (K 5) S)
  unfold fX10_layState
  rw [state_ok, bI_some, then_ok W HR (by omega), bI_some, nI_1, state_ok, bI_some, if_pos B2, if_pos B1, lT_eq, if_pos B2, if_pos B1, lT_eq, if_pos B2, if_pos B1, lT_eq, if_pos (show inB 2 77 = true from rfl), e1, e2, ix_2, t1, gI_uI_ne (show 92 ≠ 91 by omega), t2, gI_uI_ne (show 93 ≠ 92 by omega), gI_uI_ne (show 93 ≠ 91 by omega), t3, gI_uI_ne (show 80 ≠ 93 by omega), gI_uI_ne (show 80 ≠ 92 by omega), gI_uI_ne (show 80 ≠ 91 by omega), HR.r2]
  by_cases hl : h < K 2
  · rw [if_pos (nI_lt hl (by omega))]
    have ed : d + 1 + (K 2 - min (K 2) (h + 1)) = d + (K 2 - h) := by omega
    refine ⟨_, rfl, ⟨?_, ?_, ?_⟩, fun A f q => ?_⟩
    · rw [gI_uI_ne (by omega), gI_uI_ne (by omega), gI_uI_at, ed]
    · rw [gI_uI_ne (by omega), gI_uI_at, ed]
    · rw [gI_uI_at, ed]
    · rw [gI_uI, if_neg (by omega), gI_uI, if_neg (by omega), gI_uI, if_neg (by omega)]
  · have eh : h = K 2 := by omega
    have ed : d + 1 + (K 2 - min (K 2) (h + 1)) = d + 1 := by omega
    rw [if_neg (nI_nlt (by omega) (by omega)), ed]
    have fr : ∀ A f, (A ≠ 91 ∧ A ≠ 92 ∧ A ≠ 93) ∨ f ≠ stR d h S → gI (uI (uI (uI w 91 (stR d h S) (nI (p.W (d + 1) (idS (ow K s bn) (K 5) S)).1)) 92 (stR d h S) (p.W (d + 1) (idS (ow K s bn) (K 5) S)).2) 93 (stR d h S) (nI (p1.W (d + 1) (idS (ow K s bn) (K 5) S)).1)) A f = gI w A f := fun A f q => by
      rw [gI_uI, if_neg (by omega), gI_uI, if_neg (by omega), gI_uI, if_neg (by omega)]
    obtain ⟨w1, q1, q2, q3, q4, q5⟩ := lay78_L W P P1 hG hd hS hx (fun T hT => stR_ne (by omega) hT (by omega) hS8 (by omega)) (acc := p.W (d + 1) (idS (ow K s bn) (K 5) S)) (acc1 := p1.W (d + 1) (idS (ow K s bn) (K 5) S)) (by omega) (by omega) (K 5) 0 (Nat.zero_le _) rfl FU (uI (uI (uI w 91 (stR d h S) (nI (p.W (d + 1) (idS (ow K s bn) (K 5) S)).1)) 92 (stR d h S) (p.W (d + 1) (idS (ow K s bn) (K 5) S)).2) 93 (stR d h S) (nI (p1.W (d + 1) (idS (ow K s bn) (K 5) S)).1)) (by rw [FU_eq]; omega) (HR.cell (fun f => fr 80 f (Or.inl (by omega)))) (O.of (fun A f q => fr A f (Or.inl q))) (fun T' hT' => by
      obtain ⟨a1, a2, a3⟩ := T 1 T' hG hT'
      have hq : stR (d + 1) 1 T' ≠ stR d h S := stR_ne (by omega) (p2_lt256 W hT') (by omega) hS8 (by omega)
      exact ⟨(fr _ _ (Or.inr hq)).trans a1, (fr _ _ (Or.inr hq)).trans a2, (fr _ _ (Or.inr hq)).trans a3⟩) (by rw [gI_uI_ne (by omega), gI_uI_ne (by omega), gI_uI_at]; rfl) (by rw [gI_uI_ne (by omega), gI_uI_at]; rfl) (by rw [gI_uI_at]; rfl)
    rw [← P.step W hG hd] at q2 q3
    rw [← P1.step W hG hd] at q4
    have ed2 : d + (K 2 - h) = d := by omega
    refine ⟨w1, q1, ⟨?_, ?_, ?_⟩, fun A f q => (q5 A f q).trans (fr A f q)⟩
    · rw [ed2]; exact q2
    · rw [ed2]; exact q3
    · rw [ed2]; exact q4
theorem TR.of {w w' : HW} {d h S : Nat} (t : TR K s bn p p1 w d h S) (q : ∀ A, gI w' A (stR d h S) = gI w A (stR d h S)) : TR K s bn p p1 w' d h S := ⟨(q _).trans t.1, (q _).trans t.2.1, (q _).trans t.2.2⟩
/-- the table is right above day d, on it for less hunger than h0, and for h0 for the sets below S0 -/
def TA (K : Nat → Nat) (s bn : Nat) (p p1 : PL) (w : HW) (d h0 S0 : Nat) : Prop := ∀ d' h T, d' ≤ K 0 → h ≤ K 2 → T < 2 ^ cN (ow K s bn) (K 5) → (d < d' ∨ (d' = d ∧ (h < h0 ∨ (h = h0 ∧ T < S0)))) → TR K s bn p p1 w d' h T
def TF (K : Nat → Nat) (s bn : Nat) (p p1 : PL) (w : HW) (y : Nat) : Prop := ∀ d h T, y ≤ d → d ≤ K 0 → h ≤ K 2 → T < 2 ^ cN (ow K s bn) (K 5) → TR K s bn p p1 w d h T
theorem lay31_L (W : WF K) (P : PH K t28 t29 t30 s bn p (fun b => K (34 + 3 * b))) (P1 : PH K t28 t29 t30 s bn p1 (fun _ => 1)) (hG : 1 ≤ K 2) {d h : Nat} (hd : d ≤ K 0) (hh : h ≤ K 2) (Q8 Q12 : HW → Int32 → Option (Int32 × HW)) : ∀ F S (w : HW), S ≤ 2 ^ cN (ow K s bn) (K 5) → 2 ^ cN (ow K s bn) (K 5) - S < F → RC w K → OL K t28 t29 t30 s bn w (K 5) → TA K s bn p p1 w d h S → ∃ w', fX10_layPlans_31 Q8 Q12 (nI d) (nI h) F w (nI S) = Q12 w' (nI (h + 1)) ∧ RC w' K ∧ OL K t28 t29 t30 s bn w' (K 5) ∧ TA K s bn p p1 w' d (h + 1) 0 := by
  have hb := W.b
  have hc := cN_le (ow K s bn) (K 5)
  have h256 : 2 ^ cN (ow K s bn) (K 5) ≤ 2 ^ 8 := Nat.pow_le_pow_right (by omega) (by omega)
  intro F
  induction F with
  | zero => intro S w h1 h2; omega
  | succ F ih =>
    intro S w h1 h2 HR O T
    rw [fX10_layPlans_31, O.1, iSl_1 (by omega)]
    by_cases hS : S < 2 ^ cN (ow K s bn) (K 5)
    · have hS8 := p2_lt256 W hS
      have go : ∀ w1 : HW, TR K s bn p p1 w1 d h S → (∀ A f, (A ≠ 91 ∧ A ≠ 92 ∧ A ≠ 93) ∨ f ≠ stR d h S → gI w1 A f = gI w A f) → ∃ w', fX10_layPlans_31 Q8 Q12 (nI d) (nI h) F w1 (nI (S + 1)) = Q12 w' (nI (h + 1)) ∧ RC w' K ∧ OL K t28 t29 t30 s bn w' (K 5) ∧ TA K s bn p p1 w' d (h + 1) 0 := by
        intro w1 q2 q3
        refine ih (S + 1) w1 (by omega) (by omega) (HR.cell (fun f => q3 80 f (Or.inl (by omega)))) (O.of (fun A f h => q3 A f (Or.inl h))) (fun d' h' T' a b c e => ?_)
        by_cases q : d' = d ∧ h' = h ∧ T' = S
        · obtain ⟨rfl, rfl, rfl⟩ := q
          exact q2
        · have ne := stR_ne (d := d') (d' := d) (show h' ≤ 9 by omega) (p2_lt256 W c) (show h ≤ 9 by omega) hS8 q
          exact (T d' h' T' a b c (by omega)).of (fun A => q3 A _ (Or.inr ne))
      rw [if_pos (nI_lt hS (by omega)), if_pos (show inB 0 77 = true from rfl), ix_0, HR.r0]
      by_cases hd' : d < K 0
      · obtain ⟨w1, q1, q2, q3⟩ := layState_ok W P P1 hG HR O hd' hh hS (fun h' T' a b => T (d + 1) h' T' (by omega) a b (Or.inl (by omega)))
        rw [if_pos (nI_lt hd' (by omega)), q1, bI_some, nI_1]
        exact go w1 q2 q3
      · have ed : d = K 0 := by omega
        have hx : stR d h S < 38400 := stR_lt (by omega) (by omega) hS8
        have B1 : inB (nI (stR d h S)) 38400 = true := inB_nI hx (by omega)
        have e1 : ix (nI (stR d h S)) = stR d h S := ix_nI (by omega)
        rw [if_neg (nI_nlt (by omega) (by omega)), state_ok, bI_some, if_pos B1, lT_eq, state_ok, bI_some, if_pos B1, lT_eq, state_ok, bI_some, if_pos B1, lT_eq, e1, nI_1]
        refine go _ ⟨?_, ?_, ?_⟩ (fun A f q => ?_)
        · rw [gI_uI_ne (by omega), gI_uI_ne (by omega), gI_uI_at, p.W_big (by rw [P.1]; omega)]; rfl
        · rw [gI_uI_ne (by omega), gI_uI_at, p.W_big (by rw [P.1]; omega)]
        · rw [gI_uI_at, p1.W_big (by rw [P1.1]; omega)]; rfl
        · rw [gI_uI, if_neg (by omega), gI_uI, if_neg (by omega), gI_uI, if_neg (by omega)]
    · rw [if_neg (nI_nlt (by omega) (by omega)), nI_1]
      exact ⟨w, rfl, HR, O, fun d' h' T' a b c e => T d' h' T' a b c (by omega)⟩
theorem lay18_L (W : WF K) (P : PH K t28 t29 t30 s bn p (fun b => K (34 + 3 * b))) (P1 : PH K t28 t29 t30 s bn p1 (fun _ => 1)) (hG : 1 ≤ K 2) {d : Nat} (hd : d ≤ K 0) (Q8 : HW → Int32 → Option (Int32 × HW)) : ∀ F h (w : HW), h ≤ K 2 + 1 → K 2 + 1 - h < F → RC w K → OL K t28 t29 t30 s bn w (K 5) → TA K s bn p p1 w d h 0 → ∃ w', fX10_layPlans_18 Q8 (nI d) F w (nI h) = Q8 w' (aI d) ∧ RC w' K ∧ OL K t28 t29 t30 s bn w' (K 5) ∧ TA K s bn p p1 w' d (K 2 + 1) 0 := by
  have hb := W.b
  have hc := cN_le (ow K s bn) (K 5)
  have h256 : 2 ^ cN (ow K s bn) (K 5) ≤ 2 ^ 8 := Nat.pow_le_pow_right (by omega) (by omega)
  intro F
  induction F with
  | zero => intro S w h1 h2; omega
  | succ F ih =>
    intro h w h1 h2 HR O T
    rw [fX10_layPlans_18, if_pos (show inB 2 77 = true from rfl), ix_2, HR.r2]
    by_cases hl : h ≤ K 2
    · obtain ⟨w1, q1, q2, q3, q4⟩ := lay31_L W P P1 hG hd hl Q8 (fun w x3 => fX10_layPlans_18 Q8 (nI d) F w x3) FU 0 w (Nat.zero_le _) (by rw [FU_eq]; omega) HR O T
      rw [if_pos (nI_nlt hl (by omega)), show fX10_layPlans_31 Q8 (fun w x3 => fX10_layPlans_18 Q8 (nI d) F w x3) (nI d) (nI h) FU w 0 = _ from q1]
      exact ih (h + 1) w1 (by omega) (by omega) q2 q3 q4
    · have eh : h = K 2 + 1 := by omega
      subst eh
      rw [if_neg (fun z => z (nI_lt (by omega) (by omega))), pk_back (by omega)]
      exact ⟨w, rfl, HR, O, T⟩
theorem start_ok (W : WF K) {w : HW} (HR : RC w K) : fX10_startState w = some (nI (stR 0 (min (K 2) (K 1)) 0)) := by
  have hb := W.b
  unfold fX10_startState
  rw [if_pos (show inB 2 77 = true from rfl), if_pos (show inB 1 77 = true from rfl), ix_2, ix_1, HR.r2, HR.r1, iMn_nI (by omega) (by omega), show fX10_state w 0 (nI (min (K 2) (K 1))) 0 = _ from state_ok w 0 _ 0, bI_some]
theorem W_frm {u : Nat → Nat} (P : PH K t28 t29 t30 s bn p u) : p.W (0 + (K 2 - min (K 2) (K 1))) (idS (ow K s bn) (K 5) 0) = p.W (frm K) 0 := by
  rw [idS_0, Nat.zero_add]
  unfold frm
  by_cases q : K 0 ≤ K 2 - K 1
  · rw [p.W_big (by rw [P.1]; omega), p.W_big (by rw [P.1]; omega)]
  · rw [show min (K 0) (K 2 - K 1) = K 2 - min (K 2) (K 1) by omega]
theorem lay12_L (W : WF K) (P : PH K t28 t29 t30 s bn p (fun b => K (34 + 3 * b))) (P1 : PH K t28 t29 t30 s bn p1 (fun _ => 1)) (hG : 1 ≤ K 2) : ∀ F y (w : HW), y ≤ K 0 + 1 → y < F → RC w K → OL K t28 t29 t30 s bn w (K 5) → TF K s bn p p1 w y → ∃ w', fX10_layPlans_12 F w (aI y) = some (nI (p.W (frm K) 0).1, w') ∧ RC w' K ∧ OL K t28 t29 t30 s bn w' (K 5) ∧ TF K s bn p p1 w' 0 := by
  have hb := W.b
  intro F
  induction F with
  | zero => intro S w h1 h2; omega
  | succ F ih =>
    intro y w h1 h2 HR O T
    rw [fX10_layPlans_12]
    cases y with
    | zero =>
      have t := T 0 (min (K 2) (K 1)) 0 (Nat.le_refl _) (Nat.zero_le _) (by omega) (Nat.two_pow_pos _)
      have hx : stR 0 (min (K 2) (K 1)) 0 < 38400 := stR_lt (by omega) (by omega) (by omega)
      rw [if_neg (show ¬ ¬ aI 0 < 0 from fun z => z (by decide)), start_ok W HR, bI_some, if_pos (inB_nI hx (by omega)), ix_nI (by omega), t.1, W_frm P]
      exact ⟨w, rfl, HR, O, T⟩
    | succ d =>
      rw [aI_s, if_pos (nI_pos (by omega))]
      obtain ⟨w1, q1, q2, q3, q4⟩ := lay18_L W P P1 hG (d := d) (by omega) (fun w x2 => fX10_layPlans_12 F w x2) FU 0 w (Nat.zero_le _) (by rw [FU_eq]; omega) HR O (fun d' h' T' a b c e => T d' h' T' (by omega) a b c)
      rw [show fX10_layPlans_18 (fun w x2 => fX10_layPlans_12 F w x2) (nI d) FU w 0 = _ from q1]
      exact ih d w1 (by omega) (by omega) q2 q3 (fun d' h' T' a b c e => q4 d' h' T' b c e (by omega))
theorem layPlans_ok (W : WF K) (hs : s ≤ 2) {w : HW} (HR : RC w K) (R : RP w t28 t29 t30 bn) (hbn : bn < 100) (P : PH K t28 t29 t30 s bn p (fun b => K (34 + 3 * b))) (P1 : PH K t28 t29 t30 s bn p1 (fun _ => 1)) (hG : 1 ≤ K 2) : ∃ w', fX10_layPlans w (nI s) = some (nI (p.W (frm K) 0).1, w') ∧ RC w' K ∧ OL K t28 t29 t30 s bn w' (K 5) ∧ TF K s bn p p1 w' 0 ∧ Sx sc w w' := by
  have hb := W.b
  obtain ⟨w1, q1, q2, q3, q4⟩ := layOwn_ok W hs HR R hbn
  obtain ⟨w2, r1, r2, r3, r4⟩ := lay12_L W P P1 hG FU (K 0 + 1) w1 (Nat.le_refl _) (by rw [FU_eq]; omega) q3 q2 (fun d h T a b c e => by omega)
  have e : fX10_layPlans w (nI s) = some (nI (p.W (frm K) 0).1, w2) := by
    unfold fX10_layPlans
    rw [q1, bI_some, if_pos (show inB 0 77 = true from rfl), ix_0, q3.r0, lT_eq, ← aI_s]
    exact r1
  exact ⟨w2, e, r2, r3, r4, rX10_layPlans Sx.rf _ _ e⟩
theorem PH_plC (W : WF K) {M : Nat} {u : Nat → Nat} (hM : ∀ b, b < K 5 → M.testBit b = ow K s bn b) (hG : 1 ≤ K 2) (hu : ∀ b, b < K 5 → u b ≤ 99) : PH K t28 t29 t30 s bn (plC K M (nd (K 8) t30) (nd 255 t29) t28 u) u := by
  refine ⟨rfl, ?_, fun b hb => ?_, fun b hb => ?_, fun b x I hb => ?_, fun b x I hb => ?_⟩
  · show max 1 (K 2) = K 2
    omega
  · show (if b < K 5 then u b else 0) = u b
    rw [if_pos hb]
  · show (if b < K 5 then u b else 0) ≤ 99
    by_cases q : b < K 5
    · rw [if_pos q]; exact hu b q
    · rw [if_neg q]; omega
  · show (opC K M (nd (K 8) t30) (nd 255 t29) t28 b x && (!I.testBit b && (decide ((if b < K 5 then K (35 + 3 * b) else 0) = 0) || I.testBit ((if b < K 5 then K (35 + 3 * b) else 0) - 1)))) = _
    rw [if_pos hb]
    unfold opC
    rw [decide_eq_true hb, hM b hb, Bool.true_and, Bool.and_assoc, fdS_opD]
    rfl
  · show (opC K M (nd (K 8) t30) (nd 255 t29) t28 b x && _) = _
    unfold opC
    rw [decide_eq_false (show ¬ b < K 5 by omega), Bool.false_and, Bool.false_and]
end LAY2
