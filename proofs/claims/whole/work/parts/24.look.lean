/-! HENS, the class's look -/
/-- a fattened hen of hunger h, feast g fits: the days of A she eats on, those of B not -/
def fitAB (K : Nat → Nat) (A B h g : Nat) : Bool := decide (bS (eatq K h g) (K 0) &&& A = A) && decide (bS (eatq K h g) (K 0) &&& B = 0)
/-- what the class has counted of R -/
def HX (K : Nat → Nat) (A B : Nat) (w : HW) (R : Nat → Nat → Bool) : Prop :=
  gI w 20 5 = nI A ∧ gI w 20 6 = nI B ∧ gI w 20 0 = nI (c2 (K 0) R 10) ∧
  (∃ M, M < 2 ^ K 0 ∧ gI w 20 1 = nI M ∧ ∀ g, g < K 0 → M.testBit g = decide (0 < c2 (K 0) (fun h g' => R h g' && (g' == g)) 10)) ∧
  gI w 20 2 = b01 (decide (0 < c2 (K 0) (fun h g' => R h g' && (g' == K 0)) 10)) ∧
  (∃ l, gI w 20 3 = aI l ∧ LeastP (K 0) R l) ∧
  ∀ d, d < K 0 → gI w 21 d = nI (c2 (K 0) (fun h g => R h g && eatq K h g d) 10)
section LK
variable {w : HW} {k : Nat} {K : Nat → Nat} {A B : Nat}
theorem weigh84_L (hk : k ≠ 21) (W : WF K) {E : Nat} (hE : E < 2 ^ 31) (c : Nat → Nat) : ∀ F i (w : HW), i ≤ K 0 → K 0 - i < F → gI w k 1 = nI (K 0) → (∀ d, d < K 0 → gI w 21 d = if d < i then nI (c d + tB E d) else nI (c d)) → ∃ w', fX2_weigh_84 k (nI E) F w (nI i) = some w' ∧ (∀ d, d < K 0 → gI w' 21 d = nI (c d + tB E d)) ∧ (∀ a f, a ≠ 21 → gI w' a f = gI w a f) := by
  have hb := W.b
  intro F
  induction F with
  | zero => intro i w a b; omega
  | succ F ih =>
    intro i w a b h1 h2
    rw [fX2_weigh_84, h1]
    by_cases hi : i < K 0
    · rw [if_pos (nI_lt hi (by omega)), if_pos (inB_nI (by omega) (by omega)), if_pos (inB_nI (by omega) (by omega)), ix_nI (by omega), iSr_bit hE (by omega), h2 i hi, if_neg (by omega), nI_add, lT_eq, nI_1]
      obtain ⟨w', p, q, r⟩ := ih (i + 1) (uI w 21 i (nI (c i + tB E i))) (by omega) (by omega) (by rw [gI_uI_ne hk]; exact h1) (fun d hd => by
        rw [gI_uI]
        by_cases e : d = i
        · subst e; rw [if_pos ⟨rfl, rfl⟩, if_pos (by omega)]
        · rw [if_neg (by omega), h2 d hd]
          by_cases e2 : d < i
          · rw [if_pos e2, if_pos (by omega)]
          · rw [if_neg e2, if_neg (by omega)])
      exact ⟨w', p, q, fun a f ha => by rw [r a f ha, gI_uI_ne ha]⟩
    · rw [if_neg (nI_nlt (by omega) (by omega))]
      refine ⟨w, rfl, fun d hd => ?_, fun _ _ _ => rfl⟩
      rw [h2 d hd, if_pos (by omega)]
theorem fI_lt (N : Nat) {g : Nat} (hg : g ≤ N) (hN : N < 100) : fI N g = -1 ↔ g = N := by
  unfold fI
  by_cases h : g = N
  · rw [if_pos h]; exact ⟨fun _ => h, fun _ => rfl⟩
  · rw [if_neg h]; exact ⟨fun z => absurd z (nI_ne_m1 (by omega)), fun z => absurd z h⟩
theorem nI_eqv {a b : Nat} (ha : a < 2 ^ 31) (hb : b < 2 ^ 31) : (nI a = nI b) ↔ a = b := nI_eq ha hb
theorem and_lt31 {a b : Nat} (ha : a < 2 ^ 31) : a &&& b < 2 ^ 31 := Nat.lt_of_le_of_lt Nat.and_le_left ha
theorem weigh_ok (hk : k ≠ 20 ∧ k ≠ 21) (W : WF K) {R : Nat → Nat → Bool} (h1 : gI w k 1 = nI (K 0)) (h3 : gI w k 3 = nI (K 2)) (hA : A < 2 ^ 31) (hB : B < 2 ^ 31) (H : HX K A B w R) {h g : Nat} (hh : h < 10) (hg : g ≤ K 0) (e : R h g = false) (hR : ∀ h' g', h' < 10 → g' ≤ K 0 → R h' g' = true → h' ≤ h) : ∃ w', fX2_weigh w k (nI h) (fI (K 0) g) = some w' ∧ HX K A B w' (addq R h g (fitAB K A B h g)) ∧ (∀ a f, a ≠ 20 → a ≠ 21 → gI w' a f = gI w a f) := by
  have hb := W.b
  obtain ⟨x5, x6, x0, ⟨M, xM, x1, x1b⟩, x2, ⟨l, x3, x3b⟩, x4⟩ := id H
  have hE : bS (eatq K h g) (K 0) < 2 ^ 31 := bS_lt31 _ (by omega)
  have hc : c2 (K 0) R 10 < 2 ^ 31 := by
    have := c2_le (K 0) R 10
    omega
  unfold fX2_weigh
  rw [eatD_ok h1 h3 W hh hg, bI_some, x5, x6, nI_and, nI_and]
  by_cases f1 : bS (eatq K h g) (K 0) &&& A = A
  · rw [if_pos (congrArg nI f1)]
    by_cases f2 : bS (eatq K h g) (K 0) &&& B = 0
    · have hf : fitAB K A B h g = true := by unfold fitAB; rw [decide_eq_true f1, decide_eq_true f2]; rfl
      rw [if_neg (fun z => z (congrArg nI f2)), lT_eq, hf]
      -- the fields once counted
      have wk : ∀ w8 : HW, (∀ a f, a ≠ 20 → gI w8 a f = gI w a f) → gI w8 20 5 = nI A → gI w8 20 6 = nI B → gI w8 20 0 = nI (c2 (K 0) R 10 + 1) → gI w8 20 3 = gI w 20 3 → (∃ M, M < 2 ^ K 0 ∧ gI w8 20 1 = nI M ∧ ∀ g', g' < K 0 → M.testBit g' = decide (0 < c2 (K 0) (fun h' g'' => addq R h g true h' g'' && (g'' == g')) 10)) → gI w8 20 2 = b01 (decide (0 < c2 (K 0) (fun h' g' => addq R h g true h' g' && (g' == K 0)) 10)) → ∃ w', fX2_weigh_68 w8 k (nI h) (nI (bS (eatq K h g) (K 0))) = some w' ∧ HX K A B w' (addq R h g true) ∧ (∀ a f, a ≠ 20 → a ≠ 21 → gI w' a f = gI w a f) := by
        intro w8 ho g5 g6 g0 g3 g1 g2
        have y0 : c2 (K 0) (addq R h g true) 10 = c2 (K 0) R 10 + 1 := by
          have := c2_addq (N := K 0) (R := R) (h0 := h) (g0 := g) (b := true) tru hh hg e
          rw [c2_tru, c2_tru] at this
          exact this
        have y4 : ∀ d, d < K 0 → c2 (K 0) (fun h' g' => R h' g' && eatq K h' g' d) 10 + tB (bS (eatq K h g) (K 0)) d = c2 (K 0) (fun h' g' => addq R h g true h' g' && eatq K h' g' d) 10 := by
          intro d hd
          rw [c2_addq (fun h' g' => eatq K h' g' d) hh hg e]
          unfold tB
          rw [bS_bit]
          cases q : eatq K h g d <;> simp [hd]
        have yl := x3b.step hh hg e hR
        have fin : ∀ w9 : HW, (∀ a f, a ≠ 20 → gI w9 a f = gI w8 a f) → (∀ f, f ≠ 3 → gI w9 20 f = gI w8 20 f) → gI w9 20 3 = aI (if l = 0 then h + 1 else l) → ∃ w', fX2_weigh_84 k (nI (bS (eatq K h g) (K 0))) FU w9 0 = some w' ∧ HX K A B w' (addq R h g true) ∧ (∀ a f, a ≠ 20 → a ≠ 21 → gI w' a f = gI w a f) := by
          intro w9 o1 o2 o3
          obtain ⟨w', p, q, r⟩ := weigh84_L (k := k) hk.2 W hE (fun d => c2 (K 0) (fun h' g' => R h' g' && eatq K h' g' d) 10) FU 0 w9 (by omega) (by rw [FU_eq]; omega) (by rw [o1 _ _ hk.1, ho _ _ hk.1]; exact h1) (fun d hd => by rw [if_neg (by omega), o1 _ _ (by omega), ho _ _ (by omega)]; exact x4 d hd)
          have r0 : ∀ f, gI w' 20 f = gI w9 20 f := fun f => r 20 f (by omega)
          refine ⟨w', p, ⟨?_, ?_, ?_, ?_, ?_, ⟨_, ?_, yl⟩, fun d hd => ?_⟩, fun a f a1 a2 => ?_⟩
          · rw [r0, o2 _ (by omega)]; exact g5
          · rw [r0, o2 _ (by omega)]; exact g6
          · rw [r0, o2 _ (by omega), y0]; exact g0
          · rw [r0, o2 _ (by omega)]; exact g1
          · rw [r0, o2 _ (by omega)]; exact g2
          · rw [r0]; exact o3
          · rw [q d hd, y4 d hd]
          · rw [r a f a2, o1 a f a1, ho a f a1]
        unfold fX2_weigh_68
        rw [g3, x3]
        by_cases hl : l = 0
        · rw [if_pos (by rw [hl]; rfl), lT_eq]
          refine fin _ (fun a f ha => gI_uI_ne ha) (fun f hf => gI_uI_nf hf) ?_
          rw [gI_uI_at, if_pos hl, aI_s]
        · rw [if_neg (fun z => hl ((aI_m1 (by have := x3b.1; omega)).mp z))]
          refine fin _ (fun a f ha => rfl) (fun f hf => rfl) ?_
          rw [g3, x3, if_neg hl]
      by_cases hN : g = K 0
      · rw [if_pos ((fI_lt (K 0) hg (by omega)).mpr hN), lT_eq]
        refine wk _ (fun a f ha => ?_) ?_ ?_ ?_ ?_ ⟨M, xM, ?_, fun g' hg' => ?_⟩ ?_
        · rw [gI_uI_ne ha, gI_uI_ne ha]
        · rw [gI_uI_nf (by omega), gI_uI_nf (by omega)]; exact x5
        · rw [gI_uI_nf (by omega), gI_uI_nf (by omega)]; exact x6
        · rw [gI_uI_nf (by omega), gI_uI_at, x0]; exact nI_1 _
        · rw [gI_uI_nf (by omega), gI_uI_nf (by omega)]
        · rw [gI_uI_nf (by omega), gI_uI_nf (by omega)]; exact x1
        · rw [x1b g' hg', c2_addq (fun _ g'' => g'' == g') hh hg e, if_neg (by simp; omega)]
          rfl
        · rw [gI_uI_at, c2_addq (fun _ g'' => g'' == K 0) hh hg e, if_pos (by simp [hN]), decide_eq_true (by omega)]
          rfl
      · rw [if_neg (fun z => hN ((fI_lt (K 0) hg (by omega)).mp z)), show fI (K 0) g = nI g from if_neg hN, lT_eq]
        refine wk _ (fun a f ha => ?_) ?_ ?_ ?_ ?_ ⟨M ||| 2 ^ g, or_lt xM (Nat.pow_lt_pow_right (by omega) (by omega)), ?_, fun g' hg' => ?_⟩ ?_
        · rw [gI_uI_ne ha, gI_uI_ne ha]
        · rw [gI_uI_nf (by omega), gI_uI_nf (by omega)]; exact x5
        · rw [gI_uI_nf (by omega), gI_uI_nf (by omega)]; exact x6
        · rw [gI_uI_nf (by omega), gI_uI_at, x0]; exact nI_1 _
        · rw [gI_uI_nf (by omega), gI_uI_nf (by omega)]
        · rw [gI_uI_at, gI_uI_nf (by omega), x1, iSl_1 (by omega), nI_or]
        · rw [Nat.testBit_or, Nat.testBit_two_pow, x1b g' hg', c2_addq (fun _ g'' => g'' == g') hh hg e]
          by_cases q : g = g'
          · subst q; rw [if_pos (by simp)]; simp
          · rw [if_neg (by simp [q]), Nat.add_zero, decide_eq_false q, Bool.or_false]
        · rw [gI_uI_nf (by omega), gI_uI_nf (by omega), x2, c2_addq (fun _ g'' => g'' == K 0) hh hg e, if_neg (by simp [hN])]
          rfl
    · have hf : fitAB K A B h g = false := by unfold fitAB; rw [decide_eq_true f1, decide_eq_false f2]; rfl
      rw [if_pos (show ¬ nI (bS (eatq K h g) (K 0) &&& B) = 0 from fun z => f2 ((nI_eqv (b := 0) (and_lt31 hE) (by omega)).mp z)), hf, addq_f]
      exact ⟨w, rfl, H, fun _ _ _ _ => rfl⟩
  · have hf : fitAB K A B h g = false := by unfold fitAB; rw [decide_eq_false f1]; rfl
    rw [if_neg (fun z => f1 ((nI_eqv (and_lt31 hE) hA).mp z)), hf, addq_f]
    exact ⟨w, rfl, H, fun _ _ _ _ => rfl⟩
theorem neg_lt (n : Nat) (h : n < 2 ^ 31) : (-1 : Int32) < nI n := by
  rw [fa_lt, nI_toInt h]
  have e : (-1 : Int32).toInt = -1 := rfl
  omega
theorem look63_L (hk : k ≠ 20 ∧ k ≠ 21) (W : WF K) (hA : A < 2 ^ 31) (hB : B < 2 ^ 31) {h : Nat} (hh : h < 10) (Q : HW → Int32 → Option (Int32 × HW)) : ∀ F i (w : HW) (R : Nat → Nat → Bool), i ≤ K 0 → K 0 - i < F → gI w k 1 = nI (K 0) → gI w k 3 = nI (K 2) → HX K A B w R → (∀ h' g', h' < 10 → g' ≤ K 0 → R h' g' = true → h' ≤ h) → (∀ g', i ≤ g' → g' < K 0 → R h g' = false) → ∃ w' R', fX2_look_63 Q k (nI h) F w (nI i) = Q w' (nI (h + 1)) ∧ HX K A B w' R' ∧ (∀ a f, a ≠ 20 → a ≠ 21 → gI w' a f = gI w a f) ∧ (∀ h' g', R' h' g' = if h' = h ∧ i ≤ g' ∧ g' < K 0 then fitAB K A B h g' else R h' g') := by
  have hb := W.b
  intro F
  induction F with
  | zero => intro i w R a b; omega
  | succ F ih =>
    intro i w R a b h1 h3 H hR hz
    rw [fX2_look_63, h1]
    by_cases hi : i < K 0
    · obtain ⟨w1, e1, e2, e3⟩ := weigh_ok hk W h1 h3 hA hB H hh (g := i) (by omega) (hz i (by omega) hi) hR
      rw [show fI (K 0) i = nI i from if_neg (by omega)] at e1
      rw [if_pos (nI_lt hi (by omega)), e1, bI_some, nI_1]
      obtain ⟨w', R', p, q, r, t⟩ := ih (i + 1) w1 _ (by omega) (by omega) (by rw [e3 _ _ hk.1 hk.2]; exact h1) (by rw [e3 _ _ hk.1 hk.2]; exact h3) e2 (fun h' g' u v x => by
        by_cases c : h' = h ∧ g' = i
        · omega
        · rw [addq_ne c] at x; exact hR h' g' u v x) (fun g' u v => by rw [addq_ne (by omega)]; exact hz g' (by omega) v)
      refine ⟨w', R', p, q, fun a f c d => (r a f c d).trans (e3 a f c d), fun h' g' => ?_⟩
      rw [t h' g']
      by_cases c : h' = h ∧ g' = i
      · obtain ⟨rfl, rfl⟩ := c
        rw [if_neg (by omega), if_pos ⟨rfl, by omega, hi⟩, addq_at (hz g' (by omega) hi)]
      · rw [addq_ne c]
        by_cases c2 : h' = h ∧ i + 1 ≤ g' ∧ g' < K 0
        · rw [if_pos c2, if_pos ⟨c2.1, by omega, c2.2.2⟩]
        · rw [if_neg c2, if_neg (by omega)]
    · rw [if_neg (nI_nlt (by omega) (by omega)), nI_1]
      exact ⟨w, R, rfl, H, fun _ _ _ _ => rfl, fun h' g' => by rw [if_neg (by omega)]⟩
theorem look54_L (hk : k ≠ 20 ∧ k ≠ 21) (W : WF K) (hA : A < 2 ^ 31) (hB : B < 2 ^ 31) : ∀ F h (w : HW) (R : Nat → Nat → Bool), h ≤ 10 → 10 - h < F → gI w k 1 = nI (K 0) → gI w k 3 = nI (K 2) → HX K A B w R → (∀ h' g', g' ≤ K 0 → R h' g' = if h' < h then fitAB K A B h' g' else false) → ∃ w', fX2_look_54 k F w (nI h) = some (1, w') ∧ HX K A B w' (fitAB K A B) ∧ (∀ a f, a ≠ 20 → a ≠ 21 → gI w' a f = gI w a f) := by
  have hb := W.b
  intro F
  induction F with
  | zero => intro i w R a b; omega
  | succ F ih =>
    intro h w R a b h1 h3 H hR
    rw [fX2_look_54]
    by_cases hh : h < 10
    · rw [if_pos (show ¬ 9 < nI h from nI_nlt (a := 9) (by omega) (by omega))]
      have hm : ∀ h' g', h' < 10 → g' ≤ K 0 → R h' g' = true → h' ≤ h := fun h' g' u v x => by
        rw [hR h' g' v] at x
        by_cases c : h' < h
        · omega
        · rw [if_neg c] at x; cases x
      obtain ⟨w1, e1, e2, e3⟩ := weigh_ok hk W h1 h3 hA hB H hh (g := K 0) (by omega) (by rw [hR _ _ (by omega), if_neg (by omega)]) hm
      rw [show fI (K 0) (K 0) = -1 from if_pos rfl] at e1
      have st : ∀ Q : HW → Int32 → Option (Int32 × HW), fX2_look_63 Q k (nI h) FU w (-1) = fX2_look_63 Q k (nI h) 99999 w1 (nI 0) := by
        intro Q
        rw [FU_eq, fX2_look_63, h1, if_pos (neg_lt (K 0) (by omega)), e1, bI_some]
        rfl
      rw [st]
      obtain ⟨w', R', p, q, r, t⟩ := look63_L hk W hA hB hh (fun w x3 => fX2_look_54 k F w x3) 99999 0 w1 _ (by omega) (by omega) (by rw [e3 _ _ hk.1 hk.2]; exact h1) (by rw [e3 _ _ hk.1 hk.2]; exact h3) e2 (fun h' g' u v x => by
        by_cases c : h' = h ∧ g' = K 0
        · omega
        · rw [addq_ne c] at x; exact hm h' g' u v x) (fun g' u v => by rw [addq_ne (by omega), hR _ _ (by omega), if_neg (by omega)])
      obtain ⟨w2, z1, z2, z3⟩ := ih (h + 1) w' R' (by omega) (by omega) (by rw [r _ _ hk.1 hk.2, e3 _ _ hk.1 hk.2]; exact h1) (by rw [r _ _ hk.1 hk.2, e3 _ _ hk.1 hk.2]; exact h3) q (fun h' g' v => by
        rw [t h' g']
        by_cases c : h' = h
        · subst c
          rw [if_pos (show h' < h' + 1 by omega)]
          by_cases c2 : g' = K 0
          · subst c2
            rw [if_neg (by omega), addq_at (by rw [hR _ _ (by omega), if_neg (by omega)])]
          · rw [if_pos ⟨rfl, by omega, by omega⟩]
        · rw [if_neg (fun z => c z.1), addq_ne (fun z => c z.1), hR h' g' v]
          by_cases c2 : h' < h
          · rw [if_pos c2, if_pos (by omega)]
          · rw [if_neg c2, if_neg (by omega)])
      exact ⟨w2, p.trans z1, z2, fun a f c d => ((z3 a f c d).trans (r a f c d)).trans (e3 a f c d)⟩
    · have e : h = 10 := by omega
      subst e
      rw [if_neg (fun z => z (show 9 < nI 10 from nI_lt (a := 9) (by omega) (by omega)))]
      refine ⟨w, rfl, ?_, fun _ _ _ _ => rfl⟩
      have cg : ∀ q : Nat → Nat → Bool, c2 (K 0) (fun h g => R h g && q h g) 10 = c2 (K 0) (fun h g => fitAB K A B h g && q h g) 10 := fun q => c2_congr 10 (fun h g u v => by rw [hR h g v, if_pos u])
      obtain ⟨x5, x6, x0, ⟨M, xM, x1, x1b⟩, x2, ⟨l, x3, x3b⟩, x4⟩ := H
      refine ⟨x5, x6, ?_, ⟨M, xM, x1, fun g hg => ?_⟩, ?_, ⟨l, x3, x3b.congr (fun h g u v => by rw [hR h g v, if_pos u])⟩, fun d hd => ?_⟩
      · rw [x0, c2_congr 10 (fun h g u v => by rw [hR h g v, if_pos u])]
      · rw [x1b g hg, cg]
      · rw [x2, cg]
      · rw [x4 d hd, cg]
theorem look33_L (hk : k ≠ 20 ∧ k ≠ 21) (W : WF K) (hA : A < 2 ^ 31) (hB : B < 2 ^ 31) : ∀ F i (w : HW), i ≤ 14 → 14 - i < F → gI w k 1 = nI (K 0) → gI w k 3 = nI (K 2) → gI w 20 5 = nI A → gI w 20 6 = nI B → gI w 20 0 = 0 → gI w 20 1 = 0 → gI w 20 2 = 0 → gI w 20 3 = -1 → (∀ d, d < i → gI w 21 d = 0) → ∃ w', fX2_look_33 k F w (nI i) = some (1, w') ∧ HX K A B w' (fitAB K A B) ∧ (∀ a f, a ≠ 20 → a ≠ 21 → gI w' a f = gI w a f) := by
  have hb := W.b
  intro F
  induction F with
  | zero => intro i w a b; omega
  | succ F ih =>
    intro i w a b h1 h3 x5 x6 x0 x1 x2 x3 x4
    rw [fX2_look_33]
    by_cases hi : i < 14
    · rw [if_pos (show nI i < 14 from nI_lt (b := 14) hi (by omega)), if_pos (inB_nI (by omega) (by omega)), ix_nI (by omega), lT_eq, nI_1]
      obtain ⟨w', p, q, r⟩ := ih (i + 1) (uI w 21 i 0) (by omega) (by omega) (by rw [gI_uI_ne hk.2]; exact h1) (by rw [gI_uI_ne hk.2]; exact h3) (by rw [gI_uI_ne (by omega)]; exact x5) (by rw [gI_uI_ne (by omega)]; exact x6) (by rw [gI_uI_ne (by omega)]; exact x0) (by rw [gI_uI_ne (by omega)]; exact x1) (by rw [gI_uI_ne (by omega)]; exact x2) (by rw [gI_uI_ne (by omega)]; exact x3) (fun d hd => by
        rw [gI_uI]
        by_cases e : d = i
        · subst e; rw [if_pos ⟨rfl, rfl⟩]
        · rw [if_neg (by omega)]; exact x4 d (by omega))
      exact ⟨w', p, q, fun a f c d => by rw [r a f c d, gI_uI_ne d]⟩
    · rw [if_neg (show ¬ nI i < 14 from nI_nlt (b := 14) (by omega) (by omega))]
      have z : ∀ q : Nat → Nat → Bool, (∀ h g, q h g = false) → c2 (K 0) q 10 = 0 := fun q hq => by
        rcases Nat.eq_zero_or_pos (c2 (K 0) q 10) with h | h
        · exact h
        · obtain ⟨a, b, _, _, c⟩ := (c2_pos 10).mp h
          rw [hq] at c; cases c
      refine look54_L hk W hA hB FU 0 w (fun _ _ => false) (by omega) (by rw [FU_eq]; omega) h1 h3 ⟨x5, x6, ?_, ⟨0, Nat.two_pow_pos _, x1, fun g hg => ?_⟩, ?_, ⟨0, x3, by omega, fun _ _ _ _ _ => rfl, fun z => by omega⟩, fun d hd => ?_⟩ (fun h g u => by rw [if_neg (by omega)])
      · rw [z _ (fun _ _ => rfl)]; exact x0
      · simp only [Bool.false_and]; rw [z _ (fun _ _ => rfl)]; simp
      · simp only [Bool.false_and]; rw [z _ (fun _ _ => rfl)]; exact x2
      · simp only [Bool.false_and]; rw [z _ (fun _ _ => rfl)]; exact x4 d (by omega)
end LK
/-- the day of a pair of the row -/
def pdy (v : Nat → Int64) (p : Nat) : Nat := (v (2 * p)).toInt.toNat
def pvl (v : Nat → Int64) (p : Nat) : Bool := decide (v (2 * p + 1) = 1)
def dq (N : Nat) (x : Int64) : Prop := ¬ lg_cmp x 0 < 0 ∧ lg_cmp x (lN N) < 0
theorem lgc_lt (x y : Int64) : lg_cmp x y < 0 ↔ x.toInt < y.toInt := by
  unfold lg_cmp
  by_cases h1 : x > y
  · rw [if_pos h1]
    have := (fa_lt64 _ _).mp h1
    exact ⟨fun z => absurd z (by decide), fun z => by omega⟩
  · rw [if_neg h1]
    have h1' : ¬ y.toInt < x.toInt := fun z => h1 ((fa_lt64 _ _).mpr z)
    by_cases h2 : x = y
    · subst h2; rw [if_pos rfl]; exact ⟨fun z => absurd z (by decide), fun z => by omega⟩
    · rw [if_neg h2]
      have h2' : ¬ x.toInt = y.toInt := fun z => h2 (Int64.toInt_inj.mp z)
      exact ⟨fun _ => by omega, fun _ => by decide⟩
theorem lgc_gt (x y : Int64) : 0 < lg_cmp x y ↔ y.toInt < x.toInt := by
  unfold lg_cmp
  by_cases h1 : x > y
  · rw [if_pos h1]; exact ⟨fun _ => (fa_lt64 _ _).mp h1, fun _ => by decide⟩
  · rw [if_neg h1]
    refine ⟨fun z => ?_, fun z => absurd ((fa_lt64 _ _).mpr z) h1⟩
    split at z
    · exact absurd z (by decide)
    · exact absurd z (by decide)
theorem dq_iff {N : Nat} (hN : N < 100) {x : Int64} : dq N x ↔ 0 ≤ x.toInt ∧ x.toInt < N := by
  unfold dq
  rw [lgc_lt, lgc_lt, lN_toI (by omega)]
  have e0 : (0 : Int64).toInt = 0 := rfl
  omega
theorem dq_nat {N : Nat} (hN : N < 100) {x : Int64} (h : dq N x) : x.toInt32 = nI x.toInt.toNat ∧ x.toInt.toNat < N := by
  have h2 := (dq_iff hN).mp h
  refine ⟨?_, by omega⟩
  apply Int32.toInt_inj.mp
  rw [Int64.toInt_toInt32, nI_toInt (by omega), Int.bmod_eq_of_le (by omega) (by omega)]
  omega
def pOk (N : Nat) (v : Nat → Int64) (m : Nat) : Prop := ∀ p, p < m → dq N (v (2 * p)) ∧ bq (v (2 * p + 1))
def aM (v : Nat → Int64) : Nat → Nat
  | 0 => 0
  | m + 1 => if pvl v m = true then aM v m ||| 2 ^ pdy v m else aM v m
def bM (v : Nat → Int64) : Nat → Nat
  | 0 => 0
  | m + 1 => if pvl v m = true then bM v m else bM v m ||| 2 ^ pdy v m
def fitB (K : Nat → Nat) (v : Nat → Int64) (h g : Nat) : Nat → Bool
  | 0 => true
  | m + 1 => fitB K v h g m && (eatq K h g (pdy v m) == pvl v m)
theorem and_or_pow {E A d : Nat} : (E &&& (A ||| 2 ^ d) = A ||| 2 ^ d) ↔ (E &&& A = A ∧ E.testBit d = true) := by
  constructor
  · intro h
    have hb : ∀ i, (E.testBit i && (A.testBit i || decide (d = i))) = (A.testBit i || decide (d = i)) := fun i => by
      have := congrArg (fun x => x.testBit i) h
      simpa [Nat.testBit_and, Nat.testBit_or, Nat.testBit_two_pow] using this
    refine ⟨Nat.eq_of_testBit_eq fun i => ?_, ?_⟩
    · rw [Nat.testBit_and]
      have := hb i
      cases hA : A.testBit i
      · simp
      · rw [hA] at this; simpa using this
    · have := hb d
      simpa using this
  · rintro ⟨h1, h2⟩
    apply Nat.eq_of_testBit_eq
    intro i
    have := congrArg (fun x => x.testBit i) h1
    simp only [Nat.testBit_and, Nat.testBit_or, Nat.testBit_two_pow] at this ⊢
    by_cases e : d = i
    · subst e; simp [h2]
    · simp [e, this]
theorem and_or_pow0 {E A d : Nat} : (E &&& (A ||| 2 ^ d) = 0) ↔ (E &&& A = 0 ∧ E.testBit d = false) := by
  constructor
  · intro h
    have hb : ∀ i, (E.testBit i && (A.testBit i || decide (d = i))) = false := fun i => by
      have := congrArg (fun x => x.testBit i) h
      simpa [Nat.testBit_and, Nat.testBit_or, Nat.testBit_two_pow] using this
    refine ⟨Nat.eq_of_testBit_eq fun i => ?_, ?_⟩
    · rw [Nat.testBit_and, Nat.zero_testBit]
      have := hb i
      cases hA : A.testBit i
      · simp
      · rw [hA] at this; simpa using this
    · have := hb d
      simpa using this
  · rintro ⟨h1, h2⟩
    apply Nat.eq_of_testBit_eq
    intro i
    have := congrArg (fun x => x.testBit i) h1
    simp only [Nat.testBit_and, Nat.testBit_or, Nat.testBit_two_pow, Nat.zero_testBit] at this ⊢
    by_cases e : d = i
    · subst e; simp [h2]
    · simp [e, this]
theorem fitAB_ok {K : Nat → Nat} (W : WF K) {v : Nat → Int64} {h g : Nat} : ∀ m, pOk (K 0) v m → fitAB K (aM v m) (bM v m) h g = fitB K v h g m ∧ aM v m < 2 ^ K 0 ∧ bM v m < 2 ^ K 0 := by
  have hb := W.b
  intro m
  induction m with
  | zero =>
    intro _
    refine ⟨?_, Nat.two_pow_pos _, Nat.two_pow_pos _⟩
    unfold fitAB aM bM fitB
    simp
  | succ m ih =>
    intro hp
    obtain ⟨i1, i2, i3⟩ := ih (fun p q => hp p (by omega))
    have hd := (dq_nat (by omega) (hp m (by omega)).1).2
    have hd' : pdy v m < K 0 := hd
    have hpw : 2 ^ pdy v m < 2 ^ K 0 := Nat.pow_lt_pow_right (by omega) hd'
    have eb : (bS (eatq K h g) (K 0)).testBit (pdy v m) = eatq K h g (pdy v m) := by rw [bS_bit, decide_eq_true hd', Bool.true_and]
    unfold aM bM fitB
    rw [← i1]
    by_cases c : pvl v m = true
    · rw [if_pos c, if_pos c]
      refine ⟨?_, or_lt i2 hpw, i3⟩
      unfold fitAB
      rw [c, show decide (bS (eatq K h g) (K 0) &&& (aM v m ||| 2 ^ pdy v m) = aM v m ||| 2 ^ pdy v m) = decide (bS (eatq K h g) (K 0) &&& aM v m = aM v m ∧ (bS (eatq K h g) (K 0)).testBit (pdy v m) = true) from decide_eq_decide.mpr and_or_pow, eb]
      cases eatq K h g (pdy v m) <;> simp
    · rw [if_neg c, if_neg c]
      refine ⟨?_, i2, or_lt i3 hpw⟩
      unfold fitAB
      rw [show pvl v m = false by simpa using c, show decide (bS (eatq K h g) (K 0) &&& (bM v m ||| 2 ^ pdy v m) = 0) = decide (bS (eatq K h g) (K 0) &&& bM v m = 0 ∧ (bS (eatq K h g) (K 0)).testBit (pdy v m) = false) from decide_eq_decide.mpr and_or_pow0, eb]
      cases eatq K h g (pdy v m) <;> simp
theorem readRow_L {K : Nat → Nat} (W : WF K) {k1 k2 m : Nat} (hk1 : k1 ≠ 20) (hk2 : k2 ≠ 20) (v : Nat → Int64) (hm : 2 * m ≤ 60) : ∀ F p (w : HW), p ≤ m → m - p < F → gI w k1 1 = nI (K 0) → gI w k2 2 = nI (2 * m) → (∀ i, i < 60 → gL w (k2 + 1) i = v i) → pOk (K 0) v p → gI w 20 5 = nI (aM v p) → gI w 20 6 = nI (bM v p) → ∃ r w', fX2_readRow_23 k1 k2 F w (nI (2 * p)) = some (r, w') ∧ ((r = 1 ∧ pOk (K 0) v m ∧ gI w' 20 5 = nI (aM v m) ∧ gI w' 20 6 = nI (bM v m)) ∨ (r = 0 ∧ ¬ pOk (K 0) v m)) ∧ (∀ a f, a ≠ 20 → gI w' a f = gI w a f) := by
  have hb := W.b
  intro F
  induction F with
  | zero => intro p w h1 h2; omega
  | succ F ih =>
    intro p w h1 h2 h0 h3 h4 h5 h6 h7
    rw [fX2_readRow_23, h3, nI_1]
    by_cases hp : p < m
    · rw [if_pos (nI_lt (by omega) (by omega)), if_pos (inB_nI (by omega) (by omega)), ix_nI (by omega), h4 _ (by omega), lT_eq, if_pos (inB_nI (by omega) (by omega)), ix_nI (by omega), h4 _ (by omega), lT_eq, h0, wide_nI (by omega)]
      by_cases a1 : lg_cmp (v (2 * p)) 0 < 0
      · rw [if_neg (fun z => z a1)]
        exact ⟨_, _, rfl, Or.inr ⟨rfl, fun z => (z p hp).1.1 a1⟩, fun _ _ _ => rfl⟩
      rw [if_pos a1]
      by_cases a2 : lg_cmp (v (2 * p)) (lN (K 0)) < 0
      · rw [if_pos a2]
        by_cases b1 : lg_cmp (v (2 * p + 1)) 0 < 0
        · rw [if_neg (fun z => z b1)]
          exact ⟨_, _, rfl, Or.inr ⟨rfl, fun z => (z p hp).2.1 b1⟩, fun _ _ _ => rfl⟩
        rw [if_pos b1]
        by_cases b2 : 0 < lg_cmp (v (2 * p + 1)) 1
        · rw [if_pos b2]
          exact ⟨_, _, rfl, Or.inr ⟨rfl, fun z => (z p hp).2.2 b2⟩, fun _ _ _ => rfl⟩
        rw [if_neg b2]
        have hd := dq_nat (by omega) (show dq (K 0) (v (2 * p)) from ⟨a1, a2⟩)
        have hd2 : (v (2 * p)).toInt32 = nI (pdy v p) := hd.1
        have hd3 : pdy v p < K 0 := hd.2
        have hpp : pOk (K 0) v (p + 1) := fun q hq => by
          by_cases e : q = p
          · subst e; exact ⟨⟨a1, a2⟩, ⟨b1, b2⟩⟩
          · exact h5 q (by omega)
        rw [hd2, show nI (2 * p) + 2 = nI (2 * (p + 1)) from nI_add (2 * p) 2]
        by_cases c : lg_cmp (v (2 * p + 1)) 1 = 0
        · have c' : pvl v p = true := decide_eq_true ((lg_0 _ _).mp c)
          rw [if_pos c, lT_eq, h6, iSl_1 (by omega), nI_or]
          obtain ⟨r, w', q0, q1, q2⟩ := ih (p + 1) (uI w 20 5 (nI (aM v p ||| 2 ^ pdy v p))) (by omega) (by omega) (by rw [gI_uI_ne hk1]; exact h0) (by rw [gI_uI_ne hk2]; exact h3) (fun i hi => h4 i hi) hpp (by rw [gI_uI_at]; show _ = nI (if pvl v p = true then _ else _); rw [if_pos c']) (by rw [gI_uI_nf (by omega), h7]; show _ = nI (if pvl v p = true then _ else _); rw [if_pos c'])
          exact ⟨r, w', q0, q1, fun a f ha => by rw [q2 a f ha, gI_uI_ne ha]⟩
        · have c' : ¬ pvl v p = true := fun z => c ((lg_0 _ _).mpr (of_decide_eq_true z))
          rw [if_neg c, lT_eq, h7, iSl_1 (by omega), nI_or]
          obtain ⟨r, w', q0, q1, q2⟩ := ih (p + 1) (uI w 20 6 (nI (bM v p ||| 2 ^ pdy v p))) (by omega) (by omega) (by rw [gI_uI_ne hk1]; exact h0) (by rw [gI_uI_ne hk2]; exact h3) (fun i hi => h4 i hi) hpp (by rw [gI_uI_nf (by omega), h6]; show _ = nI (if pvl v p = true then _ else _); rw [if_neg c']) (by rw [gI_uI_at]; show _ = nI (if pvl v p = true then _ else _); rw [if_neg c'])
          exact ⟨r, w', q0, q1, fun a f ha => by rw [q2 a f ha, gI_uI_ne ha]⟩
      · rw [if_neg a2]
        exact ⟨_, _, rfl, Or.inr ⟨rfl, fun z => a2 (z p hp).1.2⟩, fun _ _ _ => rfl⟩
    · have e : p = m := by omega
      subst e
      rw [if_neg (nI_nlt (by omega) (by omega))]
      exact ⟨_, _, rfl, Or.inl ⟨rfl, h5, h6, h7⟩, fun _ _ _ => rfl⟩
