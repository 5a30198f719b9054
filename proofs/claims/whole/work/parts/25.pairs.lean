/-! HENS, the reference's pairs -/
/-- what the reference has kept of R -/
def HM (K : Nat → Nat) (w : HW) (R : Nat → Nat → Bool) : Prop := ∃ (n : Nat) (e : Nat → Nat × Nat), gI w 79 35 = nI n ∧ (∀ i, i < n → gI w 96 i = nI (100 * (e i).1 + (e i).2) ∧ (e i).1 < 10 ∧ (e i).2 ≤ K 0) ∧ (∀ q : Nat → Nat → Bool, cN (fun i => q (e i).1 (e i).2) n = c2 (K 0) (fun h g => R h g && q h g) 10) ∧ (0 < n → R (e 0).1 (e 0).2 = true ∧ ∀ h g, h < 10 → g ≤ K 0 → R h g = true → (e 0).1 ≤ h)
def upE (q : Nat → Nat × Nat) (n : Nat) (x : Nat × Nat) (i : Nat) : Nat × Nat := if i = n then x else q i
theorem upE_at (q : Nat → Nat × Nat) (n : Nat) (x : Nat × Nat) : upE q n x n = x := if_pos rfl
theorem upE_ne {q : Nat → Nat × Nat} {n i : Nat} {x : Nat × Nat} (h : i ≠ n) : upE q n x i = q i := if_neg h
theorem cN_tru : ∀ n, cN (fun _ => true) n = n := by
  intro n
  induction n with
  | zero => rfl
  | succ n ih => unfold cN; rw [ih]; rfl
theorem HM.n {K : Nat → Nat} {w : HW} {R : Nat → Nat → Bool} (H : HM K w R) : gI w 79 35 = nI (c2 (K 0) R 10) := by
  obtain ⟨n, e, h1, h2, h3, h4⟩ := H
  have := h3 tru
  rw [c2_tru] at this
  rw [h1, ← this]
  exact congrArg nI (cN_tru n).symm
section HPM
variable {w : HW} {K : Nat → Nat}
theorem eatsBy_ok (HR : RC w K) (W : WF K) {h g d : Nat} (hh : h < 10) (hg : g ≤ K 0) (hd : d < K 0) : fX10_eatsBy w (nI (100 * h + g)) (nI d) = some (b01 (eatq K h g d)) := by
  have hb := W.b
  have e1 : iRm (nI (100 * h + g)) 100 = nI g := by
    rw [show iRm (nI (100 * h + g)) 100 = nI ((100 * h + g) % 100) from pk_rem (d := 100) (by omega) (by omega) (by omega), show (100 * h + g) % 100 = g by omega]
  have e2 : nI (100 * h + g) / 100 = nI h := by
    rw [show nI (100 * h + g) / 100 = nI ((100 * h + g) / 100) from pk_div (d := 100) (by omega) (by omega) (by omega), show (100 * h + g) / 100 = h by omega]
  have st : ∀ s : Nat, s < 100 → (s = if d ≤ g then h + d else d - g) → fX10_eatsBy_22 w (nI s) = some (b01 (eatq K h g d)) := by
    intro s hs e
    unfold fX10_eatsBy_22 eatq
    rw [if_pos (show inB 2 77 = true from rfl), ix_2, HR.r2, ← e]
    by_cases c : K 2 ≤ s
    · rw [if_pos (nI_nlt (by omega) (by omega)), decide_eq_true c]; rfl
    · rw [if_neg (fun z => z (nI_lt (by omega) (by omega))), decide_eq_false c]; rfl
  unfold fX10_eatsBy
  rw [e1, e2, lT_eq]
  by_cases c : d ≤ g
  · rw [if_pos (nI_nlt (by omega) (by omega)), nI_add]
    exact st _ (by omega) (if_pos c).symm
  · rw [if_neg (fun z => z (nI_lt (by omega) (by omega))), nI_subI (by omega)]
    exact st _ (by omega) (if_neg c).symm
theorem numberAt_ok {v : Nat → Int64} {s i : Nat} (hs : s < 4) (hi : i < 60) (hv : ∀ i, i < 60 → gL w 100 (60 * s + i) = v i) : fX10_numberAt w (nI s) (nI i) = some (v i) := by
  unfold fX10_numberAt
  rw [idx60, if_pos (inB_nI (by omega) (by omega)), ix_nI (by omega), hv _ hi]
theorem fitB_f {v : Nat → Int64} {h g p : Nat} : ∀ m, fitB K v h g p = false → p ≤ m → fitB K v h g m = false := by
  intro m
  induction m with
  | zero => intro h1 h2; have : p = 0 := by omega
            subst this; exact h1
  | succ m ih =>
    intro h1 h2
    by_cases e : p = m + 1
    · subst e; exact h1
    · unfold fitB; rw [ih h1 (by omega)]; rfl
theorem pairs133_L (HR : RC w K) (W : WF K) {s m : Nat} (hs : s < 4) {v : Nat → Int64} (hv : ∀ i, i < 60 → gL w 100 (60 * s + i) = v i) (hm : 2 * m ≤ 60) (hn : gI w 98 s = nI (2 * m)) (hp : pOk (K 0) v m) {h g : Nat} (hh : h < 10) (hg : g ≤ K 0) (K59 K64 : HW → Int32 → Option (Int32 × HW)) (x2 x3 : Int32) : ∀ F p, p ≤ m → m - p < F → fX10_layPairs_133 K59 K64 (nI s) x2 x3 (nI (100 * h + g)) F w (b01 (fitB K v h g p)) (nI (2 * p)) = fX10_layPairs_198 w K59 K64 (nI s) x2 x3 (nI (100 * h + g)) (b01 (fitB K v h g m)) := by
  have hb := W.b
  intro F
  induction F with
  | zero => intro p a b; omega
  | succ F ih =>
    intro p a b
    rw [fX10_layPairs_133, if_pos (inB_nI (by omega) (by omega)), ix_nI (by omega), hn]
    by_cases h1 : p < m
    · rw [if_pos (nI_lt (by omega) (by omega)), if_b01]
      have e2 : nI (2 * p) + 2 = nI (2 * (p + 1)) := nI_add (2 * p) 2
      have i1 := ih (p + 1) (by omega) (by omega)
      by_cases c : fitB K v h g p = true
      · obtain ⟨d1, d2⟩ := dq_nat (by omega) (hp p h1).1
        have d1' : (v (2 * p)).toInt32 = nI (pdy v p) := d1
        rw [if_pos c, numberAt_ok hs (by omega) hv, bI_some, d1', eatsBy_ok HR W hh hg (show pdy v p < K 0 from d2), bI_some, nI_1, numberAt_ok hs (by omega) hv, bI_some]
        unfold fX10_layPairs_182
        rw [e2]
        have e3 : fitB K v h g (p + 1) = (eatq K h g (pdy v p) == pvl v p) := by
          show (fitB K v h g p && _) = _
          rw [c]; rfl
        rw [e3] at i1
        by_cases q : lg_cmp (v (2 * p + 1)) 1 = 0
        · rw [if_pos q]
          rw [show pvl v p = true from decide_eq_true ((lg_0 _ _).mp q)] at i1
          show (if b01 (eatq K h g (pdy v p)) = 1 then _ else _) = _
          rw [if_b011]
          cases hq : eatq K h g (pdy v p)
          · rw [hq] at i1; rw [if_neg (by decide)]; exact i1
          · rw [hq] at i1; rw [if_pos rfl]; exact i1
        · rw [if_neg q]
          rw [show pvl v p = false from decide_eq_false (fun z => q ((lg_0 _ _).mpr z))] at i1
          show (if b01 (eatq K h g (pdy v p)) = 0 then _ else _) = _
          rw [if_b01']
          cases hq : eatq K h g (pdy v p)
          · rw [hq] at i1; rw [if_neg (by decide)]; exact i1
          · rw [hq] at i1; rw [if_pos rfl]; exact i1
      · rw [if_neg c, e2]
        have e3 : fitB K v h g (p + 1) = false := fitB_f _ (by simpa using c) (by omega)
        rw [e3] at i1
        exact i1
    · have e : p = m := by omega
      subst e
      rw [if_neg (nI_nlt (by omega) (by omega))]
theorem HM.step {R : Nat → Nat → Bool} (H : HM K w R) (W : WF K) {h g : Nat} (hh : h < 10) (hg : g ≤ K 0) (e : R h g = false) (hR : ∀ h' g', h' < 10 → g' ≤ K 0 → R h' g' = true → h' ≤ h) (b : Bool) (K59 K64 : HW → Int32 → Option (Int32 × HW)) (x1 x2 x3 : Int32) : ∃ w', fX10_layPairs_198 w K59 K64 x1 x2 x3 (nI (100 * h + g)) (b01 b) = K64 w' (x3 + 1) ∧ HM K w' (addq R h g b) ∧ (∀ a f, a ≠ 96 → (a ≠ 79 ∨ f ≠ 35) → gI w' a f = gI w a f) ∧ (∀ a f, gL w' a f = gL w a f) := by
  have hb := W.b
  unfold fX10_layPairs_198
  rw [if_b01']
  cases b with
  | false =>
    rw [if_neg (by decide), addq_f]
    exact ⟨w, rfl, H, fun _ _ _ _ => rfl, fun _ _ => rfl⟩
  | true =>
    obtain ⟨n, q, h1, h2, h3, h4⟩ := H
    have hn0 : n = c2 (K 0) R 10 := by
      have := h3 tru
      rw [c2_tru] at this
      rw [← this]; exact (cN_tru n).symm
    have hn : n < 150 := by
      have e1 : c2 (K 0) (addq R h g true) 10 = c2 (K 0) R 10 + 1 := by
        have := c2_addq (N := K 0) (R := R) (h0 := h) (g0 := g) (b := true) tru hh hg e
        rw [c2_tru, c2_tru] at this
        exact this
      have := c2_le (K 0) (addq R h g true) 10
      omega
    rw [if_pos rfl, h1, if_pos (inB_nI hn (by omega)), ix_nI (by omega), lT_eq, lT_eq, gI_uI_ne (by omega), h1, nI_1]
    refine ⟨_, rfl, ⟨n + 1, upE q n (h, g), gI_uI_at, fun i hi => ?_, fun r => ?_, fun _ => ?_⟩, fun a f c d => ?_, fun _ _ => rfl⟩
    · rw [gI_uI_ne (by omega), gI_uI]
      by_cases c : i = n
      · subst c
        rw [if_pos ⟨rfl, rfl⟩, upE_at]
        exact ⟨rfl, hh, hg⟩
      · rw [if_neg (by omega), upE_ne c]
        exact h2 i (by omega)
    · rw [c2_addq r hh hg e, ← h3 r]
      show cN _ n + _ = _
      rw [cN_congr n (q := fun i => r (q i).1 (q i).2) (fun i hi => by rw [upE_ne (by omega)])]
      show _ + (if r (upE q n (h, g) n).1 (upE q n (h, g) n).2 = true then 1 else 0) = _
      rw [upE_at, Bool.true_and]
    · by_cases c : n = 0
      · subst c
        rw [upE_at]
        refine ⟨addq_at e, fun h' g' u v x => ?_⟩
        by_cases cc : h' = h ∧ g' = g
        · omega
        · rw [addq_ne cc] at x
          have := (c2_pos (N := K 0) (q := R) 10).mpr ⟨h', g', u, v, x⟩
          omega
      · rw [upE_ne (show 0 ≠ n by omega)]
        obtain ⟨y1, y2⟩ := h4 (by omega)
        refine ⟨by unfold addq; rw [y1]; rfl, fun h' g' u v x => ?_⟩
        by_cases cc : h' = h ∧ g' = g
        · have := hR _ _ (h2 0 (by omega)).2.1 (h2 0 (by omega)).2.2 y1
          omega
        · rw [addq_ne cc] at x
          exact y2 h' g' u v x
    · rw [gI_uI, if_neg (by omega), gI_uI_ne c]
end HPM
theorem RC.cell {w w' : HW} {K : Nat → Nat} (H : RC w K) (h : ∀ f, gI w' 80 f = gI w 80 f) : RC w' K := by
  unfold RC
  rw [show gI w' 80 = gI w 80 from funext h]
  exact H
section HPL
variable {K : Nat → Nat}
/-- what stays true while pairs are laid -/
def HS0 (K : Nat → Nat) (s m : Nat) (v : Nat → Int64) (w : HW) : Prop := RC w K ∧ gI w 98 s = nI (2 * m) ∧ ∀ i, i < 60 → gL w 100 (60 * s + i) = v i
theorem HS0.go {s m : Nat} {v : Nat → Int64} {w w' : HW} (H : HS0 K s m v w) (h1 : ∀ a f, a ≠ 96 → (a ≠ 79 ∨ f ≠ 35) → gI w' a f = gI w a f) (h2 : ∀ a f, gL w' a f = gL w a f) : HS0 K s m v w' :=
  ⟨H.1.cell (fun f => h1 80 f (by omega) (by omega)), (h1 98 s (by omega) (by omega)).trans H.2.1, fun i hi => (h2 _ _).trans (H.2.2 i hi)⟩
theorem pairs109_L (W : WF K) {s m : Nat} (hs : s < 4) {v : Nat → Int64} (hm : 2 * m ≤ 60) (hp : pOk (K 0) v m) {h : Nat} (hh : h < 10) (K59 : HW → Int32 → Option (Int32 × HW)) : ∀ F g (w : HW) (R : Nat → Nat → Bool), g ≤ K 0 + 1 → K 0 + 1 - g < F → HS0 K s m v w → HM K w R → (∀ h' g', g' ≤ K 0 → R h' g' = if h' < h ∨ (h' = h ∧ g' < g) then fitB K v h' g' m else false) → ∃ w' R', fX10_layPairs_109 K59 (nI s) (nI h) F w (nI g) = K59 w' (nI (h + 1)) ∧ HS0 K s m v w' ∧ HM K w' R' ∧ (∀ h' g', g' ≤ K 0 → R' h' g' = if h' < h + 1 then fitB K v h' g' m else false) := by
  have hb := W.b
  intro F
  induction F with
  | zero => intro g w R a b; omega
  | succ F ih =>
    intro g w R a b H0 H1 H2
    rw [fX10_layPairs_109, if_pos (show inB 0 77 = true from rfl), ix_0, H0.1.r0]
    by_cases hg : g ≤ K 0
    · have e1 : (100 : Int32) * nI h + nI g = nI (100 * h + g) := by rw [show (100 : Int32) = nI 100 from rfl, pk_mul, nI_add]
      rw [if_pos (nI_nlt (by omega) (by omega)), e1, lT_eq]
      have st := pairs133_L H0.1 W hs H0.2.2 hm H0.2.1 hp hh hg K59 (fun w x3 => fX10_layPairs_109 K59 (nI s) (nI h) F w x3) (nI h) (nI g) FU 0 (by omega) (by rw [FU_eq]; omega)
      have st' : fX10_layPairs_133 K59 (fun w x3 => fX10_layPairs_109 K59 (nI s) (nI h) F w x3) (nI s) (nI h) (nI g) (nI (100 * h + g)) FU w 1 0 = _ := st
      rw [st']
      obtain ⟨w1, p1, p2, p3, p4⟩ := H1.step W hh hg (by rw [H2 _ _ hg, if_neg (by omega)]) (fun h' g' u v' x => by
        rw [H2 _ _ v'] at x
        by_cases c : h' < h ∨ (h' = h ∧ g' < g)
        · omega
        · rw [if_neg c] at x; cases x) (fitB K v h g m) K59 (fun w x3 => fX10_layPairs_109 K59 (nI s) (nI h) F w x3) (nI s) (nI h) (nI g)
      rw [p1, nI_1]
      exact ih (g + 1) w1 _ (by omega) (by omega) (H0.go p3 p4) p2 (fun h' g' u => by
        by_cases c : h' = h ∧ g' = g
        · obtain ⟨rfl, rfl⟩ := c
          rw [addq_at (by rw [H2 _ _ hg, if_neg (by omega)]), if_pos (by omega)]
        · rw [addq_ne c, H2 _ _ u]
          by_cases c2 : h' < h ∨ (h' = h ∧ g' < g)
          · rw [if_pos c2, if_pos (by omega)]
          · rw [if_neg c2, if_neg (by omega)])
    · rw [if_neg (fun z => z (nI_lt (by omega) (by omega))), nI_1]
      refine ⟨w, R, rfl, H0, H1, fun h' g' u => ?_⟩
      rw [H2 _ _ u]
      by_cases c2 : h' < h ∨ (h' = h ∧ g' < g)
      · rw [if_pos c2, if_pos (by omega)]
      · rw [if_neg c2, if_neg (by omega)]
theorem HM.congr {w : HW} {R Q : Nat → Nat → Bool} (H : HM K w R) (h : ∀ a b, a < 10 → b ≤ K 0 → R a b = Q a b) : HM K w Q := by
  obtain ⟨n, e, h1, h2, h3, h4⟩ := H
  refine ⟨n, e, h1, h2, fun q => (h3 q).trans (c2_congr 10 (fun a b c d => by rw [h a b c d])), fun hn => ?_⟩
  obtain ⟨y1, y2⟩ := h4 hn
  exact ⟨(h _ _ (h2 0 hn).2.1 (h2 0 hn).2.2).symm.trans y1, fun a b c d x => y2 a b c d ((h a b c d).trans x)⟩
theorem pairs101_L (W : WF K) {s m : Nat} (hs : s < 4) {v : Nat → Int64} (hm : 2 * m ≤ 60) (hp : pOk (K 0) v m) : ∀ F h (w : HW) (R : Nat → Nat → Bool), h ≤ 10 → 10 - h < F → HS0 K s m v w → HM K w R → (∀ h' g', g' ≤ K 0 → R h' g' = if h' < h then fitB K v h' g' m else false) → ∃ w', fX10_layPairs_101 (nI s) F w (nI h) = some (0, w') ∧ HS0 K s m v w' ∧ HM K w' (fun h g => fitB K v h g m) := by
  have hb := W.b
  intro F
  induction F with
  | zero => intro h w R a b; omega
  | succ F ih =>
    intro h w R a b H0 H1 H2
    rw [fX10_layPairs_101]
    by_cases hh : h < 10
    · rw [if_pos (show nI h < 10 from nI_lt (b := 10) hh (by omega))]
      obtain ⟨w1, R1, p1, p2, p3, p4⟩ := pairs109_L W hs hm hp hh (fun w x2 => fX10_layPairs_101 (nI s) F w x2) FU 0 w R (by omega) (by rw [FU_eq]; omega) H0 H1 (fun h' g' u => by
        rw [H2 _ _ u]
        by_cases c : h' < h
        · rw [if_pos c, if_pos (Or.inl c)]
        · rw [if_neg c, if_neg (by omega)])
      have p1' : fX10_layPairs_109 (fun w x2 => fX10_layPairs_101 (nI s) F w x2) (nI s) (nI h) FU w 0 = fX10_layPairs_101 (nI s) F w1 (nI (h + 1)) := p1
      rw [p1']
      exact ih (h + 1) w1 R1 (by omega) (by omega) p2 p3 p4
    · have e : h = 10 := by omega
      subst e
      rw [if_neg (show ¬ nI 10 < 10 from nI_nlt (b := 10) (by omega) (by omega))]
      exact ⟨w, rfl, H0, H1.congr (fun a b c d => by rw [H2 _ _ d, if_pos c])⟩
theorem isDay64 {w : HW} (HR : RC w K) (W : WF K) (h7 : 0 < K 0) (x : Int64) : fX10_isDay w x = some (if lg_cmp x 0 < 0 then 0 else if lg_cmp x (lN (K 0)) < 0 then 1 else 0) := by
  have hb := W.b
  unfold fX10_isDay
  rw [if_pos (show inB 0 77 = true from rfl), ix_0, HR.r0, show nI (K 0) - 1 = nI (K 0 - 1) from nI_subI (b := 1) (by omega), wide_nI (by omega)]
  unfold fX10_in
  by_cases c1 : lg_cmp x 0 < 0
  · rw [if_neg (fun z => z c1), if_pos c1, bI_some]; rfl
  · rw [if_pos c1, if_neg c1]
    by_cases c2 : lg_cmp x (lN (K 0)) < 0
    · rw [if_pos c2, if_pos (fun z => by
        rw [lgc_gt, lN_toI (by omega)] at z
        rw [lgc_lt, lN_toI (by omega)] at c2
        omega), bI_some]; rfl
    · rw [if_neg c2, if_neg (fun z => z (by
        rw [lgc_gt, lN_toI (by omega)]
        rw [lgc_lt, lN_toI (by omega)] at c2
        omega)), bI_some]; rfl
theorem pairs46_L (W : WF K) (h7 : 0 < K 0) {s m : Nat} (hs : s < 4) {v : Nat → Int64} (hm : 2 * m ≤ 60) : ∀ F p (w : HW), p ≤ m → m - p < F → HS0 K s m v w → pOk (K 0) v p → ∃ r w', fX10_layPairs_46 (nI s) F w (nI (2 * p)) = some (r, w') ∧ ((r = 0 ∧ pOk (K 0) v m ∧ HM K w' (fun h g => fitB K v h g m)) ∨ (r = -2 ∧ ¬ pOk (K 0) v m)) := by
  have hb := W.b
  intro F
  induction F with
  | zero => intro p w a b; omega
  | succ F ih =>
    intro p w a b H0 h5
    rw [fX10_layPairs_46, if_pos (inB_nI (by omega) (by omega)), ix_nI (by omega), H0.2.1]
    by_cases hp : p < m
    · rw [if_pos (nI_lt (by omega) (by omega)), numberAt_ok hs (by omega) H0.2.2, bI_some, isDay64 H0.1 W h7, bI_some, nI_1, numberAt_ok hs (by omega) H0.2.2, bI_some]
      by_cases a1 : lg_cmp (v (2 * p)) 0 < 0
      · rw [if_pos a1, if_neg (fun z => z rfl)]
        exact ⟨_, _, rfl, Or.inr ⟨rfl, fun z => (z p hp).1.1 a1⟩⟩
      rw [if_neg a1]
      by_cases a2 : lg_cmp (v (2 * p)) (lN (K 0)) < 0
      · rw [if_pos a2, if_pos (by decide)]
        unfold fX10_in
        by_cases b1 : lg_cmp (v (2 * p + 1)) 0 < 0
        · rw [if_neg (fun z => z b1), bI_some, if_pos rfl]
          exact ⟨_, _, rfl, Or.inr ⟨rfl, fun z => (z p hp).2.1 b1⟩⟩
        rw [if_pos b1]
        by_cases b2 : 0 < lg_cmp (v (2 * p + 1)) 1
        · rw [if_neg (fun z => z b2), bI_some, if_pos rfl]
          exact ⟨_, _, rfl, Or.inr ⟨rfl, fun z => (z p hp).2.2 b2⟩⟩
        rw [if_pos b2, bI_some, if_neg (by decide), show nI (2 * p) + 2 = nI (2 * (p + 1)) from nI_add (2 * p) 2]
        exact ih (p + 1) w (by omega) (by omega) H0 (fun q hq => by
          by_cases e : q = p
          · subst e; exact ⟨⟨a1, a2⟩, ⟨b1, b2⟩⟩
          · exact h5 q (by omega))
      · rw [if_neg a2, if_neg (fun z => z rfl)]
        exact ⟨_, _, rfl, Or.inr ⟨rfl, fun z => a2 (z p hp).1.2⟩⟩
    · have e : p = m := by omega
      subst e
      rw [if_neg (nI_nlt (by omega) (by omega)), lT_eq]
      have z : ∀ q : Nat → Nat → Bool, (∀ h g, q h g = false) → c2 (K 0) q 10 = 0 := fun q hq => by
        rcases Nat.eq_zero_or_pos (c2 (K 0) q 10) with h | h
        · exact h
        · obtain ⟨a, b, _, _, c⟩ := (c2_pos 10).mp h
          rw [hq] at c; cases c
      obtain ⟨w', q1, q2, q3⟩ := pairs101_L W hs hm h5 FU 0 (uI w 79 35 0) (fun _ _ => false) (by omega) (by rw [FU_eq]; omega) (H0.go (fun a f c d => by rw [gI_uI, if_neg (by omega)]) (fun _ _ => rfl)) ⟨0, fun _ => (0, 0), gI_uI_at, fun i hi => by omega, fun q => by simp only [Bool.false_and]; rw [z _ (fun _ _ => rfl)]; rfl, fun h => by omega⟩ (fun h g u => by rw [if_neg (by omega)])
      exact ⟨_, w', q1, Or.inl ⟨rfl, h5, q3⟩⟩
end HPL
