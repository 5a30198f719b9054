/-! HENS: which fattened hens' hunger and feast fit a row of eatings -/
/-- how many i below n have p -/
def cN (p : Nat → Bool) : Nat → Nat
  | 0 => 0
  | n + 1 => cN p n + if p n = true then 1 else 0
theorem cN_congr {p q : Nat → Bool} : ∀ n, (∀ i, i < n → p i = q i) → cN p n = cN q n := by
  intro n
  induction n with
  | zero => intro _; rfl
  | succ n ih => intro h; unfold cN; rw [ih (fun i hi => h i (by omega)), h n (by omega)]
theorem cN_le (p : Nat → Bool) (n : Nat) : cN p n ≤ n := by
  induction n with
  | zero => exact Nat.le_refl 0
  | succ n ih => unfold cN; split <;> omega
theorem cN_add {p q : Nat → Bool} {i : Nat} (hp : p i = false) (hq : ∀ j, j ≠ i → q j = p j) (hi : q i = true) : ∀ n, i < n → cN q n = cN p n + 1 := by
  intro n
  induction n with
  | zero => intro h; omega
  | succ n ih =>
    intro h
    unfold cN
    by_cases e : n = i
    · subst e
      rw [hp, hi, cN_congr n (fun j hj => hq j (by omega))]
      simp
    · rw [ih (by omega), hq n e]; omega
theorem cN_pos {p : Nat → Bool} : ∀ n, 0 < cN p n ↔ ∃ i, i < n ∧ p i = true := by
  intro n
  induction n with
  | zero => simp [cN]
  | succ n ih =>
    unfold cN
    by_cases h : p n = true
    · rw [if_pos h]; exact ⟨fun _ => ⟨n, by omega, h⟩, fun _ => by omega⟩
    · rw [if_neg h, Nat.add_zero, ih]
      constructor
      · rintro ⟨i, h1, h2⟩; exact ⟨i, by omega, h2⟩
      · rintro ⟨i, h1, h2⟩
        by_cases e : i = n
        · subst e; exact absurd h2 h
        · exact ⟨i, by omega, h2⟩
/-- how many (h, g) with h < H, g ≤ N have q -/
def c2 (N : Nat) (q : Nat → Nat → Bool) : Nat → Nat
  | 0 => 0
  | h + 1 => c2 N q h + cN (q h) (N + 1)
theorem c2_congr {N : Nat} {p q : Nat → Nat → Bool} : ∀ H, (∀ h g, h < H → g ≤ N → p h g = q h g) → c2 N p H = c2 N q H := by
  intro H
  induction H with
  | zero => intro _; rfl
  | succ H ih => intro h; unfold c2; rw [ih (fun a b c d => h a b (by omega) d), cN_congr (N + 1) (fun i hi => h H i (by omega) (by omega))]
theorem c2_le (N : Nat) (q : Nat → Nat → Bool) (H : Nat) : c2 N q H ≤ H * (N + 1) := by
  induction H with
  | zero => exact Nat.zero_le _
  | succ H ih => have := cN_le (q H) (N + 1); unfold c2; rw [Nat.succ_mul]; omega
theorem c2_add {N : Nat} {p q : Nat → Nat → Bool} {h0 g0 : Nat} (hg : g0 ≤ N) (hp : p h0 g0 = false) (hq : ∀ h g, ¬ (h = h0 ∧ g = g0) → q h g = p h g) (h1 : q h0 g0 = true) : ∀ H, h0 < H → c2 N q H = c2 N p H + 1 := by
  intro H
  induction H with
  | zero => intro h; omega
  | succ H ih =>
    intro h
    unfold c2
    by_cases e : H = h0
    · subst e
      rw [c2_congr H (fun a b c d => hq a b (by omega)), cN_add (i := g0) hp (fun j hj => hq H j (by omega)) h1 (N + 1) (by omega)]
      omega
    · rw [ih (by omega), cN_congr (N + 1) (fun i hi => hq H i (by omega))]; omega
theorem c2_pos {N : Nat} {q : Nat → Nat → Bool} : ∀ H, 0 < c2 N q H ↔ ∃ h g, h < H ∧ g ≤ N ∧ q h g = true := by
  intro H
  induction H with
  | zero => simp [c2]
  | succ H ih =>
    unfold c2
    constructor
    · intro h
      by_cases h1 : 0 < c2 N q H
      · obtain ⟨a, b, c, d, e⟩ := ih.mp h1
        exact ⟨a, b, by omega, d, e⟩
      · obtain ⟨i, h2, h3⟩ := (cN_pos (p := q H) (N + 1)).mp (by omega)
        exact ⟨H, i, by omega, by omega, h3⟩
    · rintro ⟨a, b, c, d, e⟩
      by_cases h1 : a = H
      · subst h1
        have := (cN_pos (p := q a) (N + 1)).mpr ⟨b, by omega, e⟩
        omega
      · have := ih.mpr ⟨a, b, by omega, d, e⟩
        omega
/-- R with (h0, g0) if b -/
def addq (R : Nat → Nat → Bool) (h0 g0 : Nat) (b : Bool) (h g : Nat) : Bool := R h g || (b && (h == h0 && g == g0))
theorem addq_ne {R : Nat → Nat → Bool} {h0 g0 h g : Nat} {b : Bool} (e : ¬ (h = h0 ∧ g = g0)) : addq R h0 g0 b h g = R h g := by
  unfold addq
  have : (h == h0 && g == g0) = false := by
    cases q : (h == h0 && g == g0) with
    | false => rfl
    | true => rw [Bool.and_eq_true, beq_iff_eq, beq_iff_eq] at q; exact absurd q e
  rw [this]; simp
theorem addq_at {R : Nat → Nat → Bool} {h0 g0 : Nat} {b : Bool} (e : R h0 g0 = false) : addq R h0 g0 b h0 g0 = b := by
  unfold addq
  rw [e]; simp
theorem addq_f (R : Nat → Nat → Bool) (h0 g0 : Nat) : addq R h0 g0 false = R := by
  funext h g
  simp [addq]
theorem c2_addq {N : Nat} {R : Nat → Nat → Bool} {h0 g0 : Nat} {b : Bool} (q : Nat → Nat → Bool) (hh : h0 < 10) (hg : g0 ≤ N) (e : R h0 g0 = false) : c2 N (fun h g => addq R h0 g0 b h g && q h g) 10 = c2 N (fun h g => R h g && q h g) 10 + if (b && q h0 g0) = true then 1 else 0 := by
  by_cases h : (b && q h0 g0) = true
  · rw [if_pos h]
    refine c2_add (h0 := h0) (g0 := g0) hg (by simp [e]) (fun a b c => ?_) ?_ 10 hh
    · simp only [addq_ne c]
    · simp only [addq_at e]; exact h
  · rw [if_neg h, Nat.add_zero]
    refine c2_congr 10 (fun a c _ _ => ?_)
    by_cases e2 : a = h0 ∧ c = g0
    · obtain ⟨rfl, rfl⟩ := e2
      simp only [addq_at e]
      rw [e, Bool.false_and]
      cases hq : (b && q a c) with
      | false => rfl
      | true => exact absurd hq h
    · simp only [addq_ne e2]
def tru (_ _ : Nat) : Bool := true
theorem c2_tru {N : Nat} {R : Nat → Nat → Bool} {H : Nat} : c2 N (fun h g => R h g && tru h g) H = c2 N R H := c2_congr H (fun _ _ _ _ => Bool.and_true _)
/-- the least hunger of R, one more; 0 for none -/
def LeastP (N : Nat) (R : Nat → Nat → Bool) (l : Nat) : Prop := l ≤ 10 ∧ (l = 0 → ∀ h g, h < 10 → g ≤ N → R h g = false) ∧ (0 < l → (∃ g, g ≤ N ∧ R (l - 1) g = true) ∧ ∀ h g, h < 10 → g ≤ N → R h g = true → l - 1 ≤ h)
theorem LeastP.eq {N : Nat} {R : Nat → Nat → Bool} {l m : Nat} (h1 : LeastP N R l) (h2 : LeastP N R m) : l = m := by
  obtain ⟨a0, a1, a2⟩ := h1
  obtain ⟨b0, b1, b2⟩ := h2
  by_cases hl : l = 0
  · by_cases hm : m = 0
    · omega
    · obtain ⟨⟨g, p, q⟩, _⟩ := b2 (by omega)
      have := a1 hl (m - 1) g (by omega) p
      rw [q] at this; cases this
  · by_cases hm : m = 0
    · obtain ⟨⟨g, p, q⟩, _⟩ := a2 (by omega)
      have := b1 hm (l - 1) g (by omega) p
      rw [q] at this; cases this
    · obtain ⟨⟨g, p, q⟩, r⟩ := a2 (by omega)
      obtain ⟨⟨g', p', q'⟩, r'⟩ := b2 (by omega)
      have := r (m - 1) g' (by omega) p' q'
      have := r' (l - 1) g (by omega) p q
      omega
theorem LeastP.congr {N : Nat} {R Q : Nat → Nat → Bool} {l : Nat} (h1 : LeastP N R l) (h : ∀ a b, a < 10 → b ≤ N → R a b = Q a b) : LeastP N Q l := by
  obtain ⟨a0, a1, a2⟩ := h1
  refine ⟨a0, fun e a b c d => (h a b c d).symm.trans (a1 e a b c d), fun e => ?_⟩
  obtain ⟨⟨g, p, q⟩, r⟩ := a2 e
  exact ⟨⟨g, p, (h _ _ (by omega) p).symm.trans q⟩, fun a b c d k => r a b c d ((h a b c d).trans k)⟩
theorem LeastP.step {N : Nat} {R : Nat → Nat → Bool} {l h0 g0 : Nat} (H : LeastP N R l) (hh : h0 < 10) (hg : g0 ≤ N) (e : R h0 g0 = false) (hR : ∀ h g, h < 10 → g ≤ N → R h g = true → h ≤ h0) : LeastP N (addq R h0 g0 true) (if l = 0 then h0 + 1 else l) := by
  obtain ⟨a0, a1, a2⟩ := H
  by_cases hl : l = 0
  · rw [if_pos hl]
    refine ⟨by omega, fun z => by omega, fun _ => ⟨⟨g0, hg, by rw [Nat.add_sub_cancel]; exact addq_at e⟩, fun h g p q r => ?_⟩⟩
    by_cases c : h = h0 ∧ g = g0
    · omega
    · rw [addq_ne c] at r
      rw [a1 hl h g p q] at r; cases r
  · rw [if_neg hl]
    obtain ⟨⟨g, p, q⟩, r⟩ := a2 (by omega)
    refine ⟨a0, fun z => absurd z hl, fun _ => ⟨⟨g, p, by unfold addq; rw [q]; rfl⟩, fun h g' p' q' r' => ?_⟩⟩
    by_cases c : h = h0 ∧ g' = g0
    · have := hR (l - 1) g (by omega) p q
      omega
    · rw [addq_ne c] at r'
      exact r h g' p' q' r'
/-- whether a hen of hunger h that feasts on g (the last day: on none) eats on the day d -/
def eatq (K : Nat → Nat) (h g d : Nat) : Bool := decide (K 2 ≤ if d ≤ g then h + d else d - g)
section HEN
variable {w : HW} {k : Nat} {K : Nat → Nat}
/-- the class's feast -/
def fI (N g : Nat) : Int32 := if g = N then -1 else nI g
theorem eatD_L (h1 : gI w k 1 = nI (K 0)) (h3 : gI w k 3 = nI (K 2)) (W : WF K) {h g : Nat} (hh : h < 10) (hg : g ≤ K 0) : ∀ F i, i ≤ K 0 → K 0 - i < F → fX2_eatingDays_5 w k (nI h) (fI (K 0) g) F (nI (bS (eatq K h g) i)) (nI i) = some (nI (bS (eatq K h g) (K 0))) := by
  have hb := W.b
  intro F
  induction F with
  | zero => intro i a b; omega
  | succ F ih =>
    intro i a b
    rw [fX2_eatingDays_5, h1]
    by_cases hi : i < K 0
    · rw [if_pos (nI_lt hi (by omega))]
      have st : ∀ s : Nat, s < 100 → (s = if i ≤ g then h + i else i - g) → fX2_eatingDays_36 w (fun x3 x4 => fX2_eatingDays_5 w k (nI h) (fI (K 0) g) F x3 x4) k (nI h) (fI (K 0) g) (nI (bS (eatq K h g) i)) (nI i) (nI s) = some (nI (bS (eatq K h g) (K 0))) := by
        intro s hs e
        unfold fX2_eatingDays_36
        rw [h3]
        have e2 := ih (i + 1) (by omega) (by omega)
        by_cases c : K 2 ≤ s
        · have q : eatq K h g i = true := by unfold eatq; rw [← e]; exact decide_eq_true c
          rw [if_pos (nI_nlt (by omega) (by omega)), lT_eq, iSl_1 (by omega), nI_or, nI_1]
          rw [bS, if_pos q] at e2
          exact e2
        · have q : ¬ eatq K h g i = true := by unfold eatq; rw [← e]; exact fun z => c (of_decide_eq_true z)
          rw [if_neg (fun z => z (nI_lt (by omega) (by omega))), nI_1]
          rw [bS, if_neg q] at e2
          exact e2
      by_cases hN : g = K 0
      · rw [show fI (K 0) g = -1 from if_pos hN] at st ⊢
        rw [if_neg (fun z => z rfl), nI_add]
        exact st (h + i) (by omega) (by rw [if_pos (by omega)])
      · rw [show fI (K 0) g = nI g from if_neg hN] at st ⊢
        rw [if_pos (nI_ne_m1 (by omega))]
        by_cases c : i ≤ g
        · rw [if_pos (nI_nlt (by omega) (by omega)), nI_add]
          exact st (h + i) (by omega) (by rw [if_pos c])
        · rw [if_neg (fun z => z (nI_lt (by omega) (by omega))), nI_subI (by omega)]
          exact st (i - g) (by omega) (by rw [if_neg c])
    · have e : i = K 0 := by omega
      rw [if_neg (nI_nlt (by omega) (by omega)), e]
theorem eatD_ok (h1 : gI w k 1 = nI (K 0)) (h3 : gI w k 3 = nI (K 2)) (W : WF K) {h g : Nat} (hh : h < 10) (hg : g ≤ K 0) : fX2_eatingDays w k (nI h) (fI (K 0) g) = some (nI (bS (eatq K h g) (K 0))) := by
  have := W.b
  exact eatD_L h1 h3 W hh hg FU 0 (by omega) (by rw [FU_eq]; omega)
end HEN
