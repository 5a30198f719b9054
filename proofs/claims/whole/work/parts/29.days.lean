/-! SEASON, the reference's days -/
/-- the reference's code of a day's act -/
def m86 (x : Nat) : Int32 := if x = 0 then -1 else if x = 1 then -2 else nI (x - 2)
theorem m86_ask {x : Nat} (h : 2 ≤ x) : m86 x = nI (x - 2) := by
  unfold m86
  rw [if_neg (by omega), if_neg (by omega)]
theorem m86_neg {x : Nat} (h : x < 2) : m86 x < 0 := by
  rcases (show x = 0 ∨ x = 1 by omega) with rfl | rfl <;> decide
theorem m86_m1 {x : Nat} (h : x < 100) : m86 x = -1 ↔ x = 0 := by
  constructor
  · intro z
    rcases (show x = 0 ∨ x = 1 ∨ 2 ≤ x by omega) with h | h | h
    · exact h
    · subst h; exact absurd z (by decide)
    · rw [m86_ask h] at z; exact absurd z (nI_ne_m1 (by omega))
  · rintro rfl; rfl
theorem m86_m2 {x : Nat} (h : x < 100) : m86 x = -2 ↔ x = 1 := by
  constructor
  · intro z
    rcases (show x = 0 ∨ x = 1 ∨ 2 ≤ x by omega) with h | h | h
    · subst h; exact absurd z (by decide)
    · exact h
    · rw [m86_ask h] at z
      have := congrArg Int32.toInt z
      rw [nI_toInt (by omega)] at this
      have e : (-2 : Int32).toInt = -2 := rfl
      omega
  · rintro rfl; rfl
section MPL
variable {w : HW} {K : Nat → Nat}
theorem asked44_L (W : WF K) : ∀ F i (w : HW), i ≤ K 6 → K 6 - i < F → RC w K → (∀ d, d < 14 → gI w 86 d = m86 (aDn K d i)) → (∀ b, b < 8 → gI w 90 b = aI (aBn K b i)) → ∃ w', fX10_layAsked_44 F w (nI i) = some w' ∧ (∀ d, d < 14 → gI w' 86 d = m86 (aD K d)) ∧ (∀ b, b < 8 → gI w' 90 b = aI (aB K b)) ∧ (∀ a f, a ≠ 86 → a ≠ 90 → gI w' a f = gI w a f) ∧ (∀ a f, gL w' a f = gL w a f) := by
  have hb := W.b
  intro F
  induction F with
  | zero => intro i w a b; omega
  | succ F ih =>
    intro i w a b HR h86 h90
    rw [fX10_layAsked_44, if_pos (show inB 6 77 = true from rfl), ix_6, HR.r6]
    by_cases hi : i < K 6
    · have ha := W.act hi
      have ha2 := W.act2 hi
      have e57 : (57 : Int32) + nI i = nI (57 + i) := nI_add 57 i
      rw [if_pos (nI_lt hi (by omega)), e57, if_pos (inB_nI (by omega) (by omega)), ix_nI (by omega), HR.act hi, lT_eq]
      by_cases c : bC (K (57 + i)) = 0
      · rw [if_pos c] at ha2
        have e1 : nI (K (57 + i)) - 1000 = nI (dA (K (57 + i))) := by
          rw [show (1000 : Int32) = nI 1000 from rfl, nI_subI (by omega)]
          exact congrArg nI (by omega)
        rw [if_pos (show ¬ nI (K (57 + i)) < 1000 from nI_nlt (b := 1000) (by omega) (by omega)), e1, if_pos (inB_nI (by omega) (by omega)), ix_nI (by omega), lT_eq, nI_1]
        obtain ⟨w', p1, p2, p3, p4, p5⟩ := ih (i + 1) (uI w 86 (dA (K (57 + i))) (-2)) (by omega) (by omega) (HR.cell (fun f => gI_uI_ne (by omega))) (fun d hd => by
          rw [gI_uI, aDn]
          by_cases e : dA (K (57 + i)) = d
          · rw [if_pos ⟨rfl, e.symm⟩, if_pos e, c]; rfl
          · rw [if_neg (fun z => e z.2.symm), if_neg e]; exact h86 d hd) (fun b hb => by
          rw [gI_uI_ne (by omega), aBn, if_neg (by omega)]; exact h90 b hb)
        exact ⟨w', p1, p2, p3, fun a f h1 h2 => by rw [p4 a f h1 h2, gI_uI_ne h1], p5⟩
      · rw [if_neg c] at ha2
        have e1 : iRm (nI (K (57 + i))) 100 = nI (dA (K (57 + i))) := by
          rw [show iRm (nI (K (57 + i))) 100 = nI (K (57 + i) % 100) from pk_rem (d := 100) (by omega) (by omega) (by omega)]
          exact congrArg nI (by omega)
        have e2 : nI (K (57 + i)) / 100 = nI (bC (K (57 + i)) - 1) := by
          rw [show nI (K (57 + i)) / 100 = nI (K (57 + i) / 100) from pk_div (d := 100) (by omega) (by omega) (by omega)]
          exact congrArg nI (by omega)
        rw [if_neg (fun z => z (show nI (K (57 + i)) < 1000 from nI_lt (b := 1000) (by omega) (by omega))), e1, e2, if_pos (inB_nI (by omega) (by omega)), ix_nI (by omega), lT_eq, if_pos (inB_nI (by omega) (by omega)), ix_nI (by omega), lT_eq, nI_1]
        obtain ⟨w', p1, p2, p3, p4, p5⟩ := ih (i + 1) (uI (uI w 86 (dA (K (57 + i))) (nI (bC (K (57 + i)) - 1))) 90 (bC (K (57 + i)) - 1) (nI (dA (K (57 + i))))) (by omega) (by omega) (HR.cell (fun f => by rw [gI_uI_ne (by omega), gI_uI_ne (by omega)])) (fun d hd => by
          rw [gI_uI_ne (by omega), gI_uI, aDn]
          by_cases e : dA (K (57 + i)) = d
          · rw [if_pos ⟨rfl, e.symm⟩, if_pos e, m86_ask (by omega)]; exact congrArg nI (by omega)
          · rw [if_neg (fun z => e z.2.symm), if_neg e]; exact h86 d hd) (fun b hb => by
          rw [gI_uI, aBn]
          by_cases e : bC (K (57 + i)) = b + 1
          · rw [if_pos ⟨rfl, by omega⟩, if_pos e, aI_s]
          · rw [if_neg (by omega), if_neg e, gI_uI_ne (by omega)]; exact h90 b hb)
        exact ⟨w', p1, p2, p3, fun a f h1 h2 => by rw [p4 a f h1 h2, gI_uI_ne h2, gI_uI_ne h1], p5⟩
    · have e : i = K 6 := by omega
      subst e
      rw [if_neg (nI_nlt (by omega) (by omega))]
      exact ⟨w, rfl, h86, h90, fun _ _ _ _ => rfl, fun _ _ => rfl⟩
theorem asked23_L (W : WF K) : ∀ F i (w : HW), i ≤ 8 → 8 - i < F → RC w K → (∀ d, d < 14 → gI w 86 d = -1) → (∀ b, b < i → gI w 90 b = -1) → ∃ w', fX10_layAsked_23 F w (nI i) = some w' ∧ (∀ d, d < 14 → gI w' 86 d = m86 (aD K d)) ∧ (∀ b, b < 8 → gI w' 90 b = aI (aB K b)) ∧ (∀ a f, a ≠ 86 → a ≠ 90 → gI w' a f = gI w a f) ∧ (∀ a f, gL w' a f = gL w a f) := by
  intro F
  induction F with
  | zero => intro i w a b; omega
  | succ F ih =>
    intro i w a b HR h86 h90
    rw [fX10_layAsked_23]
    by_cases hi : i < 8
    · rw [if_pos (show nI i < 8 from nI_lt (b := 8) hi (by omega)), if_pos (inB_nI hi (by omega)), ix_nI (by omega), lT_eq, nI_1]
      obtain ⟨w', p1, p2, p3, p4, p5⟩ := ih (i + 1) (uI w 90 i (-1)) (by omega) (by omega) (HR.cell (fun f => gI_uI_ne (by omega))) (fun d hd => by rw [gI_uI_ne (by omega)]; exact h86 d hd) (fun d hd => by
        by_cases e : d = i
        · subst e; exact gI_uI_at
        · rw [gI_uI_nf e]; exact h90 d (by omega))
      exact ⟨w', p1, p2, p3, fun a f h1 h2 => by rw [p4 a f h1 h2, gI_uI_ne h2], p5⟩
    · rw [if_neg (show ¬ nI i < 8 from nI_nlt (b := 8) (by omega) (by omega))]
      exact asked44_L W FU 0 w (by omega) (by have := W.b; rw [FU_eq]; omega) HR (fun d hd => h86 d hd) (fun b hb => h90 b (by omega))
theorem asked2_L (W : WF K) : ∀ F i (w : HW), i ≤ 14 → 14 - i < F → RC w K → (∀ d, d < i → gI w 86 d = -1) → ∃ w', fX10_layAsked_2 F w (nI i) = some w' ∧ (∀ d, d < 14 → gI w' 86 d = m86 (aD K d)) ∧ (∀ b, b < 8 → gI w' 90 b = aI (aB K b)) ∧ (∀ a f, a ≠ 86 → a ≠ 90 → gI w' a f = gI w a f) ∧ (∀ a f, gL w' a f = gL w a f) := by
  intro F
  induction F with
  | zero => intro i w a b; omega
  | succ F ih =>
    intro i w a b HR h86
    rw [fX10_layAsked_2]
    by_cases hi : i < 14
    · rw [if_pos (show nI i < 14 from nI_lt (b := 14) hi (by omega)), if_pos (inB_nI hi (by omega)), ix_nI (by omega), lT_eq, nI_1]
      obtain ⟨w', p1, p2, p3, p4, p5⟩ := ih (i + 1) (uI w 86 i (-1)) (by omega) (by omega) (HR.cell (fun f => gI_uI_ne (by omega))) (fun d hd => by
        by_cases e : d = i
        · subst e; exact gI_uI_at
        · rw [gI_uI_nf e]; exact h86 d (by omega))
      exact ⟨w', p1, p2, p3, fun a f h1 h2 => by rw [p4 a f h1 h2, gI_uI_ne h1], p5⟩
    · rw [if_neg (show ¬ nI i < 14 from nI_nlt (b := 14) (by omega) (by omega))]
      exact asked23_L W FU 0 w (by omega) (by rw [FU_eq]; omega) HR (fun d hd => h86 d (by omega)) (fun b hb => by omega)
theorem layAsked_ok (HR : RC w K) (W : WF K) : ∃ w', fX10_layAsked w = some w' ∧ (∀ d, d < 14 → gI w' 86 d = m86 (aD K d)) ∧ (∀ b, b < 8 → gI w' 90 b = aI (aB K b)) ∧ (∀ a f, a ≠ 86 → a ≠ 90 → gI w' a f = gI w a f) ∧ (∀ a f, gL w' a f = gL w a f) :=
  asked2_L W FU 0 w (by omega) (by rw [FU_eq]; omega) HR (fun d hd => by omega)
theorem whyOn_ok (HR : RC w K) (W : WF K) {V : Nat → Nat} (h89 : ∀ b, b < 8 → gI w 89 b = aI (V b)) (hV : ∀ b, V b < 100) {b d : Nat} (hb5 : b < K 5) (hd : d < K 0) (ok : Bool) : fX10_whyOn w (nI b) (nI d) (b01 ok) = some (nI (whyF K V b d ok)) := by
  have hb := W.b
  have hB := W.bil hb5
  have hm := lt31 W W.mk
  unfold fX10_whyOn
  rw [if_b01']
  cases ok with
  | false => rfl
  | true =>
    rw [if_pos rfl, if_pos (show inB 8 77 = true from rfl), ix_8, HR.r8, bit_ok w hm (by omega), bI_some, if_b011]
    unfold whyF
    rw [if_neg (show ¬ (true = false) by decide)]
    by_cases c1 : (K 8).testBit d = true
    · rw [if_pos c1, if_pos c1]; rfl
    · have hs : sky K (1 - K (33 + 3 * b)) < 2 ^ 31 := skF_31 W _ (Nat.le_refl _)
      rw [if_neg c1, if_neg c1, X10_of_0 HR W hb5, bI_some, one_sub (by omega), X10_skyOf_ok HR W (by omega), bI_some, bit_ok w hs (by omega), bI_some, if_b011]
      by_cases c2 : (sky K (1 - K (33 + 3 * b))).testBit d = true
      · rw [if_pos c2, if_pos c2]; rfl
      · rw [if_neg c2, if_neg c2, X10_of_2 HR W hb5, bI_some]
        by_cases c3 : K (35 + 3 * b) = 0
        · rw [if_neg (fun z => z ((aI_m1 (by omega)).mpr c3)), if_pos c3]; rfl
        · obtain ⟨a, ha⟩ : ∃ a, K (35 + 3 * b) = a + 1 := ⟨K (35 + 3 * b) - 1, by omega⟩
          have hVa := hV a
          rw [if_pos (fun z => c3 ((aI_m1 (by omega)).mp z)), if_neg c3, ha, aI_s, if_pos (inB_nI (by omega) (by omega)), if_pos (inB_nI (by omega) (by omega)), ix_nI (by omega), h89 a (by omega), Nat.add_sub_cancel]
          by_cases c4 : V a = 0
          · rw [c4, if_neg (fun z => z rfl), if_neg (by omega)]; rfl
          · obtain ⟨y, hy⟩ : ∃ y, V a = y + 1 := ⟨V a - 1, by omega⟩
            rw [hy, aI_s, if_pos (nI_ne_m1 (by omega)), Nat.add_sub_cancel]
            by_cases c5 : y < d
            · rw [if_neg (fun z => z (nI_lt c5 (by omega))), if_pos ⟨by omega, c5⟩]; rfl
            · rw [if_pos (nI_nlt (by omega) (by omega)), if_neg (by omega)]; rfl
/-- what the reference has written before the day i -/
def MS (K : Nat → Nat) (dr : Bool) (s0 : Int64) (w : HW) (i : Nat) : Prop :=
  RC w K ∧ (∀ d, d < i → gI w 87 d = nI (huF K d)) ∧ (∀ b, b < 8 → gI w 89 b = aI ((sea K dr s0 i).1 b)) ∧ (∀ d, d < 14 → gI w 86 d = m86 (aD K d)) ∧ (∀ b, b < 8 → gI w 90 b = aI (aB K b)) ∧
  (∀ d, d < i → gI w 88 d = if 2 ≤ aD K d ∧ (sea K dr s0 (d + 1)).1 (aD K d - 2) = d + 1 then nI (aD K d - 2) else -1) ∧
  gI w 79 21 = b01 dr ∧ (dr = true → gI w 79 22 = nI (sea K dr s0 i).2.2 ∧ gL w 79 20 = (sea K dr s0 i).2.1)
theorem doEat_ok (HR : RC w K) (W : WF K) {d : Nat} (hd : d < 14) (h : gI w 87 d = nI (huF K d)) : fX10_doEat w (nI d) = some (b01 (decide (K 2 ≤ huF K d))) := by
  have hb := W.b
  have hu := huF_le W d
  unfold fX10_doEat
  rw [if_pos (inB_nI hd (by omega)), if_pos (show inB 2 77 = true from rfl), ix_nI (by omega), ix_2, h, HR.r2]
  by_cases c : K 2 ≤ huF K d
  · rw [if_pos (nI_nlt (by omega) (by omega)), decide_eq_true c]; rfl
  · rw [if_neg (fun z => z (nI_lt (by omega) (by omega))), decide_eq_false c]; rfl
theorem drawsWell_ok (HR : RC w K) (W : WF K) {dr : Bool} {s : Int64} {c d : Nat} (he : K 2 ≤ huF K d) (h21 : gI w 79 21 = b01 dr) (h : dr = true → gI w 79 22 = nI c ∧ gL w 79 20 = s) : ∃ w', fX10_drawsWell w = some (b01 (drw K dr d s c).2.2, w') ∧ (∀ a f, (a ≠ 79 ∨ f ≠ 22) → gI w' a f = gI w a f) ∧ (dr = true → gI w' 79 22 = nI (drw K dr d s c).2.1 ∧ gL w' 79 20 = (drw K dr d s c).1) ∧ (∀ a f, (a ≠ 79 ∨ f ≠ 20) → gL w' a f = gL w a f) := by
  unfold fX10_drawsWell drw
  rw [h21, if_b01', if_pos he]
  cases dr with
  | false => exact ⟨w, rfl, fun _ _ _ => rfl, fun z => (by cases z), fun _ _ _ => rfl⟩
  | true =>
    obtain ⟨h1, h2⟩ := h rfl
    rw [if_pos rfl, if_pos rfl, lT_eq, lT_eq, gI_uL, h1, if_pos (show inB 3 77 = true from rfl), ix_3, gL_uI, gL_uL_at, gI_uI_ne (by omega), gI_uL, HR.r3, h2, nI_1]
    have e : ∀ x : Int64, (lg_cmp (lRm (lcg s / 65536) 10) (nI (K 3)).toInt64 < 0) ↔ okD K (lcg s) = true := fun x => by unfold okD; rw [decide_eq_true_eq]
    refine ⟨uI (uL w 79 20 (lcg s)) 79 22 (nI (c + 1)), ?_, fun a f q => ?_, fun _ => ⟨?_, ?_⟩, fun a f q => ?_⟩
    · by_cases q : okD K (lcg s) = true
      · rw [if_pos (show lg_cmp (lRm (lRm (1103515245 * s + 12345) 2147483648 / 65536) 10) (nI (K 3)).toInt64 < 0 from (e 0).mpr q)]
        show _ = some (b01 (okD K (lcg s)), _)
        rw [q]; rfl
      · rw [if_neg (show ¬ lg_cmp (lRm (lRm (1103515245 * s + 12345) 2147483648 / 65536) 10) (nI (K 3)).toInt64 < 0 from fun z => q ((e 0).mp z))]
        show _ = some (b01 (okD K (lcg s)), _)
        rw [show okD K (lcg s) = false by simpa using q]; rfl
    · rw [gI_uI, if_neg (by omega), gI_uL]
    · exact gI_uI_at
    · rw [gL_uI]; exact gL_uL_at
    · rw [gL_uI, gL_uL, if_neg (by omega)]
/-- a day on which a bill is asked for, settled -/
theorem MS.settle {dr : Bool} {s0 : Int64} {d b : Nat} (W : WF K) (S : MS K dr s0 w d) (hd : d < K 0) (ha : aD K d = b + 2) (w1 : HW) (h5 : ∀ a f, (a ≠ 87 ∨ f ≠ d) → (a ≠ 88 ∨ f ≠ d) → (a ≠ 79 ∨ f ≠ 22) → gI w1 a f = gI w a f) (h87 : gI w1 87 d = nI (huF K d)) (h88 : gI w1 88 d = -1) (hdr : dr = true → gI w1 79 22 = nI (drw K dr d (sea K dr s0 d).2.1 (sea K dr s0 d).2.2).2.1 ∧ gL w1 79 20 = (drw K dr d (sea K dr s0 d).2.1 (sea K dr s0 d).2.2).1) (K14 : HW → Int32 → Option HW) : ∃ w', fX10_goDays_119 w1 K14 (nI d) (nI b) (b01 (drw K dr d (sea K dr s0 d).2.1 (sea K dr s0 d).2.2).2.2) = K14 w' (nI (d + 1)) ∧ MS K dr s0 w' (d + 1) := by
  have hb := W.b
  obtain ⟨HR, x87, x89, x86, x90, x88, x21, xdr⟩ := S
  have hbl : b < K 5 := by have := aD_lt W (d := d); omega
  have hB : aB K b = d + 1 := (aB_aD W).mpr ha
  have HR1 : RC w1 K := HR.cell (fun f => h5 80 f (by omega) (by omega) (by omega))
  have hV : (sea K dr s0 d).1 b = 0 := by
    have := sea_V W dr s0 b d
    omega
  have es : sea K dr s0 (d + 1) = (if whyF K (sea K dr s0 d).1 b d (drw K dr d (sea K dr s0 d).2.1 (sea K dr s0 d).2.2).2.2 = 0 then updN (sea K dr s0 d).1 b (d + 1) else (sea K dr s0 d).1, (drw K dr d (sea K dr s0 d).2.1 (sea K dr s0 d).2.2).1, (drw K dr d (sea K dr s0 d).2.1 (sea K dr s0 d).2.2).2.1) := by
    show stp K dr d (sea K dr s0 d) = _
    unfold stp
    rw [if_pos (by omega), ha, Nat.add_sub_cancel]
  unfold fX10_goDays_119
  rw [whyOn_ok HR1 W (V := (sea K dr s0 d).1) (fun c hc => by rw [h5 _ _ (by omega) (by omega) (by omega)]; exact x89 c hc) (fun c => sea_lt W dr s0 c) hbl hd, bI_some]
  have hwl := whyF_le K (sea K dr s0 d).1 b d (drw K dr d (sea K dr s0 d).2.1 (sea K dr s0 d).2.2).2.2
  by_cases c : whyF K (sea K dr s0 d).1 b d (drw K dr d (sea K dr s0 d).2.1 (sea K dr s0 d).2.2).2.2 = 0
  · rw [if_pos c] at es
    rw [if_neg (fun z => z (by rw [c]; rfl)), if_pos (inB_nI (by omega) (by omega)), ix_nI (by omega), lT_eq, if_pos (inB_nI (by omega) (by omega)), ix_nI (by omega), lT_eq, nI_1]
    refine ⟨_, rfl, ⟨HR1.cell (fun f => by rw [gI_uI_ne (by omega), gI_uI_ne (by omega)]), fun x hx => ?_, fun x hx => ?_, fun x hx => ?_, fun x hx => ?_, fun x hx => ?_, ?_, fun h => ⟨?_, ?_⟩⟩⟩
    · rw [gI_uI_ne (by omega), gI_uI_ne (by omega)]
      by_cases e : x = d
      · subst e; exact h87
      · rw [h5 _ _ (by omega) (by omega) (by omega)]; exact x87 x (by omega)
    · rw [gI_uI, es]
      by_cases e : x = b
      · subst e; rw [if_pos ⟨rfl, rfl⟩]; show _ = aI (updN _ x (d + 1) x); rw [updN_at, aI_s]
      · rw [if_neg (by omega), gI_uI_ne (by omega), h5 _ _ (by omega) (by omega) (by omega)]; show _ = aI (updN _ b (d + 1) x); rw [updN_ne e]; exact x89 x hx
    · rw [gI_uI_ne (by omega), gI_uI_ne (by omega), h5 _ _ (by omega) (by omega) (by omega)]; exact x86 x hx
    · rw [gI_uI_ne (by omega), gI_uI_ne (by omega), h5 _ _ (by omega) (by omega) (by omega)]; exact x90 x hx
    · rw [gI_uI_ne (by omega), gI_uI]
      by_cases e : x = d
      · subst e; rw [if_pos ⟨rfl, rfl⟩, es, ha, Nat.add_sub_cancel, if_pos ⟨by omega, updN_at _ _ _⟩]
      · rw [if_neg (by omega), h5 _ _ (by omega) (by omega) (by omega)]; exact x88 x (by omega)
    · rw [gI_uI_ne (by omega), gI_uI_ne (by omega), h5 _ _ (by omega) (by omega) (by omega)]; exact x21
    · rw [gI_uI_ne (by omega), gI_uI_ne (by omega), es]; exact (hdr h).1
    · rw [gL_uI, gL_uI, es]; exact (hdr h).2
  · rw [if_neg c] at es
    rw [if_pos (nI_ne0 (by omega) (by omega)), nI_1]
    refine ⟨w1, rfl, ⟨HR1, fun x hx => ?_, fun x hx => ?_, fun x hx => ?_, fun x hx => ?_, fun x hx => ?_, ?_, fun h => ⟨?_, ?_⟩⟩⟩
    · by_cases e : x = d
      · subst e; exact h87
      · rw [h5 _ _ (by omega) (by omega) (by omega)]; exact x87 x (by omega)
    · rw [h5 _ _ (by omega) (by omega) (by omega), es]; exact x89 x hx
    · rw [h5 _ _ (by omega) (by omega) (by omega)]; exact x86 x hx
    · rw [h5 _ _ (by omega) (by omega) (by omega)]; exact x90 x hx
    · by_cases e : x = d
      · subst e; rw [es, ha, Nat.add_sub_cancel, if_neg (fun z => by have := z.2; rw [hV] at this; cases this)]; exact h88
      · rw [h5 _ _ (by omega) (by omega) (by omega)]; exact x88 x (by omega)
    · rw [h5 _ _ (by omega) (by omega) (by omega)]; exact x21
    · rw [es]; exact (hdr h).1
    · rw [es]; exact (hdr h).2
theorem go77_ok {dr : Bool} {s0 : Int64} {d : Nat} (W : WF K) (S : MS K dr s0 w d) (hd : d < K 0) (K14 : HW → Int32 → Option HW) : ∃ w', fX10_goDays_77 w K14 (nI d) (nI (huF K d)) (nI d) = K14 w' (nI (d + 1)) ∧ MS K dr s0 w' (d + 1) := by
  have hb := W.b
  obtain ⟨HR, x87, x89, x86, x90, x88, x21, xdr⟩ := id S
  unfold fX10_goDays_77
  rw [if_pos (inB_nI (by omega) (by omega)), ix_nI (by omega), lT_eq, if_pos (inB_nI (by omega) (by omega)), lT_eq, if_pos (inB_nI (by omega) (by omega)), lT_eq, gI_uI_ne (by omega), gI_uI_ne (by omega), x86 d (by omega)]
  have HR1 : RC (uI (uI w 87 d (nI (huF K d))) 88 d (-1)) K := HR.cell (fun f => by rw [gI_uI_ne (by omega), gI_uI_ne (by omega)])
  have o1 : ∀ a f, (a ≠ 87 ∨ f ≠ d) → (a ≠ 88 ∨ f ≠ d) → gI (uI (uI w 87 d (nI (huF K d))) 88 d (-1)) a f = gI w a f := fun a f h1 h2 => by rw [gI_uI, if_neg (by omega), gI_uI, if_neg (by omega)]
  have o87 : gI (uI (uI w 87 d (nI (huF K d))) 88 d (-1)) 87 d = nI (huF K d) := by rw [gI_uI_ne (by omega), gI_uI_at]
  by_cases c : 2 ≤ aD K d
  · obtain ⟨b, hb2⟩ : ∃ b, aD K d = b + 2 := ⟨aD K d - 2, by omega⟩
    have hbl : b < 100 := by have := aD_lt W (d := d); omega
    rw [m86_ask c, hb2, Nat.add_sub_cancel, if_neg (nI_pos (by omega)), doEat_ok HR1 W (by omega) o87, bI_some, if_b01]
    by_cases c2 : K 2 ≤ huF K d
    · obtain ⟨w2, p1, p2, p3, p4⟩ := drawsWell_ok (w := uI (uI w 87 d (nI (huF K d))) 88 d (-1)) HR1 W (dr := dr) (s := (sea K dr s0 d).2.1) (c := (sea K dr s0 d).2.2) c2 (by rw [o1 _ _ (by omega) (by omega)]; exact x21) (fun h => by rw [o1 _ _ (by omega) (by omega)]; exact xdr h)
      obtain ⟨w', q1, q2⟩ := S.settle W hd hb2 w2 (fun a f h1 h2 h3 => by rw [p2 a f h3, o1 a f h1 h2]) (by rw [p2 _ _ (by omega)]; exact o87) (by rw [p2 _ _ (by omega), gI_uI_at]) p3 K14
      refine ⟨w', ?_, q2⟩
      rw [if_pos (decide_eq_true c2), p1, bW_some, if_b01]
      cases e : (drw K dr d (sea K dr s0 d).2.1 (sea K dr s0 d).2.2).2.2 with
      | true => rw [e] at q1; rw [if_pos rfl]; exact q1
      | false => rw [e] at q1; rw [if_neg (by decide)]; exact q1
    · rw [if_neg (fun z => c2 (of_decide_eq_true z))]
      have ed : drw K dr d (sea K dr s0 d).2.1 (sea K dr s0 d).2.2 = ((sea K dr s0 d).2.1, (sea K dr s0 d).2.2, false) := by unfold drw; rw [if_neg c2]
      obtain ⟨w', q1, q2⟩ := S.settle W hd hb2 (uI (uI w 87 d (nI (huF K d))) 88 d (-1)) (fun a f h1 h2 h3 => o1 a f h1 h2) o87 gI_uI_at (fun h => by rw [ed, o1 _ _ (by omega) (by omega)]; exact xdr h) K14
      rw [ed] at q1
      exact ⟨w', q1, q2⟩
  · rw [if_pos (m86_neg (by omega)), nI_1]
    have es : sea K dr s0 (d + 1) = sea K dr s0 d := by
      show stp K dr d (sea K dr s0 d) = _
      unfold stp
      rw [if_neg c]
    refine ⟨_, rfl, ⟨HR1, fun x hx => ?_, fun x hx => ?_, fun x hx => ?_, fun x hx => ?_, fun x hx => ?_, ?_, fun h => ?_⟩⟩
    · by_cases e : x = d
      · subst e; exact o87
      · rw [o1 _ _ (by omega) (by omega)]; exact x87 x (by omega)
    · rw [o1 _ _ (by omega) (by omega), es]; exact x89 x hx
    · rw [o1 _ _ (by omega) (by omega)]; exact x86 x hx
    · rw [o1 _ _ (by omega) (by omega)]; exact x90 x hx
    · by_cases e : x = d
      · subst e; rw [gI_uI_at, if_neg (fun z => c z.1)]
      · rw [o1 _ _ (by omega) (by omega)]; exact x88 x (by omega)
    · rw [o1 _ _ (by omega) (by omega)]; exact x21
    · rw [o1 _ _ (by omega) (by omega), es]; exact xdr h
theorem go23_L {dr : Bool} {s0 : Int64} (W : WF K) : ∀ F d (w : HW), d ≤ K 0 → K 0 - d < F → MS K dr s0 w d → ∃ w', fX10_goDays_23 F w (nI d) = some w' ∧ MS K dr s0 w' (K 0) := by
  have hb := W.b
  intro F
  induction F with
  | zero => intro d w a b; omega
  | succ F ih =>
    intro d w a b S
    rw [fX10_goDays_23, if_pos (show inB 0 77 = true from rfl), ix_0, S.1.r0]
    by_cases hd : d < K 0
    · rw [if_pos (nI_lt hd (by omega))]
      obtain ⟨w', p1, p2⟩ := go77_ok W S hd (fun w x1 => fX10_goDays_23 F w x1)
      obtain ⟨w2, q1, q2⟩ := ih (d + 1) w' (by omega) (by omega) p2
      refine ⟨w2, ?_, q2⟩
      rw [← q1]
      cases d with
      | zero =>
        rw [if_pos (show nI 0 = 0 from rfl), if_pos (show inB 1 77 = true from rfl), ix_1, S.1.r1]
        exact p1
      | succ d =>
        have hl := aD_lt W (d := d)
        rw [if_neg (nI_ne0 (by omega) (by omega)), nI_pred, if_pos (inB_nI (by omega) (by omega)), ix_nI (by omega), S.2.2.2.1 d (by omega)]
        have hu : huF K (d + 1) = if aD K d = 0 then huF K d + 1 else 1 := rfl
        by_cases c : aD K d = 0
        · rw [if_pos c] at hu
          rw [if_neg (fun z => z ((m86_m1 (by omega)).mpr c)), if_pos (inB_nI (by omega) (by omega)), S.2.1 d (by omega), nI_1, ← hu]
          exact p1
        · rw [if_neg c] at hu
          rw [if_pos (fun z => c ((m86_m1 (by omega)).mp z))]
          rw [hu] at p1
          exact p1
    · have e : d = K 0 := by omega
      subst e
      rw [if_neg (nI_nlt (by omega) (by omega))]
      exact ⟨w, rfl, S⟩
theorem go2_L {dr : Bool} {s0 : Int64} (W : WF K) : ∀ F i (w : HW), i ≤ 8 → 8 - i < F → RC w K → (∀ b, b < i → gI w 89 b = -1) → (∀ d, d < 14 → gI w 86 d = m86 (aD K d)) → (∀ b, b < 8 → gI w 90 b = aI (aB K b)) → gI w 79 21 = b01 dr → (dr = true → gI w 79 22 = 0 ∧ gL w 79 20 = s0) → ∃ w', fX10_goDays_2 F w (nI i) = some w' ∧ MS K dr s0 w' (K 0) := by
  intro F
  induction F with
  | zero => intro i w a b; omega
  | succ F ih =>
    intro i w a b HR h89 h86 h90 h21 hdr
    rw [fX10_goDays_2]
    by_cases hi : i < 8
    · rw [if_pos (show nI i < 8 from nI_lt (b := 8) hi (by omega)), if_pos (inB_nI hi (by omega)), ix_nI (by omega), lT_eq, nI_1]
      exact ih (i + 1) (uI w 89 i (-1)) (by omega) (by omega) (HR.cell (fun f => gI_uI_ne (by omega))) (fun d hd => by
        by_cases e : d = i
        · subst e; exact gI_uI_at
        · rw [gI_uI_nf e]; exact h89 d (by omega)) (fun d hd => by rw [gI_uI_ne (by omega)]; exact h86 d hd) (fun d hd => by rw [gI_uI_ne (by omega)]; exact h90 d hd) (by rw [gI_uI_ne (by omega)]; exact h21) (fun h => by rw [gI_uI_ne (by omega)]; exact hdr h)
    · rw [if_neg (show ¬ nI i < 8 from nI_nlt (b := 8) (by omega) (by omega))]
      exact go23_L W FU 0 w (by omega) (by have := W.b; rw [FU_eq]; omega) ⟨HR, fun d hd => by omega, fun b hb => h89 b (by omega), h86, h90, fun d hd => by omega, h21, hdr⟩
theorem goDays_ok {dr : Bool} {s0 : Int64} (W : WF K) (HR : RC w K) (h86 : ∀ d, d < 14 → gI w 86 d = m86 (aD K d)) (h90 : ∀ b, b < 8 → gI w 90 b = aI (aB K b)) (h21 : gI w 79 21 = b01 dr) (hdr : dr = true → gI w 79 22 = 0 ∧ gL w 79 20 = s0) : ∃ w', fX10_goDays w = some w' ∧ MS K dr s0 w' (K 0) :=
  go2_L W FU 0 w (by omega) (by rw [FU_eq]; omega) HR (fun b hb => by omega) h86 h90 h21 hdr
theorem asksCamp_ok (W : WF K) (HR : RC w K) (C : RelC w) : ∃ w', fX10_asksCamp w = some (b01 (decide (0 < K 7)), w') ∧ MS K false 0 w' (K 0) := by
  obtain ⟨w1, p1, p2, p3, p4, p5⟩ := layAsked_ok HR W
  obtain ⟨w2, q1, q2⟩ := goDays_ok (dr := false) (s0 := 0) W (HR.cell (fun f => p4 80 f (by omega) (by omega))) p2 p3 (by rw [p4 _ _ (by omega) (by omega)]; exact C.1) (fun z => by cases z)
  unfold fX10_asksCamp
  rw [p1, bI_some, q1, bI_some, X10_isCamp_ok q2.1 W, bI_some, if_pos (zB_b01 _)]
  exact ⟨w2, rfl, q2⟩
end MPL
