/-! CLASS AND REFERENCE HOLD THE SAME -/
/-- one image of both -/
def RelI (w : HW) (k : Nat) : Prop := gI w 25 k = gI w 82 k ∧ (gI w 25 k = 0 ∨ (gI w 25 k = 1 ∧ ∃ K : Nat → Nat, WF K ∧ RCg (fun i => gI w 81 (77 * k + i)) K ∧ CC w (52 + 9 * k) K))
/-- one slot of both -/
def RelS (w : HW) (s : Nat) : Prop := (∀ i, i < 60 → gL w (45 + 2 * s) i = gL w 100 (60 * s + i)) ∧
  ((gI w (44 + 2 * s) 1 = -1 ∧ gI w 98 s = -1) ∨ ∃ d n : Nat, d ≤ 3 ∧ n ≤ 60 ∧ gI w (44 + 2 * s) 1 = nI d ∧ gI w (44 + 2 * s) 2 = nI n ∧ gI w 98 s = nI n ∧ gI w 99 s = nI d)
def isBy (x : Int32) : Prop := x.toInt8.toInt32 = x
def RelT (w : HW) : Prop := (∃ t : Nat, t ≤ 800 ∧ gI w 1 1 = nI t ∧ gI w 79 5 = nI t) ∧ ∀ i, i < 800 → gI w 2 i = gI w 83 i ∧ isBy (gI w 83 i)
/-- what the reference keeps at rest -/
def RelC (w : HW) : Prop := gI w 79 21 = 0 ∧ gI w 79 28 = 0 ∧ gI w 79 29 = 0 ∧ gI w 79 30 = 0 ∧ gI w 79 32 = -1
def RelF (w : HW) : Prop := gI w 3 0 = gI w 79 12 ∧ gI w 3 1 = gI w 79 13
def RelO (w : HW) : Prop := RelT w ∧ RelF w ∧ RelC w ∧ (∀ k, k < 3 → RelI w k) ∧ (∀ s, s < 4 → RelS w s)
/-- the camp in use is kn, the spare one ks -/
def RelN (w : HW) (kn ks : Nat) : Prop := gR w 0 10 = kn ∧ gR w 0 11 = ks ∧ ((kn = 26 ∧ ks = 35) ∨ (kn = 35 ∧ ks = 26))
def RelK (w : HW) (K : Nat → Nat) : Prop := WF K ∧ RC w K ∧ ∃ kn ks, RelN w kn ks ∧ CC w kn K
def Rel (w : HW) : Prop := RelO w ∧ ∃ K, RelK w K
theorem ble_no {a b : Nat} (h : b < a) : Nat.ble a b = false := by
  cases e : Nat.ble a b with
  | false => rfl
  | true => have := Nat.le_of_ble_eq_true e; omega
section RELP
variable {w w' : HW} {K : Nat → Nat} {k : Nat}
theorem CC.of (H : CC w k K) (h : ∀ c, k ≤ c → c ≤ k + 8 → ∀ f, gI w' c f = gI w c f) : CC w' k K := by
  obtain ⟨h0, ⟨c0, c1, c2, c3, c4, c5, c6, c10, c14⟩, ha, hb, hc⟩ := H
  have e : ∀ f, gI w' k f = gI w k f := h k (by omega) (by omega)
  refine ⟨h0, ⟨(e 0).trans c0, (e 1).trans c1, (e 2).trans c2, (e 3).trans c3, (e 4).trans c4, (e 5).trans c5, (e 6).trans c6, (e 10).trans c10, (e 14).trans c14⟩, fun a q => ?_, fun b q => ?_, fun i q => ?_⟩
  · obtain ⟨x, y, z⟩ := ha a q
    exact ⟨(h (k + 1) (by omega) (by omega) a).trans x, (h (k + 2) (by omega) (by omega) a).trans y, (h (k + 3) (by omega) (by omega) a).trans z⟩
  · obtain ⟨x, y, z⟩ := hb b q
    exact ⟨(h (k + 4) (by omega) (by omega) b).trans x, (h (k + 5) (by omega) (by omega) b).trans y, (h (k + 6) (by omega) (by omega) b).trans z⟩
  · obtain ⟨x, y⟩ := hc i q
    exact ⟨(h (k + 7) (by omega) (by omega) i).trans x, (h (k + 8) (by omega) (by omega) i).trans y⟩
theorem sc_mid {c f : Nat} (h1 : 24 ≤ c) (h2 : c ≤ 78) : sc c f = false := by
  unfold sc
  have e1 : Nat.ble c 18 = false := ble_no (by omega)
  have e2 : Nat.ble c 23 = false := ble_no (by omega)
  have e3 : Nat.ble 84 c = false := ble_no (by omega)
  have e4 : (c == 101) = false := by simpa using (show c ≠ 101 by omega)
  have e5 : (c == 3) = false := by simpa using (show c ≠ 3 by omega)
  have e6 : (c == 79) = false := by simpa using (show c ≠ 79 by omega)
  simp [e1, e2, e3, e4, e5, e6]
theorem sc_hi {c f : Nat} (h : c = 80 ∨ c = 81 ∨ c = 82 ∨ c = 83 ∨ c = 98 ∨ c = 99 ∨ c = 100) : sc c f = false := by
  rcases h with rfl | rfl | rfl | rfl | rfl | rfl | rfl <;> rfl
theorem sc_lo {c f : Nat} (h : c = 0 ∨ c = 1 ∨ c = 2 ∨ c = 19) : sc c f = false := by
  rcases h with rfl | rfl | rfl | rfl <;> rfl
theorem CC.sx (H : CC w k K) (h : Sx sc w w') : CC w' k K := by
  have hk := isC_cases H.1
  exact H.of (fun c h1 h2 f => (h c f (sc_mid (by omega) (by omega))).1)
theorem RC.sx (H : RC w K) (h : Sx sc w w') : RC w' K := by
  have e : gI w' 80 = gI w 80 := funext fun i => (h 80 i (sc_hi (by omega))).1
  unfold RC
  rw [e]
  exact H
theorem RelN.sx {kn ks : Nat} (H : RelN w kn ks) (h : Sx sc w w') : RelN w' kn ks :=
  ⟨(h 0 10 rfl).2.2.trans H.1, (h 0 11 rfl).2.2.trans H.2.1, H.2.2⟩
theorem RelK.sx (H : RelK w K) (h : Sx sc w w') : RelK w' K := by
  obtain ⟨h1, h2, kn, ks, h3, h4⟩ := H
  exact ⟨h1, h2.sx h, kn, ks, h3.sx h, h4.sx h⟩
theorem RelO.sx (H : RelO w) (h : Sx sc w w') : RelO w' := by
  obtain ⟨⟨⟨t, t1, t2, t3⟩, t4⟩, ⟨f1, f2⟩, ⟨c1, c2, c3, c4, c5⟩, hi, hs⟩ := H
  refine ⟨⟨⟨t, t1, (h 1 1 rfl).1.trans t2, (h 79 5 rfl).1.trans t3⟩, fun i q => ?_⟩, ⟨?_, ?_⟩, ⟨(h 79 21 rfl).1.trans c1, (h 79 28 rfl).1.trans c2, (h 79 29 rfl).1.trans c3, (h 79 30 rfl).1.trans c4, (h 79 32 rfl).1.trans c5⟩, fun k q => ?_, fun s q => ?_⟩
  · rw [(h 2 i rfl).1, (h 83 i rfl).1]; exact t4 i q
  · rw [(h 3 0 rfl).1, (h 79 12 rfl).1]; exact f1
  · rw [(h 3 1 rfl).1, (h 79 13 rfl).1]; exact f2
  · obtain ⟨i1, i2⟩ := hi k q
    have e1 := (h 25 k (sc_mid (by omega) (by omega))).1
    have e2 := (h 82 k (sc_hi (by omega))).1
    refine ⟨by rw [e1, e2]; exact i1, ?_⟩
    rcases i2 with i2 | ⟨i2, K, j1, j2, j3⟩
    · exact Or.inl (e1.trans i2)
    · refine Or.inr ⟨e1.trans i2, K, j1, ?_, j3.sx h⟩
      rw [show (fun i => gI w' 81 (77 * k + i)) = fun i => gI w 81 (77 * k + i) from funext fun i => (h 81 _ (sc_hi (by omega))).1]
      exact j2
  · obtain ⟨s1, s2⟩ := hs s q
    have e1 := (h (44 + 2 * s) 1 (sc_mid (by omega) (by omega))).1
    have e2 := (h (44 + 2 * s) 2 (sc_mid (by omega) (by omega))).1
    have e3 := (h 98 s (sc_hi (by omega))).1
    have e4 := (h 99 s (sc_hi (by omega))).1
    refine ⟨fun i qi => ?_, ?_⟩
    · rw [(h (45 + 2 * s) i (sc_mid (by omega) (by omega))).2.1, (h 100 _ (sc_hi (by omega))).2.1]; exact s1 i qi
    · rw [e1, e2, e3, e4]; exact s2
theorem Rel.sx (H : Rel w) (h : Sx sc w w') : Rel w' := by
  obtain ⟨h1, K, h2⟩ := H
  exact ⟨h1.sx h, K, h2.sx h⟩
theorem RelN.isC {kn ks : Nat} (H : RelN w kn ks) : isC kn = true ∧ isC ks = true := by
  rcases H.2.2 with ⟨rfl, rfl⟩ | ⟨rfl, rfl⟩ <;> exact ⟨rfl, rfl⟩
/-- the class's first step: its camp -/
theorem now_ok {α : Type} {kn ks : Nat} (H : RelN w kn ks) (k : Nat → Option α) : (lT (gR w 0 10) fun j => if isC j = true then k j else none) = k kn := by
  rw [lT_eq, H.1, if_pos H.isC.1]
end RELP
/-- what is to be shown of each call -/
def Agree {α : Type} (w : HW) (x : HW → Option (α × HW)) (m : HW → Option (α × HW)) : Prop := ∃ (r : α) (w1 w2 : HW), x w = some (r, w1) ∧ m w1 = some (r, w2) ∧ Rel w2
def pu {α : Type} (f : HW → Option α) (w : HW) : Option (α × HW) := (f w).map (fun r => (r, w))
theorem agree_ro {α : Type} {w : HW} (H : Rel w) {fx fm : HW → Option α} {r : α} (h1 : fx w = some r) (h2 : fm w = some r) : Agree w (pu fx) (pu fm) :=
  ⟨r, w, w, by rw [pu, h1]; rfl, by rw [pu, h2]; rfl, H⟩
