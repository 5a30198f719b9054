/-! THE WORLD: every cell that class and reference have once both are made, by its place behind 'base' (no method but the constructors makes one) -/
abbrev HW : Type := (Nat → Nat → Int32) × (Nat → Nat → Int64) × (Nat → Nat → Nat)
def gI (w : HW) (c f : Nat) : Int32 := w.1 c f
def gL (w : HW) (c f : Nat) : Int64 := w.2.1 c f
def gR (w : HW) (c f : Nat) : Nat := w.2.2 c f
def uI (w : HW) (c f : Nat) (v : Int32) : HW := (fun a b => if a = c ∧ b = f then v else w.1 a b, w.2.1, w.2.2)
def uL (w : HW) (c f : Nat) (v : Int64) : HW := (w.1, fun a b => if a = c ∧ b = f then v else w.2.1 a b, w.2.2)
def uR (w : HW) (c f : Nat) (v : Nat) : HW := (w.1, w.2.1, fun a b => if a = c ∧ b = f then v else w.2.2 a b)
/-- a piece of an int row put over another piece -/
def uC (w : HW) (c0 c1 i k n : Nat) : HW := (fun a b => if a = c1 ∧ k ≤ b ∧ b < k + n then w.1 c0 (i + (b - k)) else w.1 a b, w.2.1, w.2.2)
def uCL (w : HW) (c0 c1 i k n : Nat) : HW := (w.1, fun a b => if a = c1 ∧ k ≤ b ∧ b < k + n then w.2.1 c0 (i + (b - k)) else w.2.1 a b, w.2.2)
def hNUL : Nat := 1000000
def hkl : List (Nat × Nat) := [(0, 9), (0, 8), (3, 800), (0, 4), (0, 6), (1, 14), (1, 8), (1, 8), (1, 8), (1, 14), (1, 2), (0, 3), (1, 3840), (1, 3840), (1, 8), (1, 8), (1, 14), (0, 1), (1, 135), (5, 4), (0, 2), (1, 14), (0, 7), (1, 4), (6, 3), (4, 3), (0, 0), (1, 8), (1, 8), (1, 8), (1, 8), (1, 8), (1, 8), (1, 20), (1, 20), (0, 0), (1, 8), (1, 8), (1, 8), (1, 8), (1, 8), (1, 8), (1, 20), (1, 20), (0, 5), (2, 60), (0, 5), (2, 60), (0, 5), (2, 60), (0, 5), (2, 60), (0, 0), (1, 8), (1, 8), (1, 8), (1, 8), (1, 8), (1, 8), (1, 20), (1, 20), (0, 0), (1, 8), (1, 8), (1, 8), (1, 8), (1, 8), (1, 8), (1, 20), (1, 20), (0, 0), (1, 8), (1, 8), (1, 8), (1, 8), (1, 8), (1, 8), (1, 20), (1, 20), (0, 10), (1, 77), (1, 231), (4, 3), (3, 800), (1, 5), (1, 77), (1, 14), (1, 14), (1, 14), (1, 8), (1, 8), (1, 38400), (1, 38400), (1, 38400), (1, 8), (1, 8), (1, 150), (1, 4), (1, 4), (1, 4), (2, 240), (2, 60)]
def hsl : List (List Nat) := [[1, 3, 4, 11, 17, 19, 20, 22, 24, 25, 1000000, 1000000], [2, 1000000], [], [1000000, 1000000, 1000000, 1000000, 1000000, 1000000, 1000000, 1000000], [5, 6, 7, 8, 1000000, 9, 10, 1000000], [], [], [], [], [], [], [12, 13, 14, 15, 16, 1000000, 1000000, 1000000], [], [], [], [], [], [18], [], [44, 46, 48, 50], [1000000, 1000000, 1000000, 1000000, 21, 1000000, 1000000], [], [23], [], [52, 61, 70], [], [1000000, 1000000, 1000000, 1000000, 1000000, 1000000, 1000000, 27, 28, 29, 1000000, 30, 31, 32, 1000000, 33, 34], [], [], [], [], [], [], [], [], [1000000, 1000000, 1000000, 1000000, 1000000, 1000000, 1000000, 36, 37, 38, 1000000, 39, 40, 41, 1000000, 42, 43], [], [], [], [], [], [], [], [], [45, 1000000, 1000000], [], [47, 1000000, 1000000], [], [49, 1000000, 1000000], [], [51, 1000000, 1000000], [], [1000000, 1000000, 1000000, 1000000, 1000000, 1000000, 1000000, 53, 54, 55, 1000000, 56, 57, 58, 1000000, 59, 60], [], [], [], [], [], [], [], [], [1000000, 1000000, 1000000, 1000000, 1000000, 1000000, 1000000, 62, 63, 64, 1000000, 65, 66, 67, 1000000, 68, 69], [], [], [], [], [], [], [], [], [1000000, 1000000, 1000000, 1000000, 1000000, 1000000, 1000000, 71, 72, 73, 1000000, 74, 75, 76, 1000000, 77, 78], [], [], [], [], [], [], [], [], [1000000, 80, 81, 82, 83, 1000000, 84, 1000000, 1000000, 1000000, 1000000, 1000000, 1000000, 1000000, 85, 86, 87, 88, 89, 90, 1000000, 1000000, 1000000, 91, 92, 93, 94, 1000000, 1000000, 1000000, 1000000, 95, 1000000, 1000000, 96, 1000000, 1000000, 97, 98, 99, 100, 101], [], [], [], [], [], [], [], [], [], [], [], [], [], [], [], [], [], [], [], [], [], []]
def hfl : List (List Nat) := [[0, 0, 0, 0, 0, 0, 0, 2, 2, 2, 0, 2, 2, 2, 0, 2, 2], [2], [0, 0, 0, 0, 2, 0, 0], [2, 2, 2, 2, 2, 0, 0, 0], [0, 0, 2, 2, 0, 0, 0, 0], [2, 0, 0], [2, 2, 2, 2, 0, 2, 2, 1], [2], [2, 0], [2, 2, 2, 2, 2, 2, 2, 2, 2, 2, 2, 2], [0, 2, 2, 2, 2, 0, 2, 0, 0, 0, 0, 0, 0, 0, 2, 2, 2, 2, 2, 2, 1, 0, 0, 2, 2, 2, 2, 0, 0, 0, 0, 2, 0, 0, 2, 0, 0, 2, 2, 2, 2, 2]]
abbrev NC : Nat := 102
def hkd (c : Nat) : Nat × Nat := hkl.getD c (9, 0)
def hsr (c f : Nat) : Nat := (hsl.getD c []).getD f 1000000
def hdy (c f : Nat) : Bool := (c == 0 && (f == 10 || f == 11)) || (c == 3 && (f == 2 || f == 3))
def hrv (w : HW) (c f : Nat) : Nat := bif hdy c f then gR w c f else hsr c f
def hrf (base n : Nat) : Option Nat := if n = 1000000 then none else some (base + n)
def hfty (ci f : Nat) : Nat := (hfl.getD ci []).getD f 0
def hnf (ci : Nat) : Nat := (hfl.getD ci []).length
def hfld (base : Nat) (w : HW) (c ci f : Nat) : Value := match hfty ci f with
  | 0 => .int (gI w c f)
  | 1 => .long (gL w c f)
  | _ => va_rf (hrf base (hrv w c f))
def harc (base : Nat) (w : HW) (c t : Nat) : (Nat → Int32) ⊕ (Nat → Int64) ⊕ (Nat → UInt32) ⊕ (Nat → UInt64) ⊕ (Nat → Option Nat) := match t with
  | 2 => .inr (.inl (gL w c))
  | 5 => .inr (.inr (.inr (.inr (fun i => hrf base (hrv w c i)))))
  | 6 => .inr (.inr (.inr (.inr (fun i => hrf base (hrv w c i)))))
  | _ => .inl (gI w c)
def hent (cA : Nat → ClassId) (base : Nat) (w : HW) (c : Nat) : va_E := match (hkd c).1 with
  | 0 => .inr ((hkd c).2, (List.range (hnf (hkd c).2)).map (hfld base w c (hkd c).2))
  | t => .inl (cA t, (hkd c).2, harc base w c t)
def hws (cA : Nat → ClassId) (base : Nat) (w : HW) : va_W := (List.range NC).map (fun c => (base + c, hent cA base w c))
def htys (cA : Nat → ClassId) : List (ClassId × FieldType) := [(cA 1, .int), (cA 2, .long), (cA 3, .byte), (cA 4, .boolean), (cA 5, .object "SacredHens$Row"), (cA 6, .object "SacredHens$Camp")]
theorem hws_at {cA : Nat → ClassId} {base : Nat} {w : HW} {c : Nat} (h : c < NC) : (hws cA base w)[c]? = some (base + c, hent cA base w c) := by
  unfold hws
  rw [List.getElem?_map, List.getElem?_range h]
  rfl
theorem hws_D {cA : Nat → ClassId} {base : Nat} {w : HW} : va_D (fun q : Nat => base ≤ q) (hws cA base w) := by
  have key : ∀ (i : Nat) (q : Nat × va_E), (hws cA base w)[i]? = some q → q.1 = base + i := by
    intro i q h
    unfold hws at h
    rw [List.getElem?_map] at h
    cases hr : (List.range NC)[i]? with
    | none => rw [hr] at h; cases h
    | some z =>
      rw [hr] at h
      cases h
      obtain ⟨h1, h2⟩ := List.getElem?_eq_some_iff.mp hr
      rw [List.getElem_range] at h2
      subst h2
      rfl
  refine ⟨fun i j p q hi hj e => ?_, fun k q h => ?_⟩
  · have h1 := key i p hi
    have h2 := key j q hj
    omega
  · have h1 := key k q h
    show base ≤ q.1
    omega
theorem hws_set {cA : Nat → ClassId} {base : Nat} {w w' : HW} {c : Nat} {e : va_E} (he : hent cA base w' c = e) (hj : ∀ j, j ≠ c → hent cA base w' j = hent cA base w j) : (hws cA base w).set c (base + c, e) = hws cA base w' := by
  apply List.ext_getElem?
  intro i
  unfold hws
  by_cases hi : i < NC
  · by_cases hc : i = c
    · subst hc
      rw [List.getElem?_set_self (by simpa using hi), List.getElem?_map, List.getElem?_range hi]
      simp [he]
    · rw [List.getElem?_set_ne (Ne.symm hc), List.getElem?_map, List.getElem?_map, List.getElem?_range hi]
      simp [hj i hc]
  · rw [List.getElem?_eq_none (by simpa using Nat.le_of_not_lt hi), List.getElem?_eq_none (by simpa using Nat.le_of_not_lt hi)]
theorem hent_congr {cA : Nat → ClassId} {base : Nat} {w w' : HW} {c : Nat} (h1 : ∀ f, gI w' c f = gI w c f) (h2 : ∀ f, gL w' c f = gL w c f) (h3 : ∀ f, gR w' c f = gR w c f) : hent cA base w' c = hent cA base w c := by
  have h3' : ∀ f, hrv w' c f = hrv w c f := fun f => by unfold hrv; rw [h3]
  have hf : ∀ ci f, hfld base w' c ci f = hfld base w c ci f := by
    intro ci f
    unfold hfld
    rw [h1, h2, h3']
  have ha : ∀ t, harc base w' c t = harc base w c t := by
    intro t
    have e1 : gI w' c = gI w c := funext h1
    have e2 : gL w' c = gL w c := funext h2
    have e3 : (fun i => hrf base (hrv w' c i)) = fun i => hrf base (hrv w c i) := funext fun i => by rw [h3']
    unfold harc
    rw [e1, e2, e3]
  unfold hent
  have e : hfld base w' c (hkd c).2 = hfld base w c (hkd c).2 := funext (hf _)
  rw [e]
  split
  · rfl
  · rw [ha]
theorem gI_uI (w : HW) (c f : Nat) (v : Int32) (a b : Nat) : gI (uI w c f v) a b = if a = c ∧ b = f then v else gI w a b := rfl
theorem gL_uI (w : HW) (c f : Nat) (v : Int32) (a b : Nat) : gL (uI w c f v) a b = gL w a b := rfl
theorem gR_uI (w : HW) (c f : Nat) (v : Int32) (a b : Nat) : gR (uI w c f v) a b = gR w a b := rfl
theorem gI_uL (w : HW) (c f : Nat) (v : Int64) (a b : Nat) : gI (uL w c f v) a b = gI w a b := rfl
theorem gL_uL (w : HW) (c f : Nat) (v : Int64) (a b : Nat) : gL (uL w c f v) a b = if a = c ∧ b = f then v else gL w a b := rfl
theorem gR_uL (w : HW) (c f : Nat) (v : Int64) (a b : Nat) : gR (uL w c f v) a b = gR w a b := rfl
theorem gI_uR (w : HW) (c f : Nat) (v : Nat) (a b : Nat) : gI (uR w c f v) a b = gI w a b := rfl
theorem gL_uR (w : HW) (c f : Nat) (v : Nat) (a b : Nat) : gL (uR w c f v) a b = gL w a b := rfl
theorem gR_uR (w : HW) (c f : Nat) (v : Nat) (a b : Nat) : gR (uR w c f v) a b = if a = c ∧ b = f then v else gR w a b := rfl
theorem gI_uC (w : HW) (c0 c1 i k n a b : Nat) : gI (uC w c0 c1 i k n) a b = if a = c1 ∧ k ≤ b ∧ b < k + n then gI w c0 (i + (b - k)) else gI w a b := rfl
theorem gL_uC (w : HW) (c0 c1 i k n a b : Nat) : gL (uC w c0 c1 i k n) a b = gL w a b := rfl
theorem gR_uC (w : HW) (c0 c1 i k n a b : Nat) : gR (uC w c0 c1 i k n) a b = gR w a b := rfl
theorem gI_uCL (w : HW) (c0 c1 i k n a b : Nat) : gI (uCL w c0 c1 i k n) a b = gI w a b := rfl
theorem gL_uCL (w : HW) (c0 c1 i k n a b : Nat) : gL (uCL w c0 c1 i k n) a b = if a = c1 ∧ k ≤ b ∧ b < k + n then gL w c0 (i + (b - k)) else gL w a b := rfl
theorem gR_uCL (w : HW) (c0 c1 i k n a b : Nat) : gR (uCL w c0 c1 i k n) a b = gR w a b := rfl
theorem hent_obj {cA : Nat → ClassId} {base : Nat} {w : HW} {c ci : Nat} (h : hkd c = (0, ci)) : hent cA base w c = .inr (ci, (List.range (hnf ci)).map (hfld base w c ci)) := by
  unfold hent
  rw [h]
  rfl
theorem hent_arrI {cA : Nat → ClassId} {base : Nat} {w : HW} {c n : Nat} (t : Nat) (ht : t = 1 ∨ t = 3 ∨ t = 4) (h : hkd c = (t, n)) : hent cA base w c = .inl (cA t, n, .inl (gI w c)) := by
  unfold hent
  rw [h]
  rcases ht with rfl | rfl | rfl <;> rfl
theorem hent_arrL {cA : Nat → ClassId} {base : Nat} {w : HW} {c n : Nat} (h : hkd c = (2, n)) : hent cA base w c = .inl (cA 2, n, .inr (.inl (gL w c))) := by
  unfold hent
  rw [h]
  rfl
theorem hent_arrR {cA : Nat → ClassId} {base : Nat} {w : HW} {c n : Nat} (t : Nat) (ht : t = 5 ∨ t = 6) (h : hkd c = (t, n)) : hent cA base w c = .inl (cA t, n, .inr (.inr (.inr (.inr (fun i => hrf base (hrv w c i)))))) := by
  unfold hent
  rw [h]
  rcases ht with rfl | rfl <;> rfl
theorem hkd_lt {c t n : Nat} (h : hkd c = (t, n)) (ht : t ≠ 9) : c < NC := by
  by_cases hc : c < NC
  · exact hc
  · exfalso
    apply ht
    unfold hkd at h
    have hl : hkl.length = NC := by decide +kernel
    rw [List.getD_eq_getElem?_getD, List.getElem?_eq_none (by rw [hl]; omega)] at h
    cases h
    rfl
theorem hfs_set {base : Nat} {w w' : HW} {c ci k : Nat} {v : Value} (hv : hfld base w' c ci k = v) (ho : ∀ f, f ≠ k → hfld base w' c ci f = hfld base w c ci f) : ((List.range (hnf ci)).map (hfld base w c ci)).set k v = (List.range (hnf ci)).map (hfld base w' c ci) := by
  apply List.ext_getElem?
  intro i
  by_cases hi : i < hnf ci
  · by_cases hk : i = k
    · subst hk
      rw [List.getElem?_set_self (by simpa using hi), List.getElem?_map, List.getElem?_range hi]
      simp [hv]
    · rw [List.getElem?_set_ne (Ne.symm hk), List.getElem?_map, List.getElem?_map, List.getElem?_range hi]
      simp [ho i hk]
  · rw [List.getElem?_eq_none (by simpa using Nat.le_of_not_lt hi), List.getElem?_eq_none (by simpa using Nat.le_of_not_lt hi)]
/-- what the String constants are, by their places (no two are said to differ) -/
def hVS (N : Nat) (len : List Nat) (byt : List (List Int32)) (ad : Nat → Nat × Nat) (A : Nat → Prop) (U : State) (H : Heap) : Prop :=
  (∀ i : Nat, i < N → va_O "java/lang/String" (ad i).1 A U H ∧ va_OF "java/lang/String" "coder" "B" (.int 0) (ad i).1 A U H ∧ va_OF "java/lang/String" "value" "[B" (.ref (ad i).2) (ad i).1 A U H ∧ va_T .byte (ad i).2 (len.getD i 0) (fun j => .int ((byt.getD i []).getD j 0)) A U H) ∧ va_Z "java/lang/String" "COMPACT_STRINGS" "Z" (.int 1) A U H ∧ va_Zq "jdk/internal/util/Preconditions" "SIOOBE_FORMATTER" "Ljava/util/function/BiFunction;" A U H
theorem hVS.moved {N : Nat} {len : List Nat} {byt : List (List Int32)} {ad : Nat → Nat × Nat} {A : Nat → Prop} {u U : State} {H : Heap} (hvm : u.vm.Alike U.vm) (h : hVS N len byt ad A u H) : hVS N len byt ad A U H :=
  ⟨fun i hi => ⟨va_O.moved hvm (h.1 i hi).1, va_OF.moved hvm (h.1 i hi).2.1, va_OF.moved hvm (h.1 i hi).2.2.1, va_T.moved hvm (h.1 i hi).2.2.2⟩, va_Z.moved hvm h.2.1, va_Zq.moved hvm h.2.2⟩
theorem hVS.kept {N : Nat} {len : List Nat} {byt : List (List Int32)} {ad : Nat → Nat × Nat} {A : Nat → Prop} {U : State} {H H1 : Heap} (h : hVS N len byt ad A U H) (hq : ∀ a : Nat, a < H.size → ¬ A a → H1[a]? = H[a]?) : hVS N len byt ad A U H1 :=
  ⟨fun i hi => ⟨(h.1 i hi).1.kept hq, (h.1 i hi).2.1.kept hq, (h.1 i hi).2.2.1.kept hq, (h.1 i hi).2.2.2.kept hq⟩, h.2.1.kept hq, h.2.2.kept hq⟩
def hlen : List Nat := [4, 4, 6, 5, 4, 4, 5, 2, 4, 2, 4, 5, 5]
def hbyt : List (List Int32) := [[99, 97, 109, 112], [100, 97, 121, 115], [104, 117, 110, 103, 101, 114], [103, 114, 101, 101, 100], [111, 100, 100, 115], [109, 97, 114, 107], [97, 117, 103, 117, 114], [111, 102], [102, 114, 111, 109], [116, 111], [98, 105, 108, 108], [119, 111, 114, 116, 104], [97, 102, 116, 101, 114]]
/-- class, place in its pool, text, which text -/
def hstr : List (String × Nat × String × Nat) := [("SacredHens$Reader", 75, "camp", 0), ("SacredHens$Reader", 80, "days", 1), ("SacredHens$Reader", 86, "hunger", 2), ("SacredHens$Reader", 88, "greed", 3), ("SacredHens$Reader", 90, "odds", 4), ("SacredHens$Reader", 49, "mark", 5), ("SacredHens$Reader", 58, "augur", 6), ("SacredHens$Reader", 107, "of", 7), ("SacredHens$Reader", 109, "from", 8), ("SacredHens$Reader", 111, "to", 9), ("SacredHens$Reader", 63, "bill", 10), ("SacredHens$Reader", 126, "worth", 11), ("SacredHens$Reader", 128, "after", 12), ("SacredHensModel", 174, "camp", 0), ("SacredHensModel", 176, "days", 1), ("SacredHensModel", 182, "hunger", 2), ("SacredHensModel", 184, "greed", 3), ("SacredHensModel", 186, "odds", 4), ("SacredHensModel", 197, "mark", 5), ("SacredHensModel", 199, "augur", 6), ("SacredHensModel", 201, "bill", 10), ("SacredHensModel", 188, "of", 7), ("SacredHensModel", 190, "from", 8), ("SacredHensModel", 191, "to", 9), ("SacredHensModel", 193, "worth", 11), ("SacredHensModel", 195, "after", 12)]
def hnl : List (String × Nat × MethodName × String) := [("SacredHens", 9, ⟨"SacredHens$Tape", "<init>", "()V"⟩, "SacredHens"), ("SacredHens", 18, ⟨"SacredHens$Reader", "<init>", "()V"⟩, "SacredHens"), ("SacredHens", 25, ⟨"SacredHens$Season", "<init>", "()V"⟩, "SacredHens"), ("SacredHens", 32, ⟨"SacredHens$Planner", "<init>", "()V"⟩, "SacredHens"), ("SacredHens", 39, ⟨"SacredHens$Chain", "<init>", "()V"⟩, "SacredHens"), ("SacredHens", 52, ⟨"SacredHens$Hens", "<init>", "()V"⟩, "SacredHens"), ("SacredHens", 59, ⟨"SacredHens$SignList", "<init>", "()V"⟩, "SacredHens"), ("SacredHens", 74, ⟨"SacredHens$Camp", "<init>", "()V"⟩, "SacredHens"), ("SacredHens", 82, ⟨"SacredHens$Row", "<init>", "()V"⟩, "SacredHens"), ("SacredHens$Camp", 74, ⟨"SacredHens", "isChoice", "(I)Z"⟩, "SacredHens"), ("SacredHens$Camp", 78, ⟨"SacredHens", "holds", "(II)Z"⟩, "SacredHens"), ("SacredHens$Season", 98, ⟨"SacredHens", "holds", "(II)Z"⟩, "SacredHens"), ("SacredHens$Planner", 62, ⟨"SacredHens", "holds", "(II)Z"⟩, "SacredHens"), ("SacredHens$Chain", 39, ⟨"SacredHens", "holds", "(II)Z"⟩, "SacredHens"), ("SacredHens$SignList", 23, ⟨"SacredHens", "isChoice", "(I)Z"⟩, "SacredHens")]
abbrev hAb (base : Nat) : Nat → Prop := fun q => base ≤ q
def hEnv (D : va_G) (cA : Nat → ClassId) (ad : Nat → Nat × Nat) (U : State) : Prop :=
  va_K D vwCl (htys cA) U ∧ (∀ q ∈ hnl, va_Nw (.methodLinkNest q.1 q.2.1 q.2.2.1 q.2.2.2) U) ∧ ∀ q ∈ hstr, vk_R q.1 q.2.1 q.2.2.1 (ad q.2.2.2).1 U
theorem hEnv.warm {D : va_G} {cA : Nat → ClassId} {ad : Nat → Nat × Nat} {s U : State} (hW : s.WarmedH U.vm) (h : hEnv D cA ad s) : hEnv D cA ad U :=
  ⟨va_K.moved hW.alike h.1, fun q hq => va_Nw.warmM hW (h.2.1 q hq), fun q hq => vk_R.warm hW (h.2.2 q hq)⟩
theorem hEnv.same {D : va_G} {cA : Nat → ClassId} {ad : Nat → Nat × Nat} {u U : State} (hv : U.vm = u.vm) (h : hEnv D cA ad u) : hEnv D cA ad U :=
  ⟨va_K.moved (by rw [hv]; exact Vm.Alike.refl u.vm) h.1, fun q hq => va_Nw.same rfl hv.symm (h.2.1 q hq), fun q hq => vk_R.same hv (h.2.2 q hq)⟩
def hPm (D : va_G) (cA : Nat → ClassId) (ad : Nat → Nat × Nat) (base : Nat) (av : List Value) (w : HW) : Array Value → State → Prop :=
  va_Pc av (fun U => va_P D vwCl (hws cA base w) U.heap ∧ hEnv D cA ad U ∧ hVS 13 hlen hbyt ad (hAb base) U U.heap)
def hQm (D : va_G) (cA : Nat → ClassId) (base : Nat) (v : Option Value) (w : HW) : Array Value → State → Outcome → State → Prop :=
  fun _ st o t => o = .returned v ∧ va_P D vwCl (hws cA base w) t.heap ∧ va_F (hAb base) st t
theorem hPm_blind {D : va_G} {cA : Nat → ClassId} {ad : Nat → Nat × Nat} {base : Nat} {av : List Value} {w : HW} : FrameBlind (hPm D cA ad base av w) := by
  intro a U g mk h
  obtain ⟨h0, h1, h2, h3⟩ := h
  exact ⟨h0, h1, hEnv.same (u := U) (U := U.calling g mk a) rfl h2, hVS.moved (u := U) (U := U.calling g mk a) (Vm.Alike.refl U.vm) h3⟩
/-- the words that hold in every frame -/
def hWS : List Cond := lw_tbl.filter goodWord
theorem hWS_in {w : Cond} {i : Nat} (h : tables_1[i]? = some w) (hg : goodWord w = true) : w ∈ hWS := List.mem_filter.mpr ⟨List.mem_append_right _ (List.mem_of_getElem? h), hg⟩
theorem hWS_sel {y : MethodName} {i : Nat} {n : Nat} (h : lw_privs[i]? = some (y, n)) : Cond.selects y.cls y y ∈ hWS := by
  refine List.mem_filter.mpr ⟨List.mem_append_left _ ?_, rfl⟩
  exact List.mem_map.mpr ⟨_, List.mem_of_getElem? h, rfl⟩
theorem hWS_good : GoodIn hWS hWS := fun w h => ⟨h, good_of_word (List.mem_filter.mp h).2⟩
theorem hWS_goodc {w : Cond} (h : w ∈ hWS) : GoodIn hWS (w :: hWS) := fun v hv => by
  rcases List.mem_cons.mp hv with rfl | hv
  · exact hWS_good _ h
  · exact hWS_good _ hv
abbrev hwy (y : MethodName) (cc : ByteArray) (n : Nat) (ret : Option FieldType) : List Cond := Cond.code y cc n ret :: hWS
/-- what every call of a method needs of it -/
def hCF (y : MethodName) (cc : ByteArray) (maxL : Nat) (ret : Option FieldType) (n : Nat) : Prop :=
  Cond.instanceMethod y ∈ hWS ∧ Cond.selects y.cls y y ∈ hWS ∧ Cond.initialized y.cls ∈ hWS ∧ Cond.code y cc maxL ret ∈ hWS ∧ (y.cls ≠ "java/lang/invoke/MethodHandle" ∧ y.cls ≠ "java/lang/invoke/VarHandle" ∧ (parseMethodDescriptor y.desc).map (fun d => d.parameters.length) = some n)
def hCS (y : MethodName) (cc : ByteArray) (maxL : Nat) (ret : Option FieldType) (n : Nat) : Prop :=
  Cond.static y ∈ hWS ∧ Cond.initialized y.cls ∈ hWS ∧ Cond.code y cc maxL ret ∈ hWS ∧ (y.cls ≠ "java/lang/invoke/MethodHandle" ∧ y.cls ≠ "java/lang/invoke/VarHandle" ∧ (parseMethodDescriptor y.desc).map (fun d => d.parameters.length) = some n)
/-- a field: its class's place, its own, its kind, name, descriptor -/
def hFO (ci k kt : Nat) (nm ds : String) (fin : Bool) (ty : FieldType) : Prop :=
  hfty ci k = kt ∧ hnf ci = (vwCl.getD ci ("", fun _ => ("", "", "", false), 0)).2.2 ∧ k < hnf ci ∧ ci < vwCl.length ∧ (∀ q, vwCl[ci]? = some q → q.2.1 k = (q.1, nm, ds, fin) ∧ k < q.2.2 ∧ (∀ w ∈ u_ws q.1 q.2.1 q.2.2, w ∈ hWS) ∧ (∃ ty0 : Nat → FieldType, (∀ j, j < q.2.2 → parseFieldDescriptor (q.2.1 j).2.2.1 = some (ty0 j)) ∧ ty0 k = ty) ∧ (∀ a, a < q.2.2 → ∀ b, b < q.2.2 → a ≠ b → (q.2.1 a).2.1 ≠ (q.2.1 b).2.1))
/-! ONE STEP OF A METHOD AGAINST A PLAIN TERM: Sm G a pc lv st w X says: if the term X answers a, the machine, at pc with these locals, this stack and the world w, comes to the end that a says -/
abbrev Bx : Type := Launch × va_G × (Nat → ClassId) × (Nat → Nat × Nat) × Nat
abbrev Gx : Type := Bx × (Program × Env × Room × State × MethodId × Array Value × List Frame × Method × Code × (State → Prop) × Nat × Nat × Nat)
def bB (b : Bx) : Nat := b.2.2.2.2
def bA (b : Bx) : Nat → Nat × Nat := b.2.2.2.1
abbrev hB (G : Gx) : Nat := bB G.1
abbrev hA (G : Gx) : Nat → Nat × Nat := bA G.1
def Sm {α : Type} : Gx → α → Nat → List (Nat × Value) → List Value → HW → Option α → Prop :=
  fun ((l, D, cA, _, base), p, e, R, s, m, args, below, meth, c, Q, nL, kc, ks) a pc lv st w X => X = some a → ∀ (H : Heap) (locs : List Loc) (ls : Array Slot), va_P D vwCl (hws cA base w) H → va_S (hAb base) s.heap H locs → lv_has ls nL lv → W p l e R s m args below meth c H locs kc ks Q (F0 m pc ls st)
def Cx : Gx → ByteArray → String → Nat → Nat → Nat → Prop :=
  fun ((_, D, cA, ad, base), p, _, R, s, m, args, _, meth, c, _, nL, kc, ks) cc own nV fr lo => p.tables.exec = Jvm.exec ∧ c.code = cc ∧ c.maxLocals = nL ∧ s.vm.findClass own = some m.cls ∧ (∀ w ∈ hWS, w.before args s = true) ∧ hEnv D cA ad s ∧ hVS 13 hlen hbyt ad (hAb base) s s.heap ∧ meth.locks = false ∧ fr ≤ R.frames ∧ lo ≤ R.locals ∧ kc ≤ R.cells ∧ ks ≤ R.slots ∧ nL = nV
/-- what a method's end says of its answer -/
def Rx {α : Type} : Gx → (α → Option Value × HW) → α → Option FieldType → Prop :=
  fun ((_, D, cA, _, base), _, _, _, s, _, args, below, meth, _, Q, _, kc, ks) ρ a rt => meth.sig.returnType = rt ∧ Q = MQ below (hQm D cA base (ρ a).1 (ρ a).2) args s kc ks (hAb base)
def lT {τ α : Type} (e : τ) (k : τ → Option α) : Option α := k e
def bI {β α : Type} (f : Option β) (k : β → Option α) : Option α := match f with
  | none => none
  | some r => k r
def bW {β α : Type} (f : Option (β × HW)) (k : β → HW → Option α) : Option α := bI f (fun r => k r.1 r.2)
def inB (i : Int32) (n : Nat) : Bool := decide (¬ i < 0) && decide (i.toNatClampNeg < n)
theorem inB_in {i : Int32} {n : Nat} (h : inB i n = true) : vp_in i n := by
  simp only [inB, Bool.and_eq_true, decide_eq_true_eq] at h
  exact fun z => z.elim h.1 (fun q => absurd h.2 (Nat.not_lt.mpr q))
def ix (i : Int32) : Nat := i.toNatClampNeg
def zB (r : Int32) : Bool := decide (r = 0) || decide (r = 1)
def rI {β : Type} (_ : β) : Unit := ()
def ρI (w : HW) (r : Int32) : Option Value × HW := (some (.int r), w)
def ρL (w : HW) (r : Int64) : Option Value × HW := (some (.long r), w)
def ρIW (r : Int32 × HW) : Option Value × HW := (some (.int r.1), r.2)
def ρLW (r : Int64 × HW) : Option Value × HW := (some (.long r.1), r.2)
def ρW (r : HW) : Option Value × HW := (none, r)
def iMx (x y : Int32) : Int32 := if x < y then y else x
def iMn (x y : Int32) : Int32 := if y < x then y else x
def iSl (x y : Int32) : Int32 := x <<< (y &&& 31)
def iSr (x y : Int32) : Int32 := x >>> (y &&& 31)
def iUr (x y : Int32) : Int32 := (x.toUInt32 >>> (y.toUInt32 &&& Int32.toUInt32 31)).toInt32
def iRm (x y : Int32) : Int32 := x - x / y * y
def lRm (x y : Int64) : Int64 := x - x / y * y
def lSl (x : Int64) (y : Int32) : Int64 := x <<< (y.toInt64 &&& 63)
def lSr (x : Int64) (y : Int32) : Int64 := x >>> (y.toInt64 &&& 63)
def iB (x : Int32) : Int32 := x.toInt8.toInt32
def iS (x : Int32) : Int32 := x.toInt16.toInt32
def iC (x : Int32) : Int32 := (x.toUInt32 % 65536).toInt32
section SM
variable {G : Gx} {cc : ByteArray} {own : String} {nV fr lo : Nat} {α : Type} {a : α} {pc : Nat} {lv : List (Nat × Value)} {st : List Value} {w : HW} {X Y : Option α}
theorem sm_none : Sm G a pc lv st w none := by
  obtain ⟨⟨l, D, cA, ad, base⟩, p, e, R, s, m, args, below, meth, c, Q, nL, kc, ks⟩ := G
  intro h
  cases h
theorem sm_sub {lv' : List (Nat × Value)} (ks : List Nat) (h : lv_pick lv ks = lv') (k : Sm G a pc lv' st w X) : Sm G a pc lv st w X := by
  obtain ⟨⟨l, D, cA, ad, base⟩, p, e, R, s, m, args, below, meth, c, Q, nL, kc, ks⟩ := G
  exact fun hX H locs ls hP hS hl => k hX H locs ls hP hS (lv_sub hl _ h)
theorem sm_let {e : Int32} {k : Int32 → Option α} (h : ∀ x, Sm G a pc lv (.int x :: st) w (k x)) : Sm G a pc lv (.int e :: st) w (lT e k) := h e
theorem sm_letL {e : Int64} {k : Int64 → Option α} (h : ∀ x, Sm G a pc lv (.long x :: st) w (k x)) : Sm G a pc lv (.long e :: st) w (lT e k) := h e
theorem sm_chk {P : Bool} (k : P = true → Sm G a pc lv st w X) : Sm G a pc lv st w (if P = true then X else none) := by
  by_cases h : P = true
  · rw [if_pos h]; exact k h
  · rw [if_neg h]; exact sm_none
theorem sm_iconst (C : Cx G cc own nV fr lo) {n : Int} {v : Int32} (hv : Int32.ofInt n = v) (d : decode cc pc = .ok (.iconst n, 1)) (k : Sm G a (pc + 1) lv (.int v :: st) w X) : Sm G a pc lv st w X := by
  obtain ⟨⟨l, D, cA, ad, base⟩, p, e, R, s, m, args, below, meth, c, Q, nL, kc, ks⟩ := G
  obtain ⟨hx, hb, hml, hown, hts, hE, hV, hlk, hfr, hlo, hkc, hks, hnV⟩ := C
  subst hnV
  exact fun hX H locs ls hP hS hl => lv_iconst hx hb d hv (k hX H locs ls hP hS hl)
theorem sm_bipush (C : Cx G cc own nV fr lo) {n : Int} {v : Int32} (hv : (Int8.ofInt n).toInt32 = v) (d : decode cc pc = .ok (.bipush n, 2)) (k : Sm G a (pc + 2) lv (.int v :: st) w X) : Sm G a pc lv st w X := by
  obtain ⟨⟨l, D, cA, ad, base⟩, p, e, R, s, m, args, below, meth, c, Q, nL, kc, ks⟩ := G
  obtain ⟨hx, hb, hml, hown, hts, hE, hV, hlk, hfr, hlo, hkc, hks, hnV⟩ := C
  subst hnV
  exact fun hX H locs ls hP hS hl => lv_bipush hx hb d hv (k hX H locs ls hP hS hl)
theorem sm_sipush (C : Cx G cc own nV fr lo) {n : Int} {v : Int32} (hv : (Int16.ofInt n).toInt32 = v) (d : decode cc pc = .ok (.sipush n, 3)) (k : Sm G a (pc + 3) lv (.int v :: st) w X) : Sm G a pc lv st w X := by
  obtain ⟨⟨l, D, cA, ad, base⟩, p, e, R, s, m, args, below, meth, c, Q, nL, kc, ks⟩ := G
  obtain ⟨hx, hb, hml, hown, hts, hE, hV, hlk, hfr, hlo, hkc, hks, hnV⟩ := C
  subst hnV
  exact fun hX H locs ls hP hS hl => lv_sipush hx hb d hv (k hX H locs ls hP hS hl)
theorem sm_lconst (C : Cx G cc own nV fr lo) {n : Fin 2} {v : Int64} (hv : Int64.ofNat (n : Nat) = v) (d : decode cc pc = .ok (.lconst n, 1)) (k : Sm G a (pc + 1) lv (.long v :: st) w X) : Sm G a pc lv st w X := by
  obtain ⟨⟨l, D, cA, ad, base⟩, p, e, R, s, m, args, below, meth, c, Q, nL, kc, ks⟩ := G
  obtain ⟨hx, hb, hml, hown, hts, hE, hV, hlk, hfr, hlo, hkc, hks, hnV⟩ := C
  subst hnV
  exact fun hX H locs ls hP hS hl => lv_lconst hx hb d hv (k hX H locs ls hP hS hl)
theorem sm_ldc (C : Cx G cc own nV fr lo) {v : Int32} {index : Nat} (hw : Cond.constant own index v ∈ hWS) (d : decode cc pc = .ok (.ldc index, 2)) (k : Sm G a (pc + 2) lv (.int v :: st) w X) : Sm G a pc lv st w X := by
  obtain ⟨⟨l, D, cA, ad, base⟩, p, e, R, s, m, args, below, meth, c, Q, nL, kc, ks⟩ := G
  obtain ⟨hx, hb, hml, hown, hts, hE, hV, hlk, hfr, hlo, hkc, hks, hnV⟩ := C
  subst hnV
  exact fun hX H locs ls hP hS hl => lv_ldc hx hb hown (hts _ hw) d (k hX H locs ls hP hS hl)
theorem sm_ldcw (C : Cx G cc own nV fr lo) {v : Int32} {index : Nat} (hw : Cond.constant own index v ∈ hWS) (d : decode cc pc = .ok (.ldc_w index, 3)) (k : Sm G a (pc + 3) lv (.int v :: st) w X) : Sm G a pc lv st w X := by
  obtain ⟨⟨l, D, cA, ad, base⟩, p, e, R, s, m, args, below, meth, c, Q, nL, kc, ks⟩ := G
  obtain ⟨hx, hb, hml, hown, hts, hE, hV, hlk, hfr, hlo, hkc, hks, hnV⟩ := C
  subst hnV
  exact fun hX H locs ls hP hS hl => lv_ldcw hx hb hown (hts _ hw) d (k hX H locs ls hP hS hl)
theorem sm_ldc2 (C : Cx G cc own nV fr lo) {v : Int64} {index : Nat} (hw : Cond.constantLong own index v ∈ hWS) (d : decode cc pc = .ok (.ldc2_w index, 3)) (k : Sm G a (pc + 3) lv (.long v :: st) w X) : Sm G a pc lv st w X := by
  obtain ⟨⟨l, D, cA, ad, base⟩, p, e, R, s, m, args, below, meth, c, Q, nL, kc, ks⟩ := G
  obtain ⟨hx, hb, hml, hown, hts, hE, hV, hlk, hfr, hlo, hkc, hks, hnV⟩ := C
  subst hnV
  exact fun hX H locs ls hP hS hl => lv_ldc2 hx hb hown (hts _ hw) d (k hX H locs ls hP hS hl)
theorem sm_ldcS (C : Cx G cc own nV fr lo) {index : Nat} {tx : String} {i : Nat} (j : Nat) (hj : hstr[j]? = some (own, index, tx, i)) (d : decode cc pc = .ok (.ldc index, 2)) (k : Sm G a (pc + 2) lv (.ref (hA G i).1 :: st) w X) : Sm G a pc lv st w X := by
  obtain ⟨⟨l, D, cA, ad, base⟩, p, e, R, s, m, args, below, meth, c, Q, nL, kc, ks⟩ := G
  obtain ⟨hx, hb, hml, hown, hts, hE, hV, hlk, hfr, hlo, hkc, hks, hnV⟩ := C
  subst hnV
  exact fun hX H locs ls hP hS hl => va_ldcS hx hb hown (hE.2.2 _ (List.mem_of_getElem? hj)) d (k hX H locs ls hP hS hl)
theorem sm_iload_n (C : Cx G cc own nV fr lo) {n : Fin 4} {i : Nat} {x : Int32} (q : Nat) (hq : lv[q]? = some (i, .int x)) (d : decode cc pc = .ok (.iload_n n, 1)) (hi : (n : Nat) = i) (k : Sm G a (pc + 1) lv (.int x :: st) w X) : Sm G a pc lv st w X := by
  obtain ⟨⟨l, D, cA, ad, base⟩, p, e, R, s, m, args, below, meth, c, Q, nL, kc, ks⟩ := G
  obtain ⟨hx, hb, hml, hown, hts, hE, hV, hlk, hfr, hlo, hkc, hks, hnV⟩ := C
  subst hnV
  exact fun hX H locs ls hP hS hl => lv_iload_n hx hb d hi (lv_at hl q hq) (k hX H locs ls hP hS hl)
theorem sm_iload (C : Cx G cc own nV fr lo) {i : Nat} {x : Int32} (q : Nat) (hq : lv[q]? = some (i, .int x)) (d : decode cc pc = .ok (.iload i, 2)) (k : Sm G a (pc + 2) lv (.int x :: st) w X) : Sm G a pc lv st w X := by
  obtain ⟨⟨l, D, cA, ad, base⟩, p, e, R, s, m, args, below, meth, c, Q, nL, kc, ks⟩ := G
  obtain ⟨hx, hb, hml, hown, hts, hE, hV, hlk, hfr, hlo, hkc, hks, hnV⟩ := C
  subst hnV
  exact fun hX H locs ls hP hS hl => lv_iload hx hb d (lv_at hl q hq) (k hX H locs ls hP hS hl)
theorem sm_istore_n (C : Cx G cc own nV fr lo) {n : Fin 4} {i : Nat} {x : Int32} {lv1 : List (Nat × Value)} (d : decode cc pc = .ok (.istore_n n, 1)) (hi : (n : Nat) = i) (hn : decide (i < nV) = true) (hf : (i, Value.int x) :: lv.filter (fun q => !(q.1 == i) && !(q.1 + 1 == i && q.2.category == 2)) = lv1) (k : Sm G a (pc + 1) lv1 st w X) : Sm G a pc lv (.int x :: st) w X := by
  obtain ⟨⟨l, D, cA, ad, base⟩, p, e, R, s, m, args, below, meth, c, Q, nL, kc, ks⟩ := G
  obtain ⟨hx, hb, hml, hown, hts, hE, hV, hlk, hfr, hlo, hkc, hks, hnV⟩ := C
  subst hnV
  exact fun hX H locs ls hP hS hl => lv_istore_n hx hb d hi hl (of_decide_eq_true hn) hf (fun ls1 hl1 => k hX H locs ls1 hP hS hl1)
theorem sm_istore (C : Cx G cc own nV fr lo) {i : Nat} {x : Int32} {lv1 : List (Nat × Value)} (d : decode cc pc = .ok (.istore i, 2)) (hn : decide (i < nV) = true) (hf : (i, Value.int x) :: lv.filter (fun q => !(q.1 == i) && !(q.1 + 1 == i && q.2.category == 2)) = lv1) (k : Sm G a (pc + 2) lv1 st w X) : Sm G a pc lv (.int x :: st) w X := by
  obtain ⟨⟨l, D, cA, ad, base⟩, p, e, R, s, m, args, below, meth, c, Q, nL, kc, ks⟩ := G
  obtain ⟨hx, hb, hml, hown, hts, hE, hV, hlk, hfr, hlo, hkc, hks, hnV⟩ := C
  subst hnV
  exact fun hX H locs ls hP hS hl => lv_istore hx hb d hl (of_decide_eq_true hn) hf (fun ls1 hl1 => k hX H locs ls1 hP hS hl1)
theorem sm_lload_n (C : Cx G cc own nV fr lo) {n : Fin 4} {i : Nat} {x : Int64} (q : Nat) (hq : lv[q]? = some (i, .long x)) (d : decode cc pc = .ok (.lload_n n, 1)) (hi : (n : Nat) = i) (k : Sm G a (pc + 1) lv (.long x :: st) w X) : Sm G a pc lv st w X := by
  obtain ⟨⟨l, D, cA, ad, base⟩, p, e, R, s, m, args, below, meth, c, Q, nL, kc, ks⟩ := G
  obtain ⟨hx, hb, hml, hown, hts, hE, hV, hlk, hfr, hlo, hkc, hks, hnV⟩ := C
  subst hnV
  exact fun hX H locs ls hP hS hl => lv_lload_n hx hb d hi (lv_at hl q hq) (k hX H locs ls hP hS hl)
theorem sm_lload (C : Cx G cc own nV fr lo) {i : Nat} {x : Int64} (q : Nat) (hq : lv[q]? = some (i, .long x)) (d : decode cc pc = .ok (.lload i, 2)) (k : Sm G a (pc + 2) lv (.long x :: st) w X) : Sm G a pc lv st w X := by
  obtain ⟨⟨l, D, cA, ad, base⟩, p, e, R, s, m, args, below, meth, c, Q, nL, kc, ks⟩ := G
  obtain ⟨hx, hb, hml, hown, hts, hE, hV, hlk, hfr, hlo, hkc, hks, hnV⟩ := C
  subst hnV
  exact fun hX H locs ls hP hS hl => lv_lload hx hb d (lv_at hl q hq) (k hX H locs ls hP hS hl)
theorem sm_lstore_n (C : Cx G cc own nV fr lo) {n : Fin 4} {i : Nat} {x : Int64} {lv1 : List (Nat × Value)} (d : decode cc pc = .ok (.lstore_n n, 1)) (hi : (n : Nat) = i) (hn : decide (i + 1 < nV) = true) (hf : (i, Value.long x) :: lv.filter (fun q => !(q.1 == i) && (!(q.1 == i + 1) && !(q.1 + 1 == i && q.2.category == 2))) = lv1) (k : Sm G a (pc + 1) lv1 st w X) : Sm G a pc lv (.long x :: st) w X := by
  obtain ⟨⟨l, D, cA, ad, base⟩, p, e, R, s, m, args, below, meth, c, Q, nL, kc, ks⟩ := G
  obtain ⟨hx, hb, hml, hown, hts, hE, hV, hlk, hfr, hlo, hkc, hks, hnV⟩ := C
  subst hnV
  exact fun hX H locs ls hP hS hl => lv_lstore_n hx hb d hi hl (of_decide_eq_true hn) hf (fun ls1 hl1 => k hX H locs ls1 hP hS hl1)
theorem sm_lstore (C : Cx G cc own nV fr lo) {i : Nat} {x : Int64} {lv1 : List (Nat × Value)} (d : decode cc pc = .ok (.lstore i, 2)) (hn : decide (i + 1 < nV) = true) (hf : (i, Value.long x) :: lv.filter (fun q => !(q.1 == i) && (!(q.1 == i + 1) && !(q.1 + 1 == i && q.2.category == 2))) = lv1) (k : Sm G a (pc + 2) lv1 st w X) : Sm G a pc lv (.long x :: st) w X := by
  obtain ⟨⟨l, D, cA, ad, base⟩, p, e, R, s, m, args, below, meth, c, Q, nL, kc, ks⟩ := G
  obtain ⟨hx, hb, hml, hown, hts, hE, hV, hlk, hfr, hlo, hkc, hks, hnV⟩ := C
  subst hnV
  exact fun hX H locs ls hP hS hl => lv_lstore hx hb d hl (of_decide_eq_true hn) hf (fun ls1 hl1 => k hX H locs ls1 hP hS hl1)
theorem sm_aload_n (C : Cx G cc own nV fr lo) {n : Fin 4} {i : Nat} {x : Nat} (q : Nat) (hq : lv[q]? = some (i, .ref x)) (d : decode cc pc = .ok (.aload_n n, 1)) (hi : (n : Nat) = i) (k : Sm G a (pc + 1) lv (.ref x :: st) w X) : Sm G a pc lv st w X := by
  obtain ⟨⟨l, D, cA, ad, base⟩, p, e, R, s, m, args, below, meth, c, Q, nL, kc, ks⟩ := G
  obtain ⟨hx, hb, hml, hown, hts, hE, hV, hlk, hfr, hlo, hkc, hks, hnV⟩ := C
  subst hnV
  exact fun hX H locs ls hP hS hl => lv_aload_n hx hb d hi (lv_at hl q hq) (k hX H locs ls hP hS hl)
theorem sm_aload (C : Cx G cc own nV fr lo) {i : Nat} {x : Nat} (q : Nat) (hq : lv[q]? = some (i, .ref x)) (d : decode cc pc = .ok (.aload i, 2)) (k : Sm G a (pc + 2) lv (.ref x :: st) w X) : Sm G a pc lv st w X := by
  obtain ⟨⟨l, D, cA, ad, base⟩, p, e, R, s, m, args, below, meth, c, Q, nL, kc, ks⟩ := G
  obtain ⟨hx, hb, hml, hown, hts, hE, hV, hlk, hfr, hlo, hkc, hks, hnV⟩ := C
  subst hnV
  exact fun hX H locs ls hP hS hl => lv_aload hx hb d (lv_at hl q hq) (k hX H locs ls hP hS hl)
theorem sm_astore_n (C : Cx G cc own nV fr lo) {n : Fin 4} {i : Nat} {x : Nat} {lv1 : List (Nat × Value)} (d : decode cc pc = .ok (.astore_n n, 1)) (hi : (n : Nat) = i) (hn : decide (i < nV) = true) (hf : (i, Value.ref x) :: lv.filter (fun q => !(q.1 == i) && !(q.1 + 1 == i && q.2.category == 2)) = lv1) (k : Sm G a (pc + 1) lv1 st w X) : Sm G a pc lv (.ref x :: st) w X := by
  obtain ⟨⟨l, D, cA, ad, base⟩, p, e, R, s, m, args, below, meth, c, Q, nL, kc, ks⟩ := G
  obtain ⟨hx, hb, hml, hown, hts, hE, hV, hlk, hfr, hlo, hkc, hks, hnV⟩ := C
  subst hnV
  exact fun hX H locs ls hP hS hl => lv_astore_n hx hb d hi hl (of_decide_eq_true hn) hf (fun ls1 hl1 => k hX H locs ls1 hP hS hl1)
theorem sm_astore (C : Cx G cc own nV fr lo) {i : Nat} {x : Nat} {lv1 : List (Nat × Value)} (d : decode cc pc = .ok (.astore i, 2)) (hn : decide (i < nV) = true) (hf : (i, Value.ref x) :: lv.filter (fun q => !(q.1 == i) && !(q.1 + 1 == i && q.2.category == 2)) = lv1) (k : Sm G a (pc + 2) lv1 st w X) : Sm G a pc lv (.ref x :: st) w X := by
  obtain ⟨⟨l, D, cA, ad, base⟩, p, e, R, s, m, args, below, meth, c, Q, nL, kc, ks⟩ := G
  obtain ⟨hx, hb, hml, hown, hts, hE, hV, hlk, hfr, hlo, hkc, hks, hnV⟩ := C
  subst hnV
  exact fun hX H locs ls hP hS hl => lv_astore hx hb d hl (of_decide_eq_true hn) hf (fun ls1 hl1 => k hX H locs ls1 hP hS hl1)
theorem sm_iinc (C : Cx G cc own nV fr lo) {i : Nat} {n : Int} {x v : Int32} {lv1 : List (Nat × Value)} (q : Nat) (hq : lv[q]? = some (i, .int x)) (hv : x + Int32.ofInt n = v) (d : decode cc pc = .ok (.iinc i n, 3)) (hn : decide (i < nV) = true) (hf : (i, Value.int v) :: lv.filter (fun q => !(q.1 == i) && !(q.1 + 1 == i && q.2.category == 2)) = lv1) (k : Sm G a (pc + 3) lv1 st w X) : Sm G a pc lv st w X := by
  obtain ⟨⟨l, D, cA, ad, base⟩, p, e, R, s, m, args, below, meth, c, Q, nL, kc, ks⟩ := G
  obtain ⟨hx, hb, hml, hown, hts, hE, hV, hlk, hfr, hlo, hkc, hks, hnV⟩ := C
  subst hnV
  exact fun hX H locs ls hP hS hl => lv_iinc hx hb d hl hq hv (of_decide_eq_true hn) hf (fun ls1 hl1 => k hX H locs ls1 hP hS hl1)
theorem sm_iadd (C : Cx G cc own nV fr lo) {x : Int32} {y : Int32} (d : decode cc pc = .ok (.iadd, 1)) (k : Sm G a (pc + 1) lv (.int (x + y) :: st) w X) : Sm G a pc lv (.int y :: .int x :: st) w X := by
  obtain ⟨⟨l, D, cA, ad, base⟩, p, e, R, s, m, args, below, meth, c, Q, nL, kc, ks⟩ := G
  obtain ⟨hx, hb, hml, hown, hts, hE, hV, hlk, hfr, hlo, hkc, hks, hnV⟩ := C
  subst hnV
  exact fun hX H locs ls hP hS hl => lv_iadd hx hb d (k hX H locs ls hP hS hl)
theorem sm_isub (C : Cx G cc own nV fr lo) {x : Int32} {y : Int32} (d : decode cc pc = .ok (.isub, 1)) (k : Sm G a (pc + 1) lv (.int (x - y) :: st) w X) : Sm G a pc lv (.int y :: .int x :: st) w X := by
  obtain ⟨⟨l, D, cA, ad, base⟩, p, e, R, s, m, args, below, meth, c, Q, nL, kc, ks⟩ := G
  obtain ⟨hx, hb, hml, hown, hts, hE, hV, hlk, hfr, hlo, hkc, hks, hnV⟩ := C
  subst hnV
  exact fun hX H locs ls hP hS hl => lv_isub hx hb d (k hX H locs ls hP hS hl)
theorem sm_imul (C : Cx G cc own nV fr lo) {x : Int32} {y : Int32} (d : decode cc pc = .ok (.imul, 1)) (k : Sm G a (pc + 1) lv (.int (x * y) :: st) w X) : Sm G a pc lv (.int y :: .int x :: st) w X := by
  obtain ⟨⟨l, D, cA, ad, base⟩, p, e, R, s, m, args, below, meth, c, Q, nL, kc, ks⟩ := G
  obtain ⟨hx, hb, hml, hown, hts, hE, hV, hlk, hfr, hlo, hkc, hks, hnV⟩ := C
  subst hnV
  exact fun hX H locs ls hP hS hl => lv_imul hx hb d (k hX H locs ls hP hS hl)
theorem sm_iand (C : Cx G cc own nV fr lo) {x : Int32} {y : Int32} (d : decode cc pc = .ok (.iand, 1)) (k : Sm G a (pc + 1) lv (.int (x &&& y) :: st) w X) : Sm G a pc lv (.int y :: .int x :: st) w X := by
  obtain ⟨⟨l, D, cA, ad, base⟩, p, e, R, s, m, args, below, meth, c, Q, nL, kc, ks⟩ := G
  obtain ⟨hx, hb, hml, hown, hts, hE, hV, hlk, hfr, hlo, hkc, hks, hnV⟩ := C
  subst hnV
  exact fun hX H locs ls hP hS hl => lv_iand hx hb d (k hX H locs ls hP hS hl)
theorem sm_ior (C : Cx G cc own nV fr lo) {x : Int32} {y : Int32} (d : decode cc pc = .ok (.ior, 1)) (k : Sm G a (pc + 1) lv (.int (x ||| y) :: st) w X) : Sm G a pc lv (.int y :: .int x :: st) w X := by
  obtain ⟨⟨l, D, cA, ad, base⟩, p, e, R, s, m, args, below, meth, c, Q, nL, kc, ks⟩ := G
  obtain ⟨hx, hb, hml, hown, hts, hE, hV, hlk, hfr, hlo, hkc, hks, hnV⟩ := C
  subst hnV
  exact fun hX H locs ls hP hS hl => lv_ior hx hb d (k hX H locs ls hP hS hl)
theorem sm_ixor (C : Cx G cc own nV fr lo) {x : Int32} {y : Int32} (d : decode cc pc = .ok (.ixor, 1)) (k : Sm G a (pc + 1) lv (.int (x ^^^ y) :: st) w X) : Sm G a pc lv (.int y :: .int x :: st) w X := by
  obtain ⟨⟨l, D, cA, ad, base⟩, p, e, R, s, m, args, below, meth, c, Q, nL, kc, ks⟩ := G
  obtain ⟨hx, hb, hml, hown, hts, hE, hV, hlk, hfr, hlo, hkc, hks, hnV⟩ := C
  subst hnV
  exact fun hX H locs ls hP hS hl => lv_ixor hx hb d (k hX H locs ls hP hS hl)
theorem sm_ishl (C : Cx G cc own nV fr lo) {x : Int32} {y : Int32} (d : decode cc pc = .ok (.ishl, 1)) (k : Sm G a (pc + 1) lv (.int (iSl x y) :: st) w X) : Sm G a pc lv (.int y :: .int x :: st) w X := by
  obtain ⟨⟨l, D, cA, ad, base⟩, p, e, R, s, m, args, below, meth, c, Q, nL, kc, ks⟩ := G
  obtain ⟨hx, hb, hml, hown, hts, hE, hV, hlk, hfr, hlo, hkc, hks, hnV⟩ := C
  subst hnV
  exact fun hX H locs ls hP hS hl => lv_ishl hx hb d (k hX H locs ls hP hS hl)
theorem sm_ishr (C : Cx G cc own nV fr lo) {x : Int32} {y : Int32} (d : decode cc pc = .ok (.ishr, 1)) (k : Sm G a (pc + 1) lv (.int (iSr x y) :: st) w X) : Sm G a pc lv (.int y :: .int x :: st) w X := by
  obtain ⟨⟨l, D, cA, ad, base⟩, p, e, R, s, m, args, below, meth, c, Q, nL, kc, ks⟩ := G
  obtain ⟨hx, hb, hml, hown, hts, hE, hV, hlk, hfr, hlo, hkc, hks, hnV⟩ := C
  subst hnV
  exact fun hX H locs ls hP hS hl => lv_ishr hx hb d (k hX H locs ls hP hS hl)
theorem sm_iushr (C : Cx G cc own nV fr lo) {x : Int32} {y : Int32} (d : decode cc pc = .ok (.iushr, 1)) (k : Sm G a (pc + 1) lv (.int (iUr x y) :: st) w X) : Sm G a pc lv (.int y :: .int x :: st) w X := by
  obtain ⟨⟨l, D, cA, ad, base⟩, p, e, R, s, m, args, below, meth, c, Q, nL, kc, ks⟩ := G
  obtain ⟨hx, hb, hml, hown, hts, hE, hV, hlk, hfr, hlo, hkc, hks, hnV⟩ := C
  subst hnV
  exact fun hX H locs ls hP hS hl => lv_iushr hx hb d rfl (k hX H locs ls hP hS hl)
theorem sm_idiv (C : Cx G cc own nV fr lo) {x : Int32} {y : Int32} (hne : ¬ y = 0) (d : decode cc pc = .ok (.idiv, 1)) (k : Sm G a (pc + 1) lv (.int (x / y) :: st) w X) : Sm G a pc lv (.int y :: .int x :: st) w X := by
  obtain ⟨⟨l, D, cA, ad, base⟩, p, e, R, s, m, args, below, meth, c, Q, nL, kc, ks⟩ := G
  obtain ⟨hx, hb, hml, hown, hts, hE, hV, hlk, hfr, hlo, hkc, hks, hnV⟩ := C
  subst hnV
  exact fun hX H locs ls hP hS hl => lv_idiv hx hb d hne (k hX H locs ls hP hS hl)
theorem sm_irem (C : Cx G cc own nV fr lo) {x : Int32} {y : Int32} (hne : ¬ y = 0) (d : decode cc pc = .ok (.irem, 1)) (k : Sm G a (pc + 1) lv (.int (iRm x y) :: st) w X) : Sm G a pc lv (.int y :: .int x :: st) w X := by
  obtain ⟨⟨l, D, cA, ad, base⟩, p, e, R, s, m, args, below, meth, c, Q, nL, kc, ks⟩ := G
  obtain ⟨hx, hb, hml, hown, hts, hE, hV, hlk, hfr, hlo, hkc, hks, hnV⟩ := C
  subst hnV
  exact fun hX H locs ls hP hS hl => lv_irem hx hb d hne (k hX H locs ls hP hS hl)
theorem sm_ladd (C : Cx G cc own nV fr lo) {x : Int64} {y : Int64} (d : decode cc pc = .ok (.ladd, 1)) (k : Sm G a (pc + 1) lv (.long (x + y) :: st) w X) : Sm G a pc lv (.long y :: .long x :: st) w X := by
  obtain ⟨⟨l, D, cA, ad, base⟩, p, e, R, s, m, args, below, meth, c, Q, nL, kc, ks⟩ := G
  obtain ⟨hx, hb, hml, hown, hts, hE, hV, hlk, hfr, hlo, hkc, hks, hnV⟩ := C
  subst hnV
  exact fun hX H locs ls hP hS hl => lv_ladd hx hb d (k hX H locs ls hP hS hl)
theorem sm_lmul (C : Cx G cc own nV fr lo) {x : Int64} {y : Int64} (d : decode cc pc = .ok (.lmul, 1)) (k : Sm G a (pc + 1) lv (.long (x * y) :: st) w X) : Sm G a pc lv (.long y :: .long x :: st) w X := by
  obtain ⟨⟨l, D, cA, ad, base⟩, p, e, R, s, m, args, below, meth, c, Q, nL, kc, ks⟩ := G
  obtain ⟨hx, hb, hml, hown, hts, hE, hV, hlk, hfr, hlo, hkc, hks, hnV⟩ := C
  subst hnV
  exact fun hX H locs ls hP hS hl => lv_lmul hx hb d (k hX H locs ls hP hS hl)
theorem sm_land (C : Cx G cc own nV fr lo) {x : Int64} {y : Int64} (d : decode cc pc = .ok (.land, 1)) (k : Sm G a (pc + 1) lv (.long (x &&& y) :: st) w X) : Sm G a pc lv (.long y :: .long x :: st) w X := by
  obtain ⟨⟨l, D, cA, ad, base⟩, p, e, R, s, m, args, below, meth, c, Q, nL, kc, ks⟩ := G
  obtain ⟨hx, hb, hml, hown, hts, hE, hV, hlk, hfr, hlo, hkc, hks, hnV⟩ := C
  subst hnV
  exact fun hX H locs ls hP hS hl => lv_land hx hb d (k hX H locs ls hP hS hl)
theorem sm_lor (C : Cx G cc own nV fr lo) {x : Int64} {y : Int64} (d : decode cc pc = .ok (.lor, 1)) (k : Sm G a (pc + 1) lv (.long (x ||| y) :: st) w X) : Sm G a pc lv (.long y :: .long x :: st) w X := by
  obtain ⟨⟨l, D, cA, ad, base⟩, p, e, R, s, m, args, below, meth, c, Q, nL, kc, ks⟩ := G
  obtain ⟨hx, hb, hml, hown, hts, hE, hV, hlk, hfr, hlo, hkc, hks, hnV⟩ := C
  subst hnV
  exact fun hX H locs ls hP hS hl => lv_lor hx hb d (k hX H locs ls hP hS hl)
theorem sm_lsub (C : Cx G cc own nV fr lo) {x : Int64} {y : Int64} (d : decode cc pc = .ok (.lsub, 1)) (k : Sm G a (pc + 1) lv (.long (x - y) :: st) w X) : Sm G a pc lv (.long y :: .long x :: st) w X := by
  obtain ⟨⟨l, D, cA, ad, base⟩, p, e, R, s, m, args, below, meth, c, Q, nL, kc, ks⟩ := G
  obtain ⟨hx, hb, hml, hown, hts, hE, hV, hlk, hfr, hlo, hkc, hks, hnV⟩ := C
  subst hnV
  exact fun hX H locs ls hP hS hl => lv_lsub hx hb d (k hX H locs ls hP hS hl)
theorem sm_ldiv (C : Cx G cc own nV fr lo) {x : Int64} {y : Int64} (hne : ¬ y = 0) (d : decode cc pc = .ok (.ldiv, 1)) (k : Sm G a (pc + 1) lv (.long (x / y) :: st) w X) : Sm G a pc lv (.long y :: .long x :: st) w X := by
  obtain ⟨⟨l, D, cA, ad, base⟩, p, e, R, s, m, args, below, meth, c, Q, nL, kc, ks⟩ := G
  obtain ⟨hx, hb, hml, hown, hts, hE, hV, hlk, hfr, hlo, hkc, hks, hnV⟩ := C
  subst hnV
  exact fun hX H locs ls hP hS hl => lv_ldiv hx hb d hne (k hX H locs ls hP hS hl)
theorem sm_lrem (C : Cx G cc own nV fr lo) {x : Int64} {y : Int64} (hne : ¬ y = 0) (d : decode cc pc = .ok (.lrem, 1)) (k : Sm G a (pc + 1) lv (.long (lRm x y) :: st) w X) : Sm G a pc lv (.long y :: .long x :: st) w X := by
  obtain ⟨⟨l, D, cA, ad, base⟩, p, e, R, s, m, args, below, meth, c, Q, nL, kc, ks⟩ := G
  obtain ⟨hx, hb, hml, hown, hts, hE, hV, hlk, hfr, hlo, hkc, hks, hnV⟩ := C
  subst hnV
  exact fun hX H locs ls hP hS hl => lv_lrem hx hb d hne (k hX H locs ls hP hS hl)
theorem sm_lshl (C : Cx G cc own nV fr lo) {x : Int64} {y : Int32} (d : decode cc pc = .ok (.lshl, 1)) (k : Sm G a (pc + 1) lv (.long (lSl x y) :: st) w X) : Sm G a pc lv (.int y :: .long x :: st) w X := by
  obtain ⟨⟨l, D, cA, ad, base⟩, p, e, R, s, m, args, below, meth, c, Q, nL, kc, ks⟩ := G
  obtain ⟨hx, hb, hml, hown, hts, hE, hV, hlk, hfr, hlo, hkc, hks, hnV⟩ := C
  subst hnV
  exact fun hX H locs ls hP hS hl => lv_lshl hx hb d rfl (k hX H locs ls hP hS hl)
theorem sm_lshr (C : Cx G cc own nV fr lo) {x : Int64} {y : Int32} (d : decode cc pc = .ok (.lshr, 1)) (k : Sm G a (pc + 1) lv (.long (lSr x y) :: st) w X) : Sm G a pc lv (.int y :: .long x :: st) w X := by
  obtain ⟨⟨l, D, cA, ad, base⟩, p, e, R, s, m, args, below, meth, c, Q, nL, kc, ks⟩ := G
  obtain ⟨hx, hb, hml, hown, hts, hE, hV, hlk, hfr, hlo, hkc, hks, hnV⟩ := C
  subst hnV
  exact fun hX H locs ls hP hS hl => lv_lshr hx hb d rfl (k hX H locs ls hP hS hl)
theorem sm_lcmp (C : Cx G cc own nV fr lo) {x y : Int64} (d : decode cc pc = .ok (.lcmp, 1)) (k : Sm G a (pc + 1) lv (.int (lg_cmp x y) :: st) w X) : Sm G a pc lv (.long y :: .long x :: st) w X := by
  obtain ⟨⟨l, D, cA, ad, base⟩, p, e, R, s, m, args, below, meth, c, Q, nL, kc, ks⟩ := G
  obtain ⟨hx, hb, hml, hown, hts, hE, hV, hlk, hfr, hlo, hkc, hks, hnV⟩ := C
  subst hnV
  exact fun hX H locs ls hP hS hl => W.lcmp hx hb d (k hX H locs ls hP hS hl)
theorem sm_i2l (C : Cx G cc own nV fr lo) {x : Int32} (d : decode cc pc = .ok (.i2l, 1)) (k : Sm G a (pc + 1) lv (.long (x.toInt64) :: st) w X) : Sm G a pc lv (.int x :: st) w X := by
  obtain ⟨⟨l, D, cA, ad, base⟩, p, e, R, s, m, args, below, meth, c, Q, nL, kc, ks⟩ := G
  obtain ⟨hx, hb, hml, hown, hts, hE, hV, hlk, hfr, hlo, hkc, hks, hnV⟩ := C
  subst hnV
  exact fun hX H locs ls hP hS hl => lv_i2l hx hb d rfl (k hX H locs ls hP hS hl)
theorem sm_l2i (C : Cx G cc own nV fr lo) {x : Int64} (d : decode cc pc = .ok (.l2i, 1)) (k : Sm G a (pc + 1) lv (.int (x.toInt32) :: st) w X) : Sm G a pc lv (.long x :: st) w X := by
  obtain ⟨⟨l, D, cA, ad, base⟩, p, e, R, s, m, args, below, meth, c, Q, nL, kc, ks⟩ := G
  obtain ⟨hx, hb, hml, hown, hts, hE, hV, hlk, hfr, hlo, hkc, hks, hnV⟩ := C
  subst hnV
  exact fun hX H locs ls hP hS hl => lv_l2i hx hb d rfl (k hX H locs ls hP hS hl)
theorem sm_i2b (C : Cx G cc own nV fr lo) {x : Int32} (d : decode cc pc = .ok (.i2b, 1)) (k : Sm G a (pc + 1) lv (.int (iB x) :: st) w X) : Sm G a pc lv (.int x :: st) w X := by
  obtain ⟨⟨l, D, cA, ad, base⟩, p, e, R, s, m, args, below, meth, c, Q, nL, kc, ks⟩ := G
  obtain ⟨hx, hb, hml, hown, hts, hE, hV, hlk, hfr, hlo, hkc, hks, hnV⟩ := C
  subst hnV
  exact fun hX H locs ls hP hS hl => lv_i2b hx hb d rfl (k hX H locs ls hP hS hl)
theorem sm_i2s (C : Cx G cc own nV fr lo) {x : Int32} (d : decode cc pc = .ok (.i2s, 1)) (k : Sm G a (pc + 1) lv (.int (iS x) :: st) w X) : Sm G a pc lv (.int x :: st) w X := by
  obtain ⟨⟨l, D, cA, ad, base⟩, p, e, R, s, m, args, below, meth, c, Q, nL, kc, ks⟩ := G
  obtain ⟨hx, hb, hml, hown, hts, hE, hV, hlk, hfr, hlo, hkc, hks, hnV⟩ := C
  subst hnV
  exact fun hX H locs ls hP hS hl => lv_i2s hx hb d rfl (k hX H locs ls hP hS hl)
theorem sm_i2c (C : Cx G cc own nV fr lo) {x : Int32} (d : decode cc pc = .ok (.i2c, 1)) (k : Sm G a (pc + 1) lv (.int (iC x) :: st) w X) : Sm G a pc lv (.int x :: st) w X := by
  obtain ⟨⟨l, D, cA, ad, base⟩, p, e, R, s, m, args, below, meth, c, Q, nL, kc, ks⟩ := G
  obtain ⟨hx, hb, hml, hown, hts, hE, hV, hlk, hfr, hlo, hkc, hks, hnV⟩ := C
  subst hnV
  exact fun hX H locs ls hP hS hl => lv_i2c hx hb d rfl (k hX H locs ls hP hS hl)
theorem sm_dup (C : Cx G cc own nV fr lo) {va : Value} (hc : va.category = 1) (d : decode cc pc = .ok (.dup, 1)) (k : Sm G a (pc + 1) lv (va :: va :: st) w X) : Sm G a pc lv (va :: st) w X := by
  obtain ⟨⟨l, D, cA, ad, base⟩, p, e, R, s, m, args, below, meth, c, Q, nL, kc, ks⟩ := G
  obtain ⟨hx, hb, hml, hown, hts, hE, hV, hlk, hfr, hlo, hkc, hks, hnV⟩ := C
  subst hnV
  exact fun hX H locs ls hP hS hl => lv_dup hx hb d hc (k hX H locs ls hP hS hl)
theorem sm_dup2 (C : Cx G cc own nV fr lo) {va vb : Value} (hc : va.category = 1) (hd : vb.category = 1) (d : decode cc pc = .ok (.dup2, 1)) (k : Sm G a (pc + 1) lv (va :: vb :: va :: vb :: st) w X) : Sm G a pc lv (va :: vb :: st) w X := by
  obtain ⟨⟨l, D, cA, ad, base⟩, p, e, R, s, m, args, below, meth, c, Q, nL, kc, ks⟩ := G
  obtain ⟨hx, hb, hml, hown, hts, hE, hV, hlk, hfr, hlo, hkc, hks, hnV⟩ := C
  subst hnV
  exact fun hX H locs ls hP hS hl => lv_dup2_11 hx hb d hc hd (k hX H locs ls hP hS hl)
theorem sm_pop (C : Cx G cc own nV fr lo) {va : Value} (hc : va.category = 1) (d : decode cc pc = .ok (.pop, 1)) (k : Sm G a (pc + 1) lv st w X) : Sm G a pc lv (va :: st) w X := by
  obtain ⟨⟨l, D, cA, ad, base⟩, p, e, R, s, m, args, below, meth, c, Q, nL, kc, ks⟩ := G
  obtain ⟨hx, hb, hml, hown, hts, hE, hV, hlk, hfr, hlo, hkc, hks, hnV⟩ := C
  subst hnV
  exact fun hX H locs ls hP hS hl => lv_pop hx hb d hc (k hX H locs ls hP hS hl)
theorem sm_goto (C : Cx G cc own nV fr lo) {off : Int} {tgt : Nat} (d : decode cc pc = .ok (.goto off, 3)) (ht : (pc : Int) + off = (tgt : Int)) (k : Sm G a tgt lv st w X) : Sm G a pc lv st w X := by
  obtain ⟨⟨l, D, cA, ad, base⟩, p, e, R, s, m, args, below, meth, c, Q, nL, kc, ks⟩ := G
  obtain ⟨hx, hb, hml, hown, hts, hE, hV, hlk, hfr, hlo, hkc, hks, hnV⟩ := C
  subst hnV
  exact fun hX H locs ls hP hS hl => lv_goto hx hb d ht (k hX H locs ls hP hS hl)
theorem sm_if_eq (C : Cx G cc own nV fr lo) {x : Int32} {off : Int} {tgt : Nat} (d : decode cc pc = .ok (.ifCond .eq off, 3)) (ht : (pc : Int) + off = (tgt : Int)) (kf : ¬ x = 0 → Sm G a (pc + 3) lv st w X) (kt : x = 0 → Sm G a tgt lv st w Y) : Sm G a pc lv (.int x :: st) w (if ¬ x = 0 then X else Y) := by
  obtain ⟨⟨l, D, cA, ad, base⟩, p, e, R, s, m, args, below, meth, c, Q, nL, kc, ks⟩ := G
  obtain ⟨hx, hb, hml, hown, hts, hE, hV, hlk, hfr, hlo, hkc, hks, hnV⟩ := C
  subst hnV
  exact fun hX H locs ls hP hS hl => lv_if_eq hx hb d ht (fun h => by rw [if_neg (fun z => z h)] at hX; exact kt h hX H locs ls hP hS hl) (fun h => by rw [if_pos h] at hX; exact kf h hX H locs ls hP hS hl)
theorem sm_icmp_eq (C : Cx G cc own nV fr lo) {x y : Int32} {off : Int} {tgt : Nat} (d : decode cc pc = .ok (.if_icmp .eq off, 3)) (ht : (pc : Int) + off = (tgt : Int)) (kf : ¬ x = y → Sm G a (pc + 3) lv st w X) (kt : x = y → Sm G a tgt lv st w Y) : Sm G a pc lv (.int y :: .int x :: st) w (if ¬ x = y then X else Y) := by
  obtain ⟨⟨l, D, cA, ad, base⟩, p, e, R, s, m, args, below, meth, c, Q, nL, kc, ks⟩ := G
  obtain ⟨hx, hb, hml, hown, hts, hE, hV, hlk, hfr, hlo, hkc, hks, hnV⟩ := C
  subst hnV
  exact fun hX H locs ls hP hS hl => lv_icmp_eq hx hb d ht (fun h => by rw [if_neg (fun z => z h)] at hX; exact kt h hX H locs ls hP hS hl) (fun h => by rw [if_pos h] at hX; exact kf h hX H locs ls hP hS hl)
theorem sm_if_ne (C : Cx G cc own nV fr lo) {x : Int32} {off : Int} {tgt : Nat} (d : decode cc pc = .ok (.ifCond .ne off, 3)) (ht : (pc : Int) + off = (tgt : Int)) (kf : x = 0 → Sm G a (pc + 3) lv st w X) (kt : ¬ x = 0 → Sm G a tgt lv st w Y) : Sm G a pc lv (.int x :: st) w (if x = 0 then X else Y) := by
  obtain ⟨⟨l, D, cA, ad, base⟩, p, e, R, s, m, args, below, meth, c, Q, nL, kc, ks⟩ := G
  obtain ⟨hx, hb, hml, hown, hts, hE, hV, hlk, hfr, hlo, hkc, hks, hnV⟩ := C
  subst hnV
  exact fun hX H locs ls hP hS hl => lv_if_ne hx hb d ht (fun h => by rw [if_neg h] at hX; exact kt h hX H locs ls hP hS hl) (fun h => by rw [if_pos h] at hX; exact kf h hX H locs ls hP hS hl)
theorem sm_icmp_ne (C : Cx G cc own nV fr lo) {x y : Int32} {off : Int} {tgt : Nat} (d : decode cc pc = .ok (.if_icmp .ne off, 3)) (ht : (pc : Int) + off = (tgt : Int)) (kf : x = y → Sm G a (pc + 3) lv st w X) (kt : ¬ x = y → Sm G a tgt lv st w Y) : Sm G a pc lv (.int y :: .int x :: st) w (if x = y then X else Y) := by
  obtain ⟨⟨l, D, cA, ad, base⟩, p, e, R, s, m, args, below, meth, c, Q, nL, kc, ks⟩ := G
  obtain ⟨hx, hb, hml, hown, hts, hE, hV, hlk, hfr, hlo, hkc, hks, hnV⟩ := C
  subst hnV
  exact fun hX H locs ls hP hS hl => lv_icmp_ne hx hb d ht (fun h => by rw [if_neg h] at hX; exact kt h hX H locs ls hP hS hl) (fun h => by rw [if_pos h] at hX; exact kf h hX H locs ls hP hS hl)
theorem sm_if_lt (C : Cx G cc own nV fr lo) {x : Int32} {off : Int} {tgt : Nat} (d : decode cc pc = .ok (.ifCond .lt off, 3)) (ht : (pc : Int) + off = (tgt : Int)) (kf : ¬ x < 0 → Sm G a (pc + 3) lv st w X) (kt : x < 0 → Sm G a tgt lv st w Y) : Sm G a pc lv (.int x :: st) w (if ¬ x < 0 then X else Y) := by
  obtain ⟨⟨l, D, cA, ad, base⟩, p, e, R, s, m, args, below, meth, c, Q, nL, kc, ks⟩ := G
  obtain ⟨hx, hb, hml, hown, hts, hE, hV, hlk, hfr, hlo, hkc, hks, hnV⟩ := C
  subst hnV
  exact fun hX H locs ls hP hS hl => lv_if_lt hx hb d ht (fun h => by rw [if_neg (fun z => z h)] at hX; exact kt h hX H locs ls hP hS hl) (fun h => by rw [if_pos h] at hX; exact kf h hX H locs ls hP hS hl)
theorem sm_icmp_lt (C : Cx G cc own nV fr lo) {x y : Int32} {off : Int} {tgt : Nat} (d : decode cc pc = .ok (.if_icmp .lt off, 3)) (ht : (pc : Int) + off = (tgt : Int)) (kf : ¬ x < y → Sm G a (pc + 3) lv st w X) (kt : x < y → Sm G a tgt lv st w Y) : Sm G a pc lv (.int y :: .int x :: st) w (if ¬ x < y then X else Y) := by
  obtain ⟨⟨l, D, cA, ad, base⟩, p, e, R, s, m, args, below, meth, c, Q, nL, kc, ks⟩ := G
  obtain ⟨hx, hb, hml, hown, hts, hE, hV, hlk, hfr, hlo, hkc, hks, hnV⟩ := C
  subst hnV
  exact fun hX H locs ls hP hS hl => lv_icmp_lt hx hb d ht (fun h => by rw [if_neg (fun z => z h)] at hX; exact kt h hX H locs ls hP hS hl) (fun h => by rw [if_pos h] at hX; exact kf h hX H locs ls hP hS hl)
theorem sm_if_ge (C : Cx G cc own nV fr lo) {x : Int32} {off : Int} {tgt : Nat} (d : decode cc pc = .ok (.ifCond .ge off, 3)) (ht : (pc : Int) + off = (tgt : Int)) (kf : x < 0 → Sm G a (pc + 3) lv st w X) (kt : 0 ≤ x → Sm G a tgt lv st w Y) : Sm G a pc lv (.int x :: st) w (if x < 0 then X else Y) := by
  obtain ⟨⟨l, D, cA, ad, base⟩, p, e, R, s, m, args, below, meth, c, Q, nL, kc, ks⟩ := G
  obtain ⟨hx, hb, hml, hown, hts, hE, hV, hlk, hfr, hlo, hkc, hks, hnV⟩ := C
  subst hnV
  exact fun hX H locs ls hP hS hl => lv_if_ge hx hb d ht (fun h => by rw [if_neg (Int32.not_lt.mpr h)] at hX; exact kt h hX H locs ls hP hS hl) (fun h => by rw [if_pos (Int32.not_le.mp h)] at hX; exact kf (Int32.not_le.mp h) hX H locs ls hP hS hl)
theorem sm_icmp_ge (C : Cx G cc own nV fr lo) {x y : Int32} {off : Int} {tgt : Nat} (d : decode cc pc = .ok (.if_icmp .ge off, 3)) (ht : (pc : Int) + off = (tgt : Int)) (kf : x < y → Sm G a (pc + 3) lv st w X) (kt : y ≤ x → Sm G a tgt lv st w Y) : Sm G a pc lv (.int y :: .int x :: st) w (if x < y then X else Y) := by
  obtain ⟨⟨l, D, cA, ad, base⟩, p, e, R, s, m, args, below, meth, c, Q, nL, kc, ks⟩ := G
  obtain ⟨hx, hb, hml, hown, hts, hE, hV, hlk, hfr, hlo, hkc, hks, hnV⟩ := C
  subst hnV
  exact fun hX H locs ls hP hS hl => lv_icmp_ge hx hb d ht (fun h => by rw [if_neg (Int32.not_lt.mpr h)] at hX; exact kt h hX H locs ls hP hS hl) (fun h => by rw [if_pos (Int32.not_le.mp h)] at hX; exact kf (Int32.not_le.mp h) hX H locs ls hP hS hl)
theorem sm_if_gt (C : Cx G cc own nV fr lo) {x : Int32} {off : Int} {tgt : Nat} (d : decode cc pc = .ok (.ifCond .gt off, 3)) (ht : (pc : Int) + off = (tgt : Int)) (kf : ¬ 0 < x → Sm G a (pc + 3) lv st w X) (kt : 0 < x → Sm G a tgt lv st w Y) : Sm G a pc lv (.int x :: st) w (if ¬ 0 < x then X else Y) := by
  obtain ⟨⟨l, D, cA, ad, base⟩, p, e, R, s, m, args, below, meth, c, Q, nL, kc, ks⟩ := G
  obtain ⟨hx, hb, hml, hown, hts, hE, hV, hlk, hfr, hlo, hkc, hks, hnV⟩ := C
  subst hnV
  exact fun hX H locs ls hP hS hl => lv_if_gt hx hb d ht (fun h => by rw [if_neg (fun z => z h)] at hX; exact kt h hX H locs ls hP hS hl) (fun h => by rw [if_pos h] at hX; exact kf h hX H locs ls hP hS hl)
theorem sm_icmp_gt (C : Cx G cc own nV fr lo) {x y : Int32} {off : Int} {tgt : Nat} (d : decode cc pc = .ok (.if_icmp .gt off, 3)) (ht : (pc : Int) + off = (tgt : Int)) (kf : ¬ y < x → Sm G a (pc + 3) lv st w X) (kt : y < x → Sm G a tgt lv st w Y) : Sm G a pc lv (.int y :: .int x :: st) w (if ¬ y < x then X else Y) := by
  obtain ⟨⟨l, D, cA, ad, base⟩, p, e, R, s, m, args, below, meth, c, Q, nL, kc, ks⟩ := G
  obtain ⟨hx, hb, hml, hown, hts, hE, hV, hlk, hfr, hlo, hkc, hks, hnV⟩ := C
  subst hnV
  exact fun hX H locs ls hP hS hl => lv_icmp_gt hx hb d ht (fun h => by rw [if_neg (fun z => z h)] at hX; exact kt h hX H locs ls hP hS hl) (fun h => by rw [if_pos h] at hX; exact kf h hX H locs ls hP hS hl)
theorem sm_if_le (C : Cx G cc own nV fr lo) {x : Int32} {off : Int} {tgt : Nat} (d : decode cc pc = .ok (.ifCond .le off, 3)) (ht : (pc : Int) + off = (tgt : Int)) (kf : 0 < x → Sm G a (pc + 3) lv st w X) (kt : x ≤ 0 → Sm G a tgt lv st w Y) : Sm G a pc lv (.int x :: st) w (if 0 < x then X else Y) := by
  obtain ⟨⟨l, D, cA, ad, base⟩, p, e, R, s, m, args, below, meth, c, Q, nL, kc, ks⟩ := G
  obtain ⟨hx, hb, hml, hown, hts, hE, hV, hlk, hfr, hlo, hkc, hks, hnV⟩ := C
  subst hnV
  exact fun hX H locs ls hP hS hl => lv_if_le hx hb d ht (fun h => by rw [if_neg (Int32.not_lt.mpr h)] at hX; exact kt h hX H locs ls hP hS hl) (fun h => by rw [if_pos (Int32.not_le.mp h)] at hX; exact kf (Int32.not_le.mp h) hX H locs ls hP hS hl)
theorem sm_icmp_le (C : Cx G cc own nV fr lo) {x y : Int32} {off : Int} {tgt : Nat} (d : decode cc pc = .ok (.if_icmp .le off, 3)) (ht : (pc : Int) + off = (tgt : Int)) (kf : y < x → Sm G a (pc + 3) lv st w X) (kt : x ≤ y → Sm G a tgt lv st w Y) : Sm G a pc lv (.int y :: .int x :: st) w (if y < x then X else Y) := by
  obtain ⟨⟨l, D, cA, ad, base⟩, p, e, R, s, m, args, below, meth, c, Q, nL, kc, ks⟩ := G
  obtain ⟨hx, hb, hml, hown, hts, hE, hV, hlk, hfr, hlo, hkc, hks, hnV⟩ := C
  subst hnV
  exact fun hX H locs ls hP hS hl => lv_icmp_le hx hb d ht (fun h => by rw [if_neg (Int32.not_lt.mpr h)] at hX; exact kt h hX H locs ls hP hS hl) (fun h => by rw [if_pos (Int32.not_le.mp h)] at hX; exact kf (Int32.not_le.mp h) hX H locs ls hP hS hl)
theorem sm_tabOut (C : Cx G cc own nV fr lo) {dflt lo hi : Int} {offs : Array Int} {len : Nat} {x : Int32} {tgt : Nat} (d : decode cc pc = .ok (.tableswitch dflt lo hi offs, len)) (h : x.toInt < lo ∨ hi < x.toInt) (ht : (pc : Int) + dflt = (tgt : Int)) (k : Sm G a tgt lv st w X) : Sm G a pc lv (.int x :: st) w X := by
  obtain ⟨⟨l, D, cA, ad, base⟩, p, e, R, s, m, args, below, meth, c, Q, nL, kc, ks⟩ := G
  obtain ⟨hx, hb, hml, hown, hts, hE, hV, hlk, hfr, hlo, hkc, hks, hnV⟩ := C
  subst hnV
  exact fun hX H locs ls hP hS hl => lv_tableOut hx hb d h ht (k hX H locs ls hP hS hl)
theorem sm_tabIn (C : Cx G cc own nV fr lo) {dflt lo hi : Int} {offs : Array Int} {len : Nat} {x : Int32} {off : Int} {tgt : Nat} (d : decode cc pc = .ok (.tableswitch dflt lo hi offs, len)) (h1 : ¬ x.toInt < lo) (h2 : ¬ hi < x.toInt) (ho : offs[(x.toInt - lo).toNat]? = some off) (ht : (pc : Int) + off = (tgt : Int)) (k : Sm G a tgt lv st w X) : Sm G a pc lv (.int x :: st) w X := by
  obtain ⟨⟨l, D, cA, ad, base⟩, p, e, R, s, m, args, below, meth, c, Q, nL, kc, ks⟩ := G
  obtain ⟨hx, hb, hml, hown, hts, hE, hV, hlk, hfr, hlo, hkc, hks, hnV⟩ := C
  subst hnV
  exact fun hX H locs ls hP hS hl => lv_tableIn hx hb d h1 h2 ho ht (k hX H locs ls hP hS hl)
theorem sm_getI (C : Cx G cc own nV fr lo) {ci fk idx index : Nat} {nm ds C : String} {fin : Bool} {ty : FieldType} (F : hFO ci fk 0 nm ds fin ty) (hC : (vwCl.getD ci ("", fun _ => ("", "", "", false), 0)).1 = C) (hw : Cond.fieldLink own index C nm ds ∈ hWS) (hk : hkd idx = (0, ci)) (d : decode cc pc = .ok (.getfield index, 3)) (k : Sm G a (pc + 3) lv (.int (gI w idx fk) :: st) w X) : Sm G a pc lv (.ref (hB G + idx) :: st) w X := by
  obtain ⟨⟨l, D, cA, ad, base⟩, p, e, R, s, m, args, below, meth, c, Q, nL, kc, ks⟩ := G
  obtain ⟨hx, hb, hml, hown, hts, hE, hV, hlk, hfr, hlo, hkc, hks, hnV⟩ := C
  subst hnV
  obtain ⟨f1, f2, f3, f4, f5⟩ := F
  have hcl := List.getElem?_eq_getElem f4
  obtain ⟨g1, g2, g3, g4, g5⟩ := f5 _ hcl
  have hC' : (vwCl[ci]'f4).1 = C := by rw [← hC, List.getD_eq_getElem?_getD, hcl]; rfl
  intro hX H locs ls hP hS hl
  have hat := hws_at (cA := cA) (base := base) (w := w) (hkd_lt hk (by decide))
  rw [hent_obj hk] at hat
  refine va_get (D := D) (ci := ci) (C := (vwCl[ci]'f4).1) (T := (vwCl[ci]'f4).2.1) (N := (vwCl[ci]'f4).2.2) (ref := C) (index := index) hx hb hts g3 hown hE.1 hP idx hat hcl fk g2 ?_ ?_ (v := .int (gI w idx fk)) ?_ d (k hX H locs ls hP hS hl)
  · rw [g1]; exact hts _ hw
  · intro z hz; rw [g1] at hz ⊢; rw [← hC']; exact hz
  · rw [List.getElem?_map, List.getElem?_range f3]
    simp only [Option.map_some, hfld, f1]
theorem sm_getL (C : Cx G cc own nV fr lo) {ci fk idx index : Nat} {nm ds C : String} {fin : Bool} {ty : FieldType} (F : hFO ci fk 1 nm ds fin ty) (hC : (vwCl.getD ci ("", fun _ => ("", "", "", false), 0)).1 = C) (hw : Cond.fieldLink own index C nm ds ∈ hWS) (hk : hkd idx = (0, ci)) (d : decode cc pc = .ok (.getfield index, 3)) (k : Sm G a (pc + 3) lv (.long (gL w idx fk) :: st) w X) : Sm G a pc lv (.ref (hB G + idx) :: st) w X := by
  obtain ⟨⟨l, D, cA, ad, base⟩, p, e, R, s, m, args, below, meth, c, Q, nL, kc, ks⟩ := G
  obtain ⟨hx, hb, hml, hown, hts, hE, hV, hlk, hfr, hlo, hkc, hks, hnV⟩ := C
  subst hnV
  obtain ⟨f1, f2, f3, f4, f5⟩ := F
  have hcl := List.getElem?_eq_getElem f4
  obtain ⟨g1, g2, g3, g4, g5⟩ := f5 _ hcl
  have hC' : (vwCl[ci]'f4).1 = C := by rw [← hC, List.getD_eq_getElem?_getD, hcl]; rfl
  intro hX H locs ls hP hS hl
  have hat := hws_at (cA := cA) (base := base) (w := w) (hkd_lt hk (by decide))
  rw [hent_obj hk] at hat
  refine va_get (D := D) (ci := ci) (C := (vwCl[ci]'f4).1) (T := (vwCl[ci]'f4).2.1) (N := (vwCl[ci]'f4).2.2) (ref := C) (index := index) hx hb hts g3 hown hE.1 hP idx hat hcl fk g2 ?_ ?_ (v := .long (gL w idx fk)) ?_ d (k hX H locs ls hP hS hl)
  · rw [g1]; exact hts _ hw
  · intro z hz; rw [g1] at hz ⊢; rw [← hC']; exact hz
  · rw [List.getElem?_map, List.getElem?_range f3]
    simp only [Option.map_some, hfld, f1]
theorem sm_getR (C : Cx G cc own nV fr lo) {ci fk idx index : Nat} {nm ds C : String} {fin : Bool} {ty : FieldType} (F : hFO ci fk 2 nm ds fin ty) (hC : (vwCl.getD ci ("", fun _ => ("", "", "", false), 0)).1 = C) (hw : Cond.fieldLink own index C nm ds ∈ hWS) (hk : hkd idx = (0, ci)) (d : decode cc pc = .ok (.getfield index, 3)) {n : Nat} (hn : hrv w idx fk = n) (hnz : ¬ n = 1000000) (k : Sm G a (pc + 3) lv (.ref (hB G + n) :: st) w X) : Sm G a pc lv (.ref (hB G + idx) :: st) w X := by
  obtain ⟨⟨l, D, cA, ad, base⟩, p, e, R, s, m, args, below, meth, c, Q, nL, kc, ks⟩ := G
  obtain ⟨hx, hb, hml, hown, hts, hE, hV, hlk, hfr, hlo, hkc, hks, hnV⟩ := C
  subst hnV
  obtain ⟨f1, f2, f3, f4, f5⟩ := F
  have hcl := List.getElem?_eq_getElem f4
  obtain ⟨g1, g2, g3, g4, g5⟩ := f5 _ hcl
  have hC' : (vwCl[ci]'f4).1 = C := by rw [← hC, List.getD_eq_getElem?_getD, hcl]; rfl
  intro hX H locs ls hP hS hl
  have hat := hws_at (cA := cA) (base := base) (w := w) (hkd_lt hk (by decide))
  rw [hent_obj hk] at hat
  refine va_get (D := D) (ci := ci) (C := (vwCl[ci]'f4).1) (T := (vwCl[ci]'f4).2.1) (N := (vwCl[ci]'f4).2.2) (ref := C) (index := index) hx hb hts g3 hown hE.1 hP idx hat hcl fk g2 ?_ ?_ (v := .ref (base + n)) ?_ d (k hX H locs ls hP hS hl)
  · rw [g1]; exact hts _ hw
  · intro z hz; rw [g1] at hz ⊢; rw [← hC']; exact hz
  · rw [List.getElem?_map, List.getElem?_range f3]
    simp only [Option.map_some, hfld, f1, hn, hrf, if_neg hnz, va_rf]
theorem sm_putI (C : Cx G cc own nV fr lo) {ci fk idx index : Nat} {nm ds C : String} {ty : FieldType} {x : Int32} {kX : HW → Option α} (F : hFO ci fk 0 nm ds false ty) (hC : (vwCl.getD ci ("", fun _ => ("", "", "", false), 0)).1 = C) (hw : Cond.fieldLink own index C nm ds ∈ hWS) (hk : hkd idx = (0, ci)) (hty : ty = .int) (d : decode cc pc = .ok (.putfield index, 3)) (k : ∀ w1, Sm G a (pc + 3) lv st w1 (kX w1)) : Sm G a pc lv (.int x :: .ref (hB G + idx) :: st) w (lT (uI w idx fk x) kX) := by
  obtain ⟨⟨l, D, cA, ad, base⟩, p, e, R, s, m, args, below, meth, c, Q, nL, kc, ks⟩ := G
  obtain ⟨hx, hb, hml, hown, hts, hE, hV, hlk, hfr, hlo, hkc, hks, hnV⟩ := C
  subst hnV
  obtain ⟨f1, f2, f3, f4, f5⟩ := F
  have hcl := List.getElem?_eq_getElem f4
  obtain ⟨g1, g2, g3, ⟨ty0, g4, g4t⟩, g5⟩ := f5 _ hcl
  have hC' : (vwCl[ci]'f4).1 = C := by rw [← hC, List.getD_eq_getElem?_getD, hcl]; rfl
  intro hX H locs ls hP hS hl
  have hlt := hkd_lt hk (by decide)
  have hat := hws_at (cA := cA) (base := base) (w := w) hlt
  rw [hent_obj hk] at hat
  have hpd : parseFieldDescriptor ((vwCl[ci]'f4).2.1 fk).2.2.1 = some ty := by rw [g4 fk g2, g4t]
  have hfl : ∀ f, f ≠ fk → hfld base (uI w idx fk x) idx ci f = hfld base w idx ci f := by
    intro f hf
    simp [hfld, hrv, gI, gL, gR, uI, hf]
  have hset : (hws cA base w).set idx (base + idx, .inr (ci, ((List.range (hnf ci)).map (hfld base w idx ci)).set fk (.int x))) = hws cA base (uI w idx fk x) := by
    refine hws_set ?_ (fun j hj => hent_congr (fun f => ?_) (fun f => ?_) (fun f => ?_))
    · rw [hent_obj hk, hfs_set (w' := uI w idx fk x) (by simp [hfld, f1, hrv, gI, gL, gR, uI]) hfl]
    all_goals simp [gI, gL, gR, uI, hj]
  refine va_put (D := D) (ci := ci) (C := (vwCl[ci]'f4).1) (T := (vwCl[ci]'f4).2.1) (N := (vwCl[ci]'f4).2.2) (ref := C) (index := index) (A := fun q => base ≤ q) hx hb hts g3 ty0 g4 g5 hown hE.1 hP hws_D hS idx hat hcl fk g2 ?_ ?_ ?_ (ty := ty) (v := .int x) hpd (by rw [hty]; rfl) (by rw [hty]; rfl) ?_ d (fun H1 locs1 hP1 hD1 hS1 => ?_)
  · rw [g1]; exact hts _ hw
  · intro z hz; rw [g1] at hz ⊢; rw [← hC']; exact hz
  · rw [g1]
  · simpa using f3
  · rw [hset] at hP1
    exact k _ hX H1 locs1 ls hP1 hS1 hl
theorem sm_putZ (C : Cx G cc own nV fr lo) {ci fk idx index : Nat} {nm ds C : String} {ty : FieldType} {x : Int32} {kX : HW → Option α} (F : hFO ci fk 0 nm ds false ty) (hC : (vwCl.getD ci ("", fun _ => ("", "", "", false), 0)).1 = C) (hw : Cond.fieldLink own index C nm ds ∈ hWS) (hk : hkd idx = (0, ci)) (hty : ty = .boolean) (hz : narrow .boolean (.int x) = .int x ∧ fits .boolean (.int x) = true) (d : decode cc pc = .ok (.putfield index, 3)) (k : ∀ w1, Sm G a (pc + 3) lv st w1 (kX w1)) : Sm G a pc lv (.int x :: .ref (hB G + idx) :: st) w (lT (uI w idx fk x) kX) := by
  obtain ⟨⟨l, D, cA, ad, base⟩, p, e, R, s, m, args, below, meth, c, Q, nL, kc, ks⟩ := G
  obtain ⟨hx, hb, hml, hown, hts, hE, hV, hlk, hfr, hlo, hkc, hks, hnV⟩ := C
  subst hnV
  obtain ⟨f1, f2, f3, f4, f5⟩ := F
  have hcl := List.getElem?_eq_getElem f4
  obtain ⟨g1, g2, g3, ⟨ty0, g4, g4t⟩, g5⟩ := f5 _ hcl
  have hC' : (vwCl[ci]'f4).1 = C := by rw [← hC, List.getD_eq_getElem?_getD, hcl]; rfl
  intro hX H locs ls hP hS hl
  have hlt := hkd_lt hk (by decide)
  have hat := hws_at (cA := cA) (base := base) (w := w) hlt
  rw [hent_obj hk] at hat
  have hpd : parseFieldDescriptor ((vwCl[ci]'f4).2.1 fk).2.2.1 = some ty := by rw [g4 fk g2, g4t]
  have hfl : ∀ f, f ≠ fk → hfld base (uI w idx fk x) idx ci f = hfld base w idx ci f := by
    intro f hf
    simp [hfld, hrv, gI, gL, gR, uI, hf]
  have hset : (hws cA base w).set idx (base + idx, .inr (ci, ((List.range (hnf ci)).map (hfld base w idx ci)).set fk (.int x))) = hws cA base (uI w idx fk x) := by
    refine hws_set ?_ (fun j hj => hent_congr (fun f => ?_) (fun f => ?_) (fun f => ?_))
    · rw [hent_obj hk, hfs_set (w' := uI w idx fk x) (by simp [hfld, f1, hrv, gI, gL, gR, uI]) hfl]
    all_goals simp [gI, gL, gR, uI, hj]
  refine va_put (D := D) (ci := ci) (C := (vwCl[ci]'f4).1) (T := (vwCl[ci]'f4).2.1) (N := (vwCl[ci]'f4).2.2) (ref := C) (index := index) (A := fun q => base ≤ q) hx hb hts g3 ty0 g4 g5 hown hE.1 hP hws_D hS idx hat hcl fk g2 ?_ ?_ ?_ (ty := ty) (v := .int x) hpd (by rw [hty]; exact hz.1) (by rw [hty]; exact hz.2) ?_ d (fun H1 locs1 hP1 hD1 hS1 => ?_)
  · rw [g1]; exact hts _ hw
  · intro z hz; rw [g1] at hz ⊢; rw [← hC']; exact hz
  · rw [g1]
  · simpa using f3
  · rw [hset] at hP1
    exact k _ hX H1 locs1 ls hP1 hS1 hl
theorem sm_putL (C : Cx G cc own nV fr lo) {ci fk idx index : Nat} {nm ds C : String} {ty : FieldType} {x : Int64} {kX : HW → Option α} (F : hFO ci fk 1 nm ds false ty) (hC : (vwCl.getD ci ("", fun _ => ("", "", "", false), 0)).1 = C) (hw : Cond.fieldLink own index C nm ds ∈ hWS) (hk : hkd idx = (0, ci)) (hty : ty = .long) (d : decode cc pc = .ok (.putfield index, 3)) (k : ∀ w1, Sm G a (pc + 3) lv st w1 (kX w1)) : Sm G a pc lv (.long x :: .ref (hB G + idx) :: st) w (lT (uL w idx fk x) kX) := by
  obtain ⟨⟨l, D, cA, ad, base⟩, p, e, R, s, m, args, below, meth, c, Q, nL, kc, ks⟩ := G
  obtain ⟨hx, hb, hml, hown, hts, hE, hV, hlk, hfr, hlo, hkc, hks, hnV⟩ := C
  subst hnV
  obtain ⟨f1, f2, f3, f4, f5⟩ := F
  have hcl := List.getElem?_eq_getElem f4
  obtain ⟨g1, g2, g3, ⟨ty0, g4, g4t⟩, g5⟩ := f5 _ hcl
  have hC' : (vwCl[ci]'f4).1 = C := by rw [← hC, List.getD_eq_getElem?_getD, hcl]; rfl
  intro hX H locs ls hP hS hl
  have hlt := hkd_lt hk (by decide)
  have hat := hws_at (cA := cA) (base := base) (w := w) hlt
  rw [hent_obj hk] at hat
  have hpd : parseFieldDescriptor ((vwCl[ci]'f4).2.1 fk).2.2.1 = some ty := by rw [g4 fk g2, g4t]
  have hfl : ∀ f, f ≠ fk → hfld base (uL w idx fk x) idx ci f = hfld base w idx ci f := by
    intro f hf
    simp [hfld, hrv, gI, gL, gR, uL, hf]
  have hset : (hws cA base w).set idx (base + idx, .inr (ci, ((List.range (hnf ci)).map (hfld base w idx ci)).set fk (.long x))) = hws cA base (uL w idx fk x) := by
    refine hws_set ?_ (fun j hj => hent_congr (fun f => ?_) (fun f => ?_) (fun f => ?_))
    · rw [hent_obj hk, hfs_set (w' := uL w idx fk x) (by simp [hfld, f1, hrv, gI, gL, gR, uL]) hfl]
    all_goals simp [gI, gL, gR, uL, hj]
  refine va_put (D := D) (ci := ci) (C := (vwCl[ci]'f4).1) (T := (vwCl[ci]'f4).2.1) (N := (vwCl[ci]'f4).2.2) (ref := C) (index := index) (A := fun q => base ≤ q) hx hb hts g3 ty0 g4 g5 hown hE.1 hP hws_D hS idx hat hcl fk g2 ?_ ?_ ?_ (ty := ty) (v := .long x) hpd (by rw [hty]; rfl) (by rw [hty]; rfl) ?_ d (fun H1 locs1 hP1 hD1 hS1 => ?_)
  · rw [g1]; exact hts _ hw
  · intro z hz; rw [g1] at hz ⊢; rw [← hC']; exact hz
  · rw [g1]
  · simpa using f3
  · rw [hset] at hP1
    exact k _ hX H1 locs1 ls hP1 hS1 hl
theorem sm_putR (C : Cx G cc own nV fr lo) {ci fk idx index : Nat} {nm ds C : String} {ty : FieldType} {x : Nat} {kX : HW → Option α} (F : hFO ci fk 2 nm ds false ty) (hC : (vwCl.getD ci ("", fun _ => ("", "", "", false), 0)).1 = C) (hw : Cond.fieldLink own index C nm ds ∈ hWS) (hk : hkd idx = (0, ci)) (hdy1 : hdy idx fk = true) (hxz : ¬ x = 1000000) (hty : ∃ n, ty = .object n) (d : decode cc pc = .ok (.putfield index, 3)) (k : ∀ w1, Sm G a (pc + 3) lv st w1 (kX w1)) : Sm G a pc lv (.ref (hB G + x) :: .ref (hB G + idx) :: st) w (lT (uR w idx fk x) kX) := by
  obtain ⟨⟨l, D, cA, ad, base⟩, p, e, R, s, m, args, below, meth, c, Q, nL, kc, ks⟩ := G
  obtain ⟨hx, hb, hml, hown, hts, hE, hV, hlk, hfr, hlo, hkc, hks, hnV⟩ := C
  subst hnV
  obtain ⟨f1, f2, f3, f4, f5⟩ := F
  have hcl := List.getElem?_eq_getElem f4
  obtain ⟨g1, g2, g3, ⟨ty0, g4, g4t⟩, g5⟩ := f5 _ hcl
  have hC' : (vwCl[ci]'f4).1 = C := by rw [← hC, List.getD_eq_getElem?_getD, hcl]; rfl
  intro hX H locs ls hP hS hl
  have hlt := hkd_lt hk (by decide)
  have hat := hws_at (cA := cA) (base := base) (w := w) hlt
  rw [hent_obj hk] at hat
  have hpd : parseFieldDescriptor ((vwCl[ci]'f4).2.1 fk).2.2.1 = some ty := by rw [g4 fk g2, g4t]
  have hfl : ∀ f, f ≠ fk → hfld base (uR w idx fk x) idx ci f = hfld base w idx ci f := by
    intro f hf
    simp [hfld, hrv, gI, gL, gR, uR, hf]
  have hset : (hws cA base w).set idx (base + idx, .inr (ci, ((List.range (hnf ci)).map (hfld base w idx ci)).set fk (.ref (base + x)))) = hws cA base (uR w idx fk x) := by
    refine hws_set ?_ (fun j hj => hent_congr (fun f => ?_) (fun f => ?_) (fun f => ?_))
    · rw [hent_obj hk, hfs_set (w' := uR w idx fk x) (by simp [hfld, f1, hrv, gI, gL, gR, uR, hdy1, hrf, hxz, va_rf]) hfl]
    all_goals simp [gI, gL, gR, uR, hj]
  refine va_put (D := D) (ci := ci) (C := (vwCl[ci]'f4).1) (T := (vwCl[ci]'f4).2.1) (N := (vwCl[ci]'f4).2.2) (ref := C) (index := index) (A := fun q => base ≤ q) hx hb hts g3 ty0 g4 g5 hown hE.1 hP hws_D hS idx hat hcl fk g2 ?_ ?_ ?_ (ty := ty) (v := .ref (base + x)) hpd (by obtain ⟨n, rfl⟩ := hty; rfl) (by obtain ⟨n, rfl⟩ := hty; rfl) ?_ d (fun H1 locs1 hP1 hD1 hS1 => ?_)
  · rw [g1]; exact hts _ hw
  · intro z hz; rw [g1] at hz ⊢; rw [← hC']; exact hz
  · rw [g1]
  · simpa using f3
  · rw [hset] at hP1
    exact k _ hX H1 locs1 ls hP1 hS1 hl
theorem sm_iald (C : Cx G cc own nV fr lo) {idx n : Nat} {i : Int32} (hk : hkd idx = (1, n)) (d : decode cc pc = .ok (.iaload, 1)) (k : inB i n = true → Sm G a (pc + 1) lv (.int (gI w idx (ix i)) :: st) w X) : Sm G a pc lv (.int i :: .ref (hB G + idx) :: st) w (if inB i n = true then X else none) := by
  refine sm_chk (fun hin => ?_)
  obtain ⟨⟨l, D, cA, ad, base⟩, p, e, R, s, m, args, below, meth, c, Q, nL, kc, ks⟩ := G
  obtain ⟨hx, hb, hml, hown, hts, hE, hV, hlk, hfr, hlo, hkc, hks, hnV⟩ := C
  subst hnV
  have k := k hin
  intro hX H locs ls hP hS hl
  have hat := hws_at (cA := cA) (base := base) (w := w) (hkd_lt hk (by decide))
  rw [hent_arrI 1 (by decide) hk] at hat
  exact va_iald hx hb hE.1 hP idx 0 hat rfl (inB_in hin) d (k hX H locs ls hP hS hl)
theorem sm_bald (C : Cx G cc own nV fr lo) {idx n : Nat} {i : Int32} (hk : hkd idx = (3, n)) (d : decode cc pc = .ok (.baload, 1)) (k : inB i n = true → Sm G a (pc + 1) lv (.int (gI w idx (ix i)) :: st) w X) : Sm G a pc lv (.int i :: .ref (hB G + idx) :: st) w (if inB i n = true then X else none) := by
  refine sm_chk (fun hin => ?_)
  obtain ⟨⟨l, D, cA, ad, base⟩, p, e, R, s, m, args, below, meth, c, Q, nL, kc, ks⟩ := G
  obtain ⟨hx, hb, hml, hown, hts, hE, hV, hlk, hfr, hlo, hkc, hks, hnV⟩ := C
  subst hnV
  have k := k hin
  intro hX H locs ls hP hS hl
  have hat := hws_at (cA := cA) (base := base) (w := w) (hkd_lt hk (by decide))
  rw [hent_arrI 3 (by decide) hk] at hat
  exact va_bald hx hb hE.1 hP idx 2 hat rfl (inB_in hin) d (k hX H locs ls hP hS hl)
theorem sm_zald (C : Cx G cc own nV fr lo) {idx n : Nat} {i : Int32} (hk : hkd idx = (4, n)) (d : decode cc pc = .ok (.baload, 1)) (k : inB i n = true → Sm G a (pc + 1) lv (.int (gI w idx (ix i)) :: st) w X) : Sm G a pc lv (.int i :: .ref (hB G + idx) :: st) w (if inB i n = true then X else none) := by
  refine sm_chk (fun hin => ?_)
  obtain ⟨⟨l, D, cA, ad, base⟩, p, e, R, s, m, args, below, meth, c, Q, nL, kc, ks⟩ := G
  obtain ⟨hx, hb, hml, hown, hts, hE, hV, hlk, hfr, hlo, hkc, hks, hnV⟩ := C
  subst hnV
  have k := k hin
  intro hX H locs ls hP hS hl
  have hat := hws_at (cA := cA) (base := base) (w := w) (hkd_lt hk (by decide))
  rw [hent_arrI 4 (by decide) hk] at hat
  exact va_zald hx hb hE.1 hP idx 3 hat rfl (inB_in hin) d (k hX H locs ls hP hS hl)
theorem sm_lald (C : Cx G cc own nV fr lo) {idx n : Nat} {i : Int32} (hk : hkd idx = (2, n)) (d : decode cc pc = .ok (.laload, 1)) (k : inB i n = true → Sm G a (pc + 1) lv (.long (gL w idx (ix i)) :: st) w X) : Sm G a pc lv (.int i :: .ref (hB G + idx) :: st) w (if inB i n = true then X else none) := by
  refine sm_chk (fun hin => ?_)
  obtain ⟨⟨l, D, cA, ad, base⟩, p, e, R, s, m, args, below, meth, c, Q, nL, kc, ks⟩ := G
  obtain ⟨hx, hb, hml, hown, hts, hE, hV, hlk, hfr, hlo, hkc, hks, hnV⟩ := C
  subst hnV
  have k := k hin
  intro hX H locs ls hP hS hl
  have hat := hws_at (cA := cA) (base := base) (w := w) (hkd_lt hk (by decide))
  rw [hent_arrL hk] at hat
  exact va_lald hx hb hE.1 hP idx 1 hat rfl (inB_in hin) d (k hX H locs ls hP hS hl)
theorem sm_iast (C : Cx G cc own nV fr lo) {idx n : Nat} {i : Int32} {x : Int32} {kX : HW → Option α} (hk : hkd idx = (1, n)) (d : decode cc pc = .ok (.iastore, 1)) (k : inB i n = true → ∀ w1, Sm G a (pc + 1) lv st w1 (kX w1)) : Sm G a pc lv (.int x :: .int i :: .ref (hB G + idx) :: st) w (if inB i n = true then lT (uI w idx (ix i) x) kX else none) := by
  refine sm_chk (fun hin => ?_)
  obtain ⟨⟨l, D, cA, ad, base⟩, p, e, R, s, m, args, below, meth, c, Q, nL, kc, ks⟩ := G
  obtain ⟨hx, hb, hml, hown, hts, hE, hV, hlk, hfr, hlo, hkc, hks, hnV⟩ := C
  subst hnV
  have k := k hin
  intro hX H locs ls hP hS hl
  have hat := hws_at (cA := cA) (base := base) (w := w) (hkd_lt hk (by decide))
  rw [hent_arrI 1 (by decide) hk] at hat
  refine va_iast (A := fun q => base ≤ q) hx hb hE.1 hP hws_D hS idx 0 hat rfl (inB_in hin) d (fun H1 locs1 hP1 hD1 hS1 => ?_)
  rw [hws_set (w' := uI w idx (ix i) x)] at hP1
  · exact k _ hX H1 locs1 ls hP1 hS1 hl
  · rw [hent_arrI 1 (by decide) hk]
    congr 4
    funext j
    simp [upd, vp_updL, gI, gL, uI, uL, ix]
  · intro j hj
    refine hent_congr (fun f => ?_) (fun f => ?_) (fun f => ?_)
    all_goals simp [gI, gL, gR, uI, uL, hj]
theorem sm_bast (C : Cx G cc own nV fr lo) {idx n : Nat} {i : Int32} {x : Int32} {kX : HW → Option α} (hk : hkd idx = (3, n)) (d : decode cc pc = .ok (.bastore, 1)) (k : inB i n = true → ∀ w1, Sm G a (pc + 1) lv st w1 (kX w1)) : Sm G a pc lv (.int x :: .int i :: .ref (hB G + idx) :: st) w (if inB i n = true then lT (uI w idx (ix i) (vp_nar .byte x)) kX else none) := by
  refine sm_chk (fun hin => ?_)
  obtain ⟨⟨l, D, cA, ad, base⟩, p, e, R, s, m, args, below, meth, c, Q, nL, kc, ks⟩ := G
  obtain ⟨hx, hb, hml, hown, hts, hE, hV, hlk, hfr, hlo, hkc, hks, hnV⟩ := C
  subst hnV
  have k := k hin
  intro hX H locs ls hP hS hl
  have hat := hws_at (cA := cA) (base := base) (w := w) (hkd_lt hk (by decide))
  rw [hent_arrI 3 (by decide) hk] at hat
  refine va_bast (A := fun q => base ≤ q) hx hb hE.1 hP hws_D hS idx 2 hat rfl (inB_in hin) d (fun H1 locs1 hP1 hD1 hS1 => ?_)
  rw [hws_set (w' := uI w idx (ix i) (vp_nar .byte x))] at hP1
  · exact k _ hX H1 locs1 ls hP1 hS1 hl
  · rw [hent_arrI 3 (by decide) hk]
    congr 4
    funext j
    simp [upd, vp_updL, gI, gL, uI, uL, ix]
  · intro j hj
    refine hent_congr (fun f => ?_) (fun f => ?_) (fun f => ?_)
    all_goals simp [gI, gL, gR, uI, uL, hj]
theorem sm_zast (C : Cx G cc own nV fr lo) {idx n : Nat} {i : Int32} {x : Int32} {kX : HW → Option α} (hk : hkd idx = (4, n)) (d : decode cc pc = .ok (.bastore, 1)) (k : inB i n = true → ∀ w1, Sm G a (pc + 1) lv st w1 (kX w1)) : Sm G a pc lv (.int x :: .int i :: .ref (hB G + idx) :: st) w (if inB i n = true then lT (uI w idx (ix i) (vp_nar .boolean x)) kX else none) := by
  refine sm_chk (fun hin => ?_)
  obtain ⟨⟨l, D, cA, ad, base⟩, p, e, R, s, m, args, below, meth, c, Q, nL, kc, ks⟩ := G
  obtain ⟨hx, hb, hml, hown, hts, hE, hV, hlk, hfr, hlo, hkc, hks, hnV⟩ := C
  subst hnV
  have k := k hin
  intro hX H locs ls hP hS hl
  have hat := hws_at (cA := cA) (base := base) (w := w) (hkd_lt hk (by decide))
  rw [hent_arrI 4 (by decide) hk] at hat
  refine va_zast (A := fun q => base ≤ q) hx hb hE.1 hP hws_D hS idx 3 hat rfl (inB_in hin) d (fun H1 locs1 hP1 hD1 hS1 => ?_)
  rw [hws_set (w' := uI w idx (ix i) (vp_nar .boolean x))] at hP1
  · exact k _ hX H1 locs1 ls hP1 hS1 hl
  · rw [hent_arrI 4 (by decide) hk]
    congr 4
    funext j
    simp [upd, vp_updL, gI, gL, uI, uL, ix]
  · intro j hj
    refine hent_congr (fun f => ?_) (fun f => ?_) (fun f => ?_)
    all_goals simp [gI, gL, gR, uI, uL, hj]
theorem sm_last (C : Cx G cc own nV fr lo) {idx n : Nat} {i : Int32} {x : Int64} {kX : HW → Option α} (hk : hkd idx = (2, n)) (d : decode cc pc = .ok (.lastore, 1)) (k : inB i n = true → ∀ w1, Sm G a (pc + 1) lv st w1 (kX w1)) : Sm G a pc lv (.long x :: .int i :: .ref (hB G + idx) :: st) w (if inB i n = true then lT (uL w idx (ix i) x) kX else none) := by
  refine sm_chk (fun hin => ?_)
  obtain ⟨⟨l, D, cA, ad, base⟩, p, e, R, s, m, args, below, meth, c, Q, nL, kc, ks⟩ := G
  obtain ⟨hx, hb, hml, hown, hts, hE, hV, hlk, hfr, hlo, hkc, hks, hnV⟩ := C
  subst hnV
  have k := k hin
  intro hX H locs ls hP hS hl
  have hat := hws_at (cA := cA) (base := base) (w := w) (hkd_lt hk (by decide))
  rw [hent_arrL hk] at hat
  refine va_last (A := fun q => base ≤ q) hx hb hE.1 hP hws_D hS idx 1 hat rfl (inB_in hin) d (fun H1 locs1 hP1 hD1 hS1 => ?_)
  rw [hws_set (w' := uL w idx (ix i) x)] at hP1
  · exact k _ hX H1 locs1 ls hP1 hS1 hl
  · rw [hent_arrL hk]
    congr 5
    funext j
    simp [upd, vp_updL, gI, gL, uI, uL, ix]
  · intro j hj
    refine hent_congr (fun f => ?_) (fun f => ?_) (fun f => ?_)
    all_goals simp [gI, gL, gR, uI, uL, hj]
theorem sm_aald (C : Cx G cc own nV fr lo) {idx n j : Nat} {i : Int32} (t : Nat) (ht : t = 5 ∨ t = 6) (hk : hkd idx = (t, n)) (d : decode cc pc = .ok (.aaload, 1)) (hj : inB i n = true → hrv w idx (ix i) = j) (hjz : inB i n = true → ¬ j = 1000000) (k : inB i n = true → Sm G a (pc + 1) lv (.ref (hB G + j) :: st) w X) : Sm G a pc lv (.int i :: .ref (hB G + idx) :: st) w (if inB i n = true then X else none) := by
  refine sm_chk (fun hin => ?_)
  obtain ⟨⟨l, D, cA, ad, base⟩, p, e, R, s, m, args, below, meth, c, Q, nL, kc, ks⟩ := G
  obtain ⟨hx, hb, hml, hown, hts, hE, hV, hlk, hfr, hlo, hkc, hks, hnV⟩ := C
  subst hnV
  have k := k hin
  intro hX H locs ls hP hS hl
  have hat := hws_at (cA := cA) (base := base) (w := w) (hkd_lt hk (by rcases ht with rfl | rfl <;> decide))
  rw [hent_arrR t ht hk] at hat
  have e9 : va_rf (hrf base (hrv w idx i.toNatClampNeg)) = .ref (base + j) := by
    have h1 : hrv w idx i.toNatClampNeg = j := hj hin
    rw [h1, hrf, if_neg (hjz hin)]; rfl
  have k9 : W p l e R s m args below meth c H locs kc ks Q (F0 m (pc + 1) ls (va_rf (hrf base (hrv w idx i.toNatClampNeg)) :: st)) := by rw [e9]; exact (k hX H locs ls hP hS hl)
  rcases ht with rfl | rfl
  · exact va_aldq hx hb hE.1 hP idx 4 hat rfl (inB_in hin) d k9
  · exact va_aldq hx hb hE.1 hP idx 5 hat rfl (inB_in hin) d k9
theorem sm_alen (C : Cx G cc own nV fr lo) {idx n t : Nat} {v : Int32} (ht : t = 1 ∨ t = 2 ∨ t = 3 ∨ t = 4) (hk : hkd idx = (t, n)) (hv : Int32.ofNat n = v) (d : decode cc pc = .ok (.arraylength, 1)) (k : Sm G a (pc + 1) lv (.int v :: st) w X) : Sm G a pc lv (.ref (hB G + idx) :: st) w X := by
  obtain ⟨⟨l, D, cA, ad, base⟩, p, e, R, s, m, args, below, meth, c, Q, nL, kc, ks⟩ := G
  obtain ⟨hx, hb, hml, hown, hts, hE, hV, hlk, hfr, hlo, hkc, hks, hnV⟩ := C
  subst hnV
  intro hX H locs ls hP hS hl
  have hat := hws_at (cA := cA) (base := base) (w := w) (hkd_lt hk (by rcases ht with rfl | rfl | rfl | rfl <;> decide))
  rcases ht with rfl | rfl | rfl | rfl
  · rw [hent_arrI 1 (by decide) hk] at hat
    exact va_alen hx hb hE.1 hP idx 0 hat rfl hv d (k hX H locs ls hP hS hl)
  · rw [hent_arrL hk] at hat
    exact va_alen hx hb hE.1 hP idx 1 hat rfl hv d (k hX H locs ls hP hS hl)
  · rw [hent_arrI 3 (by decide) hk] at hat
    exact va_alen hx hb hE.1 hP idx 2 hat rfl hv d (k hX H locs ls hP hS hl)
  · rw [hent_arrI 4 (by decide) hk] at hat
    exact va_alen hx hb hE.1 hP idx 3 hat rfl hv d (k hX H locs ls hP hS hl)
theorem sm_iret (C : Cx G cc own nV fr lo) {r : Int32} {x : α} {ρ : α → Option Value × HW} (E : Rx G ρ a (some .int)) (hρ : ρ x = ((some (.int r)), w)) (d : decode cc pc = .ok (.ireturn, 1)) : Sm G a pc lv [.int r] w (some x) := by
  obtain ⟨⟨l, D, cA, ad, base⟩, p, e, R, s, m, args, below, meth, c, Q, nL, kc, ks⟩ := G
  obtain ⟨hx, hb, hml, hown, hts, hE, hV, hlk, hfr, hlo, hkc, hks, hnV⟩ := C
  subst hnV
  obtain ⟨E1, E2⟩ := E
  intro hX H locs ls hP hS hl
  cases hX
  rw [hρ] at E2
  rw [E2]
  exact W.iret (v := r) hx hb E1 (fun t ht hW => ⟨rfl, by rw [ht]; exact hP, hS.F ht⟩) hS.2.2 d
theorem sm_lret (C : Cx G cc own nV fr lo) {r : Int64} {x : α} {ρ : α → Option Value × HW} (E : Rx G ρ a (some .long)) (hρ : ρ x = ((some (.long r)), w)) (d : decode cc pc = .ok (.lreturn, 1)) : Sm G a pc lv [.long r] w (some x) := by
  obtain ⟨⟨l, D, cA, ad, base⟩, p, e, R, s, m, args, below, meth, c, Q, nL, kc, ks⟩ := G
  obtain ⟨hx, hb, hml, hown, hts, hE, hV, hlk, hfr, hlo, hkc, hks, hnV⟩ := C
  subst hnV
  obtain ⟨E1, E2⟩ := E
  intro hX H locs ls hP hS hl
  cases hX
  rw [hρ] at E2
  rw [E2]
  exact W.lret (v := r) hx hb E1 (fun t ht hW => ⟨rfl, by rw [ht]; exact hP, hS.F ht⟩) hS.2.2 d
theorem sm_zret (C : Cx G cc own nV fr lo) {r : Int32} {x : α} {ρ : α → Option Value × HW} (E : Rx G ρ a (some .boolean)) (hρ : ρ x = ((some (.int r)), w)) (hz : narrow .boolean (.int r) = .int r) (d : decode cc pc = .ok (.ireturn, 1)) : Sm G a pc lv [.int r] w (some x) := by
  obtain ⟨⟨l, D, cA, ad, base⟩, p, e, R, s, m, args, below, meth, c, Q, nL, kc, ks⟩ := G
  obtain ⟨hx, hb, hml, hown, hts, hE, hV, hlk, hfr, hlo, hkc, hks, hnV⟩ := C
  subst hnV
  obtain ⟨E1, E2⟩ := E
  intro hX H locs ls hP hS hl
  cases hX
  rw [hρ] at E2
  rw [E2]
  exact W.zret (v := r) hx hb E1 hz (fun t ht hW => ⟨rfl, by rw [ht]; exact hP, hS.F ht⟩) hS.2.2 d
theorem sm_vret (C : Cx G cc own nV fr lo) {x : α} {ρ : α → Option Value × HW} (E : Rx G ρ a (none)) (hρ : ρ x = (none, w)) (d : decode cc pc = .ok (.return_, 1)) : Sm G a pc lv [] w (some x) := by
  obtain ⟨⟨l, D, cA, ad, base⟩, p, e, R, s, m, args, below, meth, c, Q, nL, kc, ks⟩ := G
  obtain ⟨hx, hb, hml, hown, hts, hE, hV, hlk, hfr, hlo, hkc, hks, hnV⟩ := C
  subst hnV
  obtain ⟨E1, E2⟩ := E
  intro hX H locs ls hP hS hl
  cases hX
  rw [hρ] at E2
  rw [E2]
  exact W.vret hx hb E1 (fun t ht hW => ⟨rfl, by rw [ht]; exact hP, hS.F ht⟩) hS.2.2 d

end SM
