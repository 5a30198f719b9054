/-! WHAT THE WALKS LOOK UP: kinds of cells, fixed references, fields, words, constants, all by program -/
def isC (k : Nat) : Bool := k == 26 || k == 35 || k == 52 || k == 61 || k == 70
def isR (k : Nat) : Bool := k == 44 || k == 46 || k == 48 || k == 50
theorem isC_cases {k : Nat} (h : isC k = true) : k = 26 ∨ k = 35 ∨ k = 52 ∨ k = 61 ∨ k = 70 := by
  simp only [isC, Bool.or_eq_true, beq_iff_eq] at h
  omega
theorem isR_cases {k : Nat} (h : isR k = true) : k = 44 ∨ k = 46 ∨ k = 48 ∨ k = 50 := by
  simp only [isR, Bool.or_eq_true, beq_iff_eq] at h
  omega
theorem isC_nz {k : Nat} (h : isC k = true) : ¬ k = 1000000 := by
  have := isC_cases h
  omega
theorem kdC {k : Nat} (h : isC k = true) : hkd k = (0, 0) := by rcases isC_cases h with rfl | rfl | rfl | rfl | rfl <;> rfl
theorem kdR {k : Nat} (h : isR k = true) : hkd k = (0, 5) := by rcases isR_cases h with rfl | rfl | rfl | rfl <;> rfl
theorem inB_lt {i : Int32} {n : Nat} (h : inB i n = true) : ix i < n := by
  simp only [inB, Bool.and_eq_true, decide_eq_true_eq] at h
  exact h.2
theorem rvS {i : Int32} (w : HW) (h : inB i 4 = true) : hrv w 19 (ix i) = 44 + 2 * ix i := by
  have h1 := inB_lt h
  rcases (show ix i = 0 ∨ ix i = 1 ∨ ix i = 2 ∨ ix i = 3 by omega) with e | e | e | e <;> rw [e] <;> rfl
theorem rvI {i : Int32} (w : HW) (h : inB i 3 = true) : hrv w 24 (ix i) = 52 + 9 * ix i := by
  have h1 := inB_lt h
  rcases (show ix i = 0 ∨ ix i = 1 ∨ ix i = 2 by omega) with e | e | e <;> rw [e] <;> rfl
theorem nzS {i : Int32} (h : inB i 4 = true) : ¬ 44 + 2 * ix i = 1000000 := by have h1 := inB_lt h; omega
theorem nzI {i : Int32} (h : inB i 3 = true) : ¬ 52 + 9 * ix i = 1000000 := by have h1 := inB_lt h; omega
theorem isS {i : Int32} (h : inB i 4 = true) : isR (44 + 2 * ix i) = true := by
  have h1 := inB_lt h
  rcases (show ix i = 0 ∨ ix i = 1 ∨ ix i = 2 ∨ ix i = 3 by omega) with e | e | e | e <;> rw [e] <;> rfl
theorem isI {i : Int32} (h : inB i 3 = true) : isC (52 + 9 * ix i) = true := by
  have h1 := inB_lt h
  rcases (show ix i = 0 ∨ ix i = 1 ∨ ix i = 2 by omega) with e | e | e <;> rw [e] <;> rfl
theorem zB_nar {r : Int32} (h : zB r = true) : narrow .boolean (.int r) = .int r := by
  simp only [zB, Bool.or_eq_true, decide_eq_true_eq] at h
  rcases h with rfl | rfl <;> rfl
def FU : Nat := 100000
theorem hWS_all {ws : List Cond} (ps : List Nat) (h : ws = ps.filterMap (fun i => tables_1[i]?)) (hg : ws.all goodWord = true) : ∀ w ∈ ws, w ∈ hWS := by
  intro w hw
  have h1 := List.all_eq_true.mp hg w hw
  rw [h] at hw
  obtain ⟨i, -, hi⟩ := List.mem_filterMap.mp hw
  exact hWS_in hi h1
section SMX
variable {G : Gx} {cc : ByteArray} {own : String} {nV fr lo : Nat} {α β : Type} {a : α} {pc : Nat} {lv : List (Nat × Value)} {st rest : List Value} {w : HW} {X Y : Option α}
theorem sm_nz {P : Prop} [Decidable P] (k : ¬ P → Sm G a pc lv st w X) : Sm G a pc lv st w (if P then none else X) := by
  by_cases h : P
  · rw [if_pos h]; exact sm_none
  · rw [if_neg h]; exact k h
theorem sm_spl {P : Prop} [Decidable P] (k1 : P → Sm G a pc lv st w X) (k2 : ¬ P → Sm G a pc lv st w Y) : Sm G a pc lv st w (if P then X else Y) := by
  by_cases h : P
  · rw [if_pos h]; exact k1 h
  · rw [if_neg h]; exact k2 h
theorem sm_getC (C : Cx G cc own nV fr lo) {ci fk idx index : Nat} {nm ds Cn : String} {fin : Bool} {ty : FieldType} {kX : Nat → Option α} (F : hFO ci fk 2 nm ds fin ty) (hC : (vwCl.getD ci ("", fun _ => ("", "", "", false), 0)).1 = Cn) (hw : Cond.fieldLink own index Cn nm ds ∈ hWS) (hk : hkd idx = (0, ci)) (d : decode cc pc = .ok (.getfield index, 3)) (hd : hdy idx fk = true) (k : ∀ j, isC j = true → Sm G a (pc + 3) lv (.ref (hB G + j) :: st) w (kX j)) : Sm G a pc lv (.ref (hB G + idx) :: st) w (lT (gR w idx fk) (fun j => if isC j = true then kX j else none)) := by
  show Sm G a pc lv (.ref (hB G + idx) :: st) w (if isC (gR w idx fk) = true then kX (gR w idx fk) else none)
  refine sm_chk (fun h => ?_)
  exact sm_getR C F hC hw hk d (n := gR w idx fk) (by unfold hrv; rw [hd]; rfl) (isC_nz h) (k _ h)
theorem sm_getT (C : Cx G cc own nV fr lo) {ci fk idx index : Nat} {nm ds Cn : String} {fin : Bool} {ty : FieldType} (F : hFO ci fk 2 nm ds fin ty) (hC : (vwCl.getD ci ("", fun _ => ("", "", "", false), 0)).1 = Cn) (hw : Cond.fieldLink own index Cn nm ds ∈ hWS) (hk : hkd idx = (0, ci)) (d : decode cc pc = .ok (.getfield index, 3)) (hd : hdy idx fk = true) (k : (gR w idx fk == 1) = true → Sm G a (pc + 3) lv (.ref (hB G + 1) :: st) w X) : Sm G a pc lv (.ref (hB G + idx) :: st) w (if (gR w idx fk == 1) = true then X else none) := by
  refine sm_chk (fun h => ?_)
  exact sm_getR C F hC hw hk d (n := 1) (by unfold hrv; rw [hd]; exact beq_iff_eq.mp h) (by decide) (k h)
theorem sm_cVI {y : MethodName} {cy : ByteArray} {ny fr' lo' n' index : Nat} {ry : Option FieldType} {As : List Value} {f : Option (Int32)} {kX : Int32 → Option α} (C : Cx G cc own nV fr lo) {idx ci : Nat} (hc : hCF y cy ny ry n') (hw : Cond.methodLink own index y ∈ hWS) (hk : hkd idx = (0, ci)) (hcl : (vwCl.getD ci ("", fun _ => ("", "", "", false), 0)).1 = y.cls) (hn : As.length = n') (hR : (Nat.ble (fr' + 1) fr && Nat.ble (8 + (ny + 11) + lo') lo) = true) (hst : st = As.reverse ++ .ref (hB G + idx) :: rest) (hrest : Nat.ble ((rest.map fun v => v.category).sum) 8 = true) (d : decode cc pc = .ok (.invokevirtual index, 3)) (hM : ∀ r, f = some r → Mt G.1 y cy ny ry fr' lo' (.ref (hB G + idx) :: As) w (some (.int r)) w) (k : ∀ r, Sm G a (pc + 3) lv (.int r :: rest) w (kX r)) : Sm G a pc lv st w (bI f kX) := sm_callV (As := As) (ρ := (ρI w)) C hc hw hk hcl hn hR hst hrest d hM (fun r _ => k r)
theorem sm_cVL {y : MethodName} {cy : ByteArray} {ny fr' lo' n' index : Nat} {ry : Option FieldType} {As : List Value} {f : Option (Int64)} {kX : Int64 → Option α} (C : Cx G cc own nV fr lo) {idx ci : Nat} (hc : hCF y cy ny ry n') (hw : Cond.methodLink own index y ∈ hWS) (hk : hkd idx = (0, ci)) (hcl : (vwCl.getD ci ("", fun _ => ("", "", "", false), 0)).1 = y.cls) (hn : As.length = n') (hR : (Nat.ble (fr' + 1) fr && Nat.ble (8 + (ny + 11) + lo') lo) = true) (hst : st = As.reverse ++ .ref (hB G + idx) :: rest) (hrest : Nat.ble ((rest.map fun v => v.category).sum) 8 = true) (d : decode cc pc = .ok (.invokevirtual index, 3)) (hM : ∀ r, f = some r → Mt G.1 y cy ny ry fr' lo' (.ref (hB G + idx) :: As) w (some (.long r)) w) (k : ∀ r, Sm G a (pc + 3) lv (.long r :: rest) w (kX r)) : Sm G a pc lv st w (bI f kX) := sm_callV (As := As) (ρ := (ρL w)) C hc hw hk hcl hn hR hst hrest d hM (fun r _ => k r)
theorem sm_cVIW {y : MethodName} {cy : ByteArray} {ny fr' lo' n' index : Nat} {ry : Option FieldType} {As : List Value} {f : Option (Int32 × HW)} {kX : Int32 → HW → Option α} (C : Cx G cc own nV fr lo) {idx ci : Nat} (hc : hCF y cy ny ry n') (hw : Cond.methodLink own index y ∈ hWS) (hk : hkd idx = (0, ci)) (hcl : (vwCl.getD ci ("", fun _ => ("", "", "", false), 0)).1 = y.cls) (hn : As.length = n') (hR : (Nat.ble (fr' + 1) fr && Nat.ble (8 + (ny + 11) + lo') lo) = true) (hst : st = As.reverse ++ .ref (hB G + idx) :: rest) (hrest : Nat.ble ((rest.map fun v => v.category).sum) 8 = true) (d : decode cc pc = .ok (.invokevirtual index, 3)) (hM : ∀ r, f = some r → Mt G.1 y cy ny ry fr' lo' (.ref (hB G + idx) :: As) w (some (.int r.1)) r.2) (k : ∀ r w1, Sm G a (pc + 3) lv (.int r :: rest) w1 (kX r w1)) : Sm G a pc lv st w (bW f kX) := sm_callV (As := As) (ρ := ρIW) C hc hw hk hcl hn hR hst hrest d hM (fun r _ => k r.1 r.2)
theorem sm_cVLW {y : MethodName} {cy : ByteArray} {ny fr' lo' n' index : Nat} {ry : Option FieldType} {As : List Value} {f : Option (Int64 × HW)} {kX : Int64 → HW → Option α} (C : Cx G cc own nV fr lo) {idx ci : Nat} (hc : hCF y cy ny ry n') (hw : Cond.methodLink own index y ∈ hWS) (hk : hkd idx = (0, ci)) (hcl : (vwCl.getD ci ("", fun _ => ("", "", "", false), 0)).1 = y.cls) (hn : As.length = n') (hR : (Nat.ble (fr' + 1) fr && Nat.ble (8 + (ny + 11) + lo') lo) = true) (hst : st = As.reverse ++ .ref (hB G + idx) :: rest) (hrest : Nat.ble ((rest.map fun v => v.category).sum) 8 = true) (d : decode cc pc = .ok (.invokevirtual index, 3)) (hM : ∀ r, f = some r → Mt G.1 y cy ny ry fr' lo' (.ref (hB G + idx) :: As) w (some (.long r.1)) r.2) (k : ∀ r w1, Sm G a (pc + 3) lv (.long r :: rest) w1 (kX r w1)) : Sm G a pc lv st w (bW f kX) := sm_callV (As := As) (ρ := ρLW) C hc hw hk hcl hn hR hst hrest d hM (fun r _ => k r.1 r.2)
theorem sm_cVW {y : MethodName} {cy : ByteArray} {ny fr' lo' n' index : Nat} {ry : Option FieldType} {As : List Value} {f : Option (HW)} {kX : HW → Option α} (C : Cx G cc own nV fr lo) {idx ci : Nat} (hc : hCF y cy ny ry n') (hw : Cond.methodLink own index y ∈ hWS) (hk : hkd idx = (0, ci)) (hcl : (vwCl.getD ci ("", fun _ => ("", "", "", false), 0)).1 = y.cls) (hn : As.length = n') (hR : (Nat.ble (fr' + 1) fr && Nat.ble (8 + (ny + 11) + lo') lo) = true) (hst : st = As.reverse ++ .ref (hB G + idx) :: rest) (hrest : Nat.ble ((rest.map fun v => v.category).sum) 8 = true) (d : decode cc pc = .ok (.invokevirtual index, 3)) (hM : ∀ r, f = some r → Mt G.1 y cy ny ry fr' lo' (.ref (hB G + idx) :: As) w none r) (k : ∀ w1, Sm G a (pc + 3) lv rest w1 (kX w1)) : Sm G a pc lv st w (bI f kX) := sm_callV (As := As) (ρ := ρW) C hc hw hk hcl hn hR hst hrest d hM (fun r _ => k r)
theorem sm_cSI {y : MethodName} {cy : ByteArray} {ny fr' lo' n' index : Nat} {ry : Option FieldType} {As : List Value} {f : Option (Int32)} {kX : Int32 → Option α} (C : Cx G cc own nV fr lo) (hc : hCS y cy ny ry n') (hw : Cond.methodLink own index y ∈ hWS) (hn : As.length = n') (hR : (Nat.ble (fr' + 1) fr && Nat.ble (8 + (ny + 11) + lo') lo) = true) (hst : st = As.reverse ++ rest) (hrest : Nat.ble ((rest.map fun v => v.category).sum) 8 = true) (d : decode cc pc = .ok (.invokestatic index, 3)) (hM : ∀ r, f = some r → Mt G.1 y cy ny ry fr' lo' (As) w (some (.int r)) w) (k : ∀ r, Sm G a (pc + 3) lv (.int r :: rest) w (kX r)) : Sm G a pc lv st w (bI f kX) := sm_callS (As := As) (ρ := (ρI w)) C hc hw hn hR hst hrest d hM (fun r _ => k r)
theorem sm_cSL {y : MethodName} {cy : ByteArray} {ny fr' lo' n' index : Nat} {ry : Option FieldType} {As : List Value} {f : Option (Int64)} {kX : Int64 → Option α} (C : Cx G cc own nV fr lo) (hc : hCS y cy ny ry n') (hw : Cond.methodLink own index y ∈ hWS) (hn : As.length = n') (hR : (Nat.ble (fr' + 1) fr && Nat.ble (8 + (ny + 11) + lo') lo) = true) (hst : st = As.reverse ++ rest) (hrest : Nat.ble ((rest.map fun v => v.category).sum) 8 = true) (d : decode cc pc = .ok (.invokestatic index, 3)) (hM : ∀ r, f = some r → Mt G.1 y cy ny ry fr' lo' (As) w (some (.long r)) w) (k : ∀ r, Sm G a (pc + 3) lv (.long r :: rest) w (kX r)) : Sm G a pc lv st w (bI f kX) := sm_callS (As := As) (ρ := (ρL w)) C hc hw hn hR hst hrest d hM (fun r _ => k r)
theorem sm_cSIW {y : MethodName} {cy : ByteArray} {ny fr' lo' n' index : Nat} {ry : Option FieldType} {As : List Value} {f : Option (Int32 × HW)} {kX : Int32 → HW → Option α} (C : Cx G cc own nV fr lo) (hc : hCS y cy ny ry n') (hw : Cond.methodLink own index y ∈ hWS) (hn : As.length = n') (hR : (Nat.ble (fr' + 1) fr && Nat.ble (8 + (ny + 11) + lo') lo) = true) (hst : st = As.reverse ++ rest) (hrest : Nat.ble ((rest.map fun v => v.category).sum) 8 = true) (d : decode cc pc = .ok (.invokestatic index, 3)) (hM : ∀ r, f = some r → Mt G.1 y cy ny ry fr' lo' (As) w (some (.int r.1)) r.2) (k : ∀ r w1, Sm G a (pc + 3) lv (.int r :: rest) w1 (kX r w1)) : Sm G a pc lv st w (bW f kX) := sm_callS (As := As) (ρ := ρIW) C hc hw hn hR hst hrest d hM (fun r _ => k r.1 r.2)
theorem sm_cSLW {y : MethodName} {cy : ByteArray} {ny fr' lo' n' index : Nat} {ry : Option FieldType} {As : List Value} {f : Option (Int64 × HW)} {kX : Int64 → HW → Option α} (C : Cx G cc own nV fr lo) (hc : hCS y cy ny ry n') (hw : Cond.methodLink own index y ∈ hWS) (hn : As.length = n') (hR : (Nat.ble (fr' + 1) fr && Nat.ble (8 + (ny + 11) + lo') lo) = true) (hst : st = As.reverse ++ rest) (hrest : Nat.ble ((rest.map fun v => v.category).sum) 8 = true) (d : decode cc pc = .ok (.invokestatic index, 3)) (hM : ∀ r, f = some r → Mt G.1 y cy ny ry fr' lo' (As) w (some (.long r.1)) r.2) (k : ∀ r w1, Sm G a (pc + 3) lv (.long r :: rest) w1 (kX r w1)) : Sm G a pc lv st w (bW f kX) := sm_callS (As := As) (ρ := ρLW) C hc hw hn hR hst hrest d hM (fun r _ => k r.1 r.2)
theorem sm_cSW {y : MethodName} {cy : ByteArray} {ny fr' lo' n' index : Nat} {ry : Option FieldType} {As : List Value} {f : Option (HW)} {kX : HW → Option α} (C : Cx G cc own nV fr lo) (hc : hCS y cy ny ry n') (hw : Cond.methodLink own index y ∈ hWS) (hn : As.length = n') (hR : (Nat.ble (fr' + 1) fr && Nat.ble (8 + (ny + 11) + lo') lo) = true) (hst : st = As.reverse ++ rest) (hrest : Nat.ble ((rest.map fun v => v.category).sum) 8 = true) (d : decode cc pc = .ok (.invokestatic index, 3)) (hM : ∀ r, f = some r → Mt G.1 y cy ny ry fr' lo' (As) w none r) (k : ∀ w1, Sm G a (pc + 3) lv rest w1 (kX w1)) : Sm G a pc lv st w (bI f kX) := sm_callS (As := As) (ρ := ρW) C hc hw hn hR hst hrest d hM (fun r _ => k r)
theorem sm_cNI {y : MethodName} {cy : ByteArray} {ny fr' lo' n' index : Nat} {ry : Option FieldType} {As : List Value} {f : Option (Int32)} {kX : Int32 → Option α} (C : Cx G cc own nV fr lo) {host : String} (hc : hCS y cy ny ry n') (j : Nat) (hw : hnl[j]? = some (own, index, y, host)) (hn : As.length = n') (hR : (Nat.ble (fr' + 1) fr && Nat.ble (8 + (ny + 11) + lo') lo) = true) (hst : st = As.reverse ++ rest) (hrest : Nat.ble ((rest.map fun v => v.category).sum) 8 = true) (d : decode cc pc = .ok (.invokestatic index, 3)) (hM : ∀ r, f = some r → Mt G.1 y cy ny ry fr' lo' (As) w (some (.int r)) w) (k : ∀ r, Sm G a (pc + 3) lv (.int r :: rest) w (kX r)) : Sm G a pc lv st w (bI f kX) := sm_callN (As := As) (ρ := (ρI w)) C hc j hw hn hR hst hrest d hM (fun r _ => k r)
theorem sm_cNL {y : MethodName} {cy : ByteArray} {ny fr' lo' n' index : Nat} {ry : Option FieldType} {As : List Value} {f : Option (Int64)} {kX : Int64 → Option α} (C : Cx G cc own nV fr lo) {host : String} (hc : hCS y cy ny ry n') (j : Nat) (hw : hnl[j]? = some (own, index, y, host)) (hn : As.length = n') (hR : (Nat.ble (fr' + 1) fr && Nat.ble (8 + (ny + 11) + lo') lo) = true) (hst : st = As.reverse ++ rest) (hrest : Nat.ble ((rest.map fun v => v.category).sum) 8 = true) (d : decode cc pc = .ok (.invokestatic index, 3)) (hM : ∀ r, f = some r → Mt G.1 y cy ny ry fr' lo' (As) w (some (.long r)) w) (k : ∀ r, Sm G a (pc + 3) lv (.long r :: rest) w (kX r)) : Sm G a pc lv st w (bI f kX) := sm_callN (As := As) (ρ := (ρL w)) C hc j hw hn hR hst hrest d hM (fun r _ => k r)
theorem sm_cNIW {y : MethodName} {cy : ByteArray} {ny fr' lo' n' index : Nat} {ry : Option FieldType} {As : List Value} {f : Option (Int32 × HW)} {kX : Int32 → HW → Option α} (C : Cx G cc own nV fr lo) {host : String} (hc : hCS y cy ny ry n') (j : Nat) (hw : hnl[j]? = some (own, index, y, host)) (hn : As.length = n') (hR : (Nat.ble (fr' + 1) fr && Nat.ble (8 + (ny + 11) + lo') lo) = true) (hst : st = As.reverse ++ rest) (hrest : Nat.ble ((rest.map fun v => v.category).sum) 8 = true) (d : decode cc pc = .ok (.invokestatic index, 3)) (hM : ∀ r, f = some r → Mt G.1 y cy ny ry fr' lo' (As) w (some (.int r.1)) r.2) (k : ∀ r w1, Sm G a (pc + 3) lv (.int r :: rest) w1 (kX r w1)) : Sm G a pc lv st w (bW f kX) := sm_callN (As := As) (ρ := ρIW) C hc j hw hn hR hst hrest d hM (fun r _ => k r.1 r.2)
theorem sm_cNLW {y : MethodName} {cy : ByteArray} {ny fr' lo' n' index : Nat} {ry : Option FieldType} {As : List Value} {f : Option (Int64 × HW)} {kX : Int64 → HW → Option α} (C : Cx G cc own nV fr lo) {host : String} (hc : hCS y cy ny ry n') (j : Nat) (hw : hnl[j]? = some (own, index, y, host)) (hn : As.length = n') (hR : (Nat.ble (fr' + 1) fr && Nat.ble (8 + (ny + 11) + lo') lo) = true) (hst : st = As.reverse ++ rest) (hrest : Nat.ble ((rest.map fun v => v.category).sum) 8 = true) (d : decode cc pc = .ok (.invokestatic index, 3)) (hM : ∀ r, f = some r → Mt G.1 y cy ny ry fr' lo' (As) w (some (.long r.1)) r.2) (k : ∀ r w1, Sm G a (pc + 3) lv (.long r :: rest) w1 (kX r w1)) : Sm G a pc lv st w (bW f kX) := sm_callN (As := As) (ρ := ρLW) C hc j hw hn hR hst hrest d hM (fun r _ => k r.1 r.2)
theorem sm_cNW {y : MethodName} {cy : ByteArray} {ny fr' lo' n' index : Nat} {ry : Option FieldType} {As : List Value} {f : Option (HW)} {kX : HW → Option α} (C : Cx G cc own nV fr lo) {host : String} (hc : hCS y cy ny ry n') (j : Nat) (hw : hnl[j]? = some (own, index, y, host)) (hn : As.length = n') (hR : (Nat.ble (fr' + 1) fr && Nat.ble (8 + (ny + 11) + lo') lo) = true) (hst : st = As.reverse ++ rest) (hrest : Nat.ble ((rest.map fun v => v.category).sum) 8 = true) (d : decode cc pc = .ok (.invokestatic index, 3)) (hM : ∀ r, f = some r → Mt G.1 y cy ny ry fr' lo' (As) w none r) (k : ∀ w1, Sm G a (pc + 3) lv rest w1 (kX w1)) : Sm G a pc lv st w (bI f kX) := sm_callN (As := As) (ρ := ρW) C hc j hw hn hR hst hrest d hM (fun r _ => k r)
end SMX
theorem kdC_1 {k : Nat} (h : isC k = true) : hkd (k + 1) = (1, 8) := by rcases isC_cases h with rfl | rfl | rfl | rfl | rfl <;> rfl
theorem rvC_7 {k : Nat} (h : isC k = true) (w : HW) : hrv w k 7 = k + 1 := by rcases isC_cases h with rfl | rfl | rfl | rfl | rfl <;> rfl
theorem nzC_1 {k : Nat} (h : isC k = true) : ¬ k + 1 = 1000000 := by have := isC_cases h; omega
theorem kdC_2 {k : Nat} (h : isC k = true) : hkd (k + 2) = (1, 8) := by rcases isC_cases h with rfl | rfl | rfl | rfl | rfl <;> rfl
theorem rvC_8 {k : Nat} (h : isC k = true) (w : HW) : hrv w k 8 = k + 2 := by rcases isC_cases h with rfl | rfl | rfl | rfl | rfl <;> rfl
theorem nzC_2 {k : Nat} (h : isC k = true) : ¬ k + 2 = 1000000 := by have := isC_cases h; omega
theorem kdC_3 {k : Nat} (h : isC k = true) : hkd (k + 3) = (1, 8) := by rcases isC_cases h with rfl | rfl | rfl | rfl | rfl <;> rfl
theorem rvC_9 {k : Nat} (h : isC k = true) (w : HW) : hrv w k 9 = k + 3 := by rcases isC_cases h with rfl | rfl | rfl | rfl | rfl <;> rfl
theorem nzC_3 {k : Nat} (h : isC k = true) : ¬ k + 3 = 1000000 := by have := isC_cases h; omega
theorem kdC_4 {k : Nat} (h : isC k = true) : hkd (k + 4) = (1, 8) := by rcases isC_cases h with rfl | rfl | rfl | rfl | rfl <;> rfl
theorem rvC_11 {k : Nat} (h : isC k = true) (w : HW) : hrv w k 11 = k + 4 := by rcases isC_cases h with rfl | rfl | rfl | rfl | rfl <;> rfl
theorem nzC_4 {k : Nat} (h : isC k = true) : ¬ k + 4 = 1000000 := by have := isC_cases h; omega
theorem kdC_5 {k : Nat} (h : isC k = true) : hkd (k + 5) = (1, 8) := by rcases isC_cases h with rfl | rfl | rfl | rfl | rfl <;> rfl
theorem rvC_12 {k : Nat} (h : isC k = true) (w : HW) : hrv w k 12 = k + 5 := by rcases isC_cases h with rfl | rfl | rfl | rfl | rfl <;> rfl
theorem nzC_5 {k : Nat} (h : isC k = true) : ¬ k + 5 = 1000000 := by have := isC_cases h; omega
theorem kdC_6 {k : Nat} (h : isC k = true) : hkd (k + 6) = (1, 8) := by rcases isC_cases h with rfl | rfl | rfl | rfl | rfl <;> rfl
theorem rvC_13 {k : Nat} (h : isC k = true) (w : HW) : hrv w k 13 = k + 6 := by rcases isC_cases h with rfl | rfl | rfl | rfl | rfl <;> rfl
theorem nzC_6 {k : Nat} (h : isC k = true) : ¬ k + 6 = 1000000 := by have := isC_cases h; omega
theorem kdC_7 {k : Nat} (h : isC k = true) : hkd (k + 7) = (1, 20) := by rcases isC_cases h with rfl | rfl | rfl | rfl | rfl <;> rfl
theorem rvC_15 {k : Nat} (h : isC k = true) (w : HW) : hrv w k 15 = k + 7 := by rcases isC_cases h with rfl | rfl | rfl | rfl | rfl <;> rfl
theorem nzC_7 {k : Nat} (h : isC k = true) : ¬ k + 7 = 1000000 := by have := isC_cases h; omega
theorem kdC_8 {k : Nat} (h : isC k = true) : hkd (k + 8) = (1, 20) := by rcases isC_cases h with rfl | rfl | rfl | rfl | rfl <;> rfl
theorem rvC_16 {k : Nat} (h : isC k = true) (w : HW) : hrv w k 16 = k + 8 := by rcases isC_cases h with rfl | rfl | rfl | rfl | rfl <;> rfl
theorem nzC_8 {k : Nat} (h : isC k = true) : ¬ k + 8 = 1000000 := by have := isC_cases h; omega
theorem kdR_1 {k : Nat} (h : isR k = true) : hkd (k + 1) = (2, 60) := by rcases isR_cases h with rfl | rfl | rfl | rfl <;> rfl
theorem rvR_0 {k : Nat} (h : isR k = true) (w : HW) : hrv w k 0 = k + 1 := by rcases isR_cases h with rfl | rfl | rfl | rfl <;> rfl
theorem nzR_1 {k : Nat} (h : isR k = true) : ¬ k + 1 = 1000000 := by have := isR_cases h; omega
theorem kd_0 : hkd 0 = (0, 9) := rfl
theorem kd_1 : hkd 1 = (0, 8) := rfl
theorem kd_2 : hkd 2 = (3, 800) := rfl
theorem kd_3 : hkd 3 = (0, 4) := rfl
theorem kd_4 : hkd 4 = (0, 6) := rfl
theorem kd_5 : hkd 5 = (1, 14) := rfl
theorem kd_6 : hkd 6 = (1, 8) := rfl
theorem kd_7 : hkd 7 = (1, 8) := rfl
theorem kd_8 : hkd 8 = (1, 8) := rfl
theorem kd_9 : hkd 9 = (1, 14) := rfl
theorem kd_10 : hkd 10 = (1, 2) := rfl
theorem kd_11 : hkd 11 = (0, 3) := rfl
theorem kd_12 : hkd 12 = (1, 3840) := rfl
theorem kd_13 : hkd 13 = (1, 3840) := rfl
theorem kd_14 : hkd 14 = (1, 8) := rfl
theorem kd_15 : hkd 15 = (1, 8) := rfl
theorem kd_16 : hkd 16 = (1, 14) := rfl
theorem kd_17 : hkd 17 = (0, 1) := rfl
theorem kd_18 : hkd 18 = (1, 135) := rfl
theorem kd_19 : hkd 19 = (5, 4) := rfl
theorem kd_20 : hkd 20 = (0, 2) := rfl
theorem kd_21 : hkd 21 = (1, 14) := rfl
theorem kd_22 : hkd 22 = (0, 7) := rfl
theorem kd_23 : hkd 23 = (1, 4) := rfl
theorem kd_24 : hkd 24 = (6, 3) := rfl
theorem kd_25 : hkd 25 = (4, 3) := rfl
theorem kd_79 : hkd 79 = (0, 10) := rfl
theorem kd_80 : hkd 80 = (1, 77) := rfl
theorem kd_81 : hkd 81 = (1, 231) := rfl
theorem kd_82 : hkd 82 = (4, 3) := rfl
theorem kd_83 : hkd 83 = (3, 800) := rfl
theorem kd_84 : hkd 84 = (1, 5) := rfl
theorem kd_85 : hkd 85 = (1, 77) := rfl
theorem kd_86 : hkd 86 = (1, 14) := rfl
theorem kd_87 : hkd 87 = (1, 14) := rfl
theorem kd_88 : hkd 88 = (1, 14) := rfl
theorem kd_89 : hkd 89 = (1, 8) := rfl
theorem kd_90 : hkd 90 = (1, 8) := rfl
theorem kd_91 : hkd 91 = (1, 38400) := rfl
theorem kd_92 : hkd 92 = (1, 38400) := rfl
theorem kd_93 : hkd 93 = (1, 38400) := rfl
theorem kd_94 : hkd 94 = (1, 8) := rfl
theorem kd_95 : hkd 95 = (1, 8) := rfl
theorem kd_96 : hkd 96 = (1, 150) := rfl
theorem kd_97 : hkd 97 = (1, 4) := rfl
theorem kd_98 : hkd 98 = (1, 4) := rfl
theorem kd_99 : hkd 99 = (1, 4) := rfl
theorem kd_100 : hkd 100 = (2, 240) := rfl
theorem kd_101 : hkd 101 = (2, 60) := rfl
theorem rv_0_0 (w : HW) : hrv w 0 0 = 1 := rfl
theorem rv_0_1 (w : HW) : hrv w 0 1 = 3 := rfl
theorem rv_0_2 (w : HW) : hrv w 0 2 = 4 := rfl
theorem rv_0_3 (w : HW) : hrv w 0 3 = 11 := rfl
theorem rv_0_4 (w : HW) : hrv w 0 4 = 17 := rfl
theorem rv_0_5 (w : HW) : hrv w 0 5 = 19 := rfl
theorem rv_0_6 (w : HW) : hrv w 0 6 = 20 := rfl
theorem rv_0_7 (w : HW) : hrv w 0 7 = 22 := rfl
theorem rv_0_8 (w : HW) : hrv w 0 8 = 24 := rfl
theorem rv_0_9 (w : HW) : hrv w 0 9 = 25 := rfl
theorem rv_1_0 (w : HW) : hrv w 1 0 = 2 := rfl
theorem rv_4_0 (w : HW) : hrv w 4 0 = 5 := rfl
theorem rv_4_1 (w : HW) : hrv w 4 1 = 6 := rfl
theorem rv_4_2 (w : HW) : hrv w 4 2 = 7 := rfl
theorem rv_4_3 (w : HW) : hrv w 4 3 = 8 := rfl
theorem rv_4_5 (w : HW) : hrv w 4 5 = 9 := rfl
theorem rv_4_6 (w : HW) : hrv w 4 6 = 10 := rfl
theorem rv_11_0 (w : HW) : hrv w 11 0 = 12 := rfl
theorem rv_11_1 (w : HW) : hrv w 11 1 = 13 := rfl
theorem rv_11_2 (w : HW) : hrv w 11 2 = 14 := rfl
theorem rv_11_3 (w : HW) : hrv w 11 3 = 15 := rfl
theorem rv_11_4 (w : HW) : hrv w 11 4 = 16 := rfl
theorem rv_17_0 (w : HW) : hrv w 17 0 = 18 := rfl
theorem rv_20_4 (w : HW) : hrv w 20 4 = 21 := rfl
theorem rv_22_0 (w : HW) : hrv w 22 0 = 23 := rfl
theorem rv_79_1 (w : HW) : hrv w 79 1 = 80 := rfl
theorem rv_79_2 (w : HW) : hrv w 79 2 = 81 := rfl
theorem rv_79_3 (w : HW) : hrv w 79 3 = 82 := rfl
theorem rv_79_4 (w : HW) : hrv w 79 4 = 83 := rfl
theorem rv_79_6 (w : HW) : hrv w 79 6 = 84 := rfl
theorem rv_79_14 (w : HW) : hrv w 79 14 = 85 := rfl
theorem rv_79_15 (w : HW) : hrv w 79 15 = 86 := rfl
theorem rv_79_16 (w : HW) : hrv w 79 16 = 87 := rfl
theorem rv_79_17 (w : HW) : hrv w 79 17 = 88 := rfl
theorem rv_79_18 (w : HW) : hrv w 79 18 = 89 := rfl
theorem rv_79_19 (w : HW) : hrv w 79 19 = 90 := rfl
theorem rv_79_23 (w : HW) : hrv w 79 23 = 91 := rfl
theorem rv_79_24 (w : HW) : hrv w 79 24 = 92 := rfl
theorem rv_79_25 (w : HW) : hrv w 79 25 = 93 := rfl
theorem rv_79_26 (w : HW) : hrv w 79 26 = 94 := rfl
theorem rv_79_31 (w : HW) : hrv w 79 31 = 95 := rfl
theorem rv_79_34 (w : HW) : hrv w 79 34 = 96 := rfl
theorem rv_79_37 (w : HW) : hrv w 79 37 = 97 := rfl
theorem rv_79_38 (w : HW) : hrv w 79 38 = 98 := rfl
theorem rv_79_39 (w : HW) : hrv w 79 39 = 99 := rfl
theorem rv_79_40 (w : HW) : hrv w 79 40 = 100 := rfl
theorem rv_79_41 (w : HW) : hrv w 79 41 = 101 := rfl
theorem ic_m1 : Int32.ofInt (-1) = (-1) := by decide
theorem ic_0 : Int32.ofInt 0 = 0 := by decide
theorem ic_1 : Int32.ofInt 1 = 1 := by decide
theorem ic_2 : Int32.ofInt 2 = 2 := by decide
theorem ic_3 : Int32.ofInt 3 = 3 := by decide
theorem ic_4 : Int32.ofInt 4 = 4 := by decide
theorem ic_5 : Int32.ofInt 5 = 5 := by decide
theorem iv_m8 (x : Int32) : x + Int32.ofInt (-8) = x + (-8) := by rw [show Int32.ofInt (-8) = (-8) by decide]
theorem iv_m1 (x : Int32) : x + Int32.ofInt (-1) = x + (-1) := by rw [show Int32.ofInt (-1) = (-1) by decide]
theorem iv_1 (x : Int32) : x + Int32.ofInt 1 = x + 1 := by rw [show Int32.ofInt 1 = 1 by decide]
theorem iv_2 (x : Int32) : x + Int32.ofInt 2 = x + 2 := by rw [show Int32.ofInt 2 = 2 by decide]
theorem bp_m8 : (Int8.ofInt (-8)).toInt32 = (-8) := by decide
theorem bp_m7 : (Int8.ofInt (-7)).toInt32 = (-7) := by decide
theorem bp_m6 : (Int8.ofInt (-6)).toInt32 = (-6) := by decide
theorem bp_m5 : (Int8.ofInt (-5)).toInt32 = (-5) := by decide
theorem bp_m4 : (Int8.ofInt (-4)).toInt32 = (-4) := by decide
theorem bp_m3 : (Int8.ofInt (-3)).toInt32 = (-3) := by decide
theorem bp_m2 : (Int8.ofInt (-2)).toInt32 = (-2) := by decide
theorem bp_6 : (Int8.ofInt 6).toInt32 = 6 := by decide
theorem bp_7 : (Int8.ofInt 7).toInt32 = 7 := by decide
theorem bp_8 : (Int8.ofInt 8).toInt32 = 8 := by decide
theorem bp_9 : (Int8.ofInt 9).toInt32 = 9 := by decide
theorem bp_10 : (Int8.ofInt 10).toInt32 = 10 := by decide
theorem bp_14 : (Int8.ofInt 14).toInt32 = 14 := by decide
theorem bp_15 : (Int8.ofInt 15).toInt32 = 15 := by decide
theorem bp_16 : (Int8.ofInt 16).toInt32 = 16 := by decide
theorem bp_20 : (Int8.ofInt 20).toInt32 = 20 := by decide
theorem bp_24 : (Int8.ofInt 24).toInt32 = 24 := by decide
theorem bp_32 : (Int8.ofInt 32).toInt32 = 32 := by decide
theorem bp_33 : (Int8.ofInt 33).toInt32 = 33 := by decide
theorem bp_48 : (Int8.ofInt 48).toInt32 = 48 := by decide
theorem bp_57 : (Int8.ofInt 57).toInt32 = 57 := by decide
theorem bp_59 : (Int8.ofInt 59).toInt32 = 59 := by decide
theorem bp_60 : (Int8.ofInt 60).toInt32 = 60 := by decide
theorem bp_63 : (Int8.ofInt 63).toInt32 = 63 := by decide
theorem bp_64 : (Int8.ofInt 64).toInt32 = 64 := by decide
theorem bp_77 : (Int8.ofInt 77).toInt32 = 77 := by decide
theorem bp_97 : (Int8.ofInt 97).toInt32 = 97 := by decide
theorem bp_99 : (Int8.ofInt 99).toInt32 = 99 := by decide
theorem bp_100 : (Int8.ofInt 100).toInt32 = 100 := by decide
theorem bp_122 : (Int8.ofInt 122).toInt32 = 122 := by decide
theorem sp_255 : (Int16.ofInt 255).toInt32 = 255 := by decide
theorem sp_256 : (Int16.ofInt 256).toInt32 = 256 := by decide
theorem sp_780 : (Int16.ofInt 780).toInt32 = 780 := by decide
theorem sp_800 : (Int16.ofInt 800).toInt32 = 800 := by decide
theorem sp_1000 : (Int16.ofInt 1000).toInt32 = 1000 := by decide
theorem sp_16383 : (Int16.ofInt 16383).toInt32 = 16383 := by decide
theorem sp_16384 : (Int16.ofInt 16384).toInt32 = 16384 := by decide
theorem lc_0 : Int64.ofNat ((0 : Fin 2) : Nat) = 0 := by decide
theorem lc_1 : Int64.ofNat ((1 : Fin 2) : Nat) = 1 := by decide
theorem tab_out3 {x : Int32} (h0 : ¬ x = 0) (h1 : ¬ x = 1) (h2 : ¬ x = 2) : x.toInt < 0 ∨ 2 < x.toInt := by
  have a0 : x.toInt ≠ 0 := fun h => h0 (Int32.toInt_inj.mp (h.trans (by decide)))
  have a1 : x.toInt ≠ 1 := fun h => h1 (Int32.toInt_inj.mp (h.trans (by decide)))
  have a2 : x.toInt ≠ 2 := fun h => h2 (Int32.toInt_inj.mp (h.trans (by decide)))
  omega
theorem tab_out10 {x : Int32} (h0 : ¬ x = 0) (h1 : ¬ x = 1) (h2 : ¬ x = 2) (h3 : ¬ x = 3) (h4 : ¬ x = 4) (h5 : ¬ x = 5) (h6 : ¬ x = 6) (h7 : ¬ x = 7) (h8 : ¬ x = 8) (h9 : ¬ x = 9) : x.toInt < 0 ∨ 9 < x.toInt := by
  have a0 : x.toInt ≠ 0 := fun h => h0 (Int32.toInt_inj.mp (h.trans (by decide)))
  have a1 : x.toInt ≠ 1 := fun h => h1 (Int32.toInt_inj.mp (h.trans (by decide)))
  have a2 : x.toInt ≠ 2 := fun h => h2 (Int32.toInt_inj.mp (h.trans (by decide)))
  have a3 : x.toInt ≠ 3 := fun h => h3 (Int32.toInt_inj.mp (h.trans (by decide)))
  have a4 : x.toInt ≠ 4 := fun h => h4 (Int32.toInt_inj.mp (h.trans (by decide)))
  have a5 : x.toInt ≠ 5 := fun h => h5 (Int32.toInt_inj.mp (h.trans (by decide)))
  have a6 : x.toInt ≠ 6 := fun h => h6 (Int32.toInt_inj.mp (h.trans (by decide)))
  have a7 : x.toInt ≠ 7 := fun h => h7 (Int32.toInt_inj.mp (h.trans (by decide)))
  have a8 : x.toInt ≠ 8 := fun h => h8 (Int32.toInt_inj.mp (h.trans (by decide)))
  have a9 : x.toInt ≠ 9 := fun h => h9 (Int32.toInt_inj.mp (h.trans (by decide)))
  omega
theorem inWS0 : ∀ w ∈ u_ws RX0 TX0 17, w ∈ hWS := hWS_all [273, 275, 277, 279, 281, 283, 285, 287, 289, 291, 293, 295, 297, 299, 301, 303, 305] (by decide +kernel) (by decide +kernel)
theorem inWS1 : ∀ w ∈ u_ws RX1 TX1 1, w ∈ hWS := hWS_all [151] (by decide +kernel) (by decide +kernel)
theorem inWS2 : ∀ w ∈ u_ws RX2 TX2 7, w ∈ hWS := hWS_all [173, 175, 177, 179, 181, 183, 185] (by decide +kernel) (by decide +kernel)
theorem inWS3 : ∀ w ∈ u_ws RX3 TX3 8, w ∈ hWS := hWS_all [127, 129, 131, 133, 135, 137, 139, 141] (by decide +kernel) (by decide +kernel)
theorem inWS4 : ∀ w ∈ u_ws RX4 TX4 8, w ∈ hWS := hWS_all [60, 62, 64, 66, 68, 70, 72, 74] (by decide +kernel) (by decide +kernel)
theorem inWS5 : ∀ w ∈ u_ws RX5 TX5 3, w ∈ hWS := hWS_all [324, 326, 328] (by decide +kernel) (by decide +kernel)
theorem inWS6 : ∀ w ∈ u_ws RX6 TX6 8, w ∈ hWS := hWS_all [95, 97, 99, 101, 103, 105, 107, 109] (by decide +kernel) (by decide +kernel)
theorem inWS7 : ∀ w ∈ u_ws RX7 TX7 1, w ∈ hWS := hWS_all [195] (by decide +kernel) (by decide +kernel)
theorem inWS8 : ∀ w ∈ u_ws RX8 TX8 2, w ∈ hWS := hWS_all [38, 40] (by decide +kernel) (by decide +kernel)
theorem inWS9 : ∀ w ∈ u_ws RX9 TX9 12, w ∈ hWS := hWS_all [344, 346, 348, 350, 352, 354, 356, 358, 360, 362, 364, 366] (by decide +kernel) (by decide +kernel)
theorem inWS10 : ∀ w ∈ u_ws RX10 TX10 42, w ∈ hWS := hWS_all [1258, 1260, 1262, 1264, 1266, 1268, 1270, 1272, 1274, 1276, 1278, 1280, 1282, 1284, 1286, 1288, 1290, 1292, 1294, 1296, 1298, 1300, 1302, 1304, 1306, 1308, 1310, 1312, 1314, 1316, 1318, 1320, 1322, 1324, 1326, 1328, 1330, 1332, 1334, 1336, 1338, 1340] (by decide +kernel) (by decide +kernel)
theorem fo_0_0 : hFO 0 0 0 "lines" "I" false .int := ⟨rfl, rfl, by decide, by decide, fun q hq => by
  obtain rfl := Option.some.inj (hq.symm.trans (rfl : vwCl[0]? = some (RX0, TX0, 17)))
  exact ⟨rfl, by decide, inWS0, ⟨tyX0, tyX0_ok, rfl⟩, nmX0⟩⟩
theorem fo_0_1 : hFO 0 1 0 "days" "I" false .int := ⟨rfl, rfl, by decide, by decide, fun q hq => by
  obtain rfl := Option.some.inj (hq.symm.trans (rfl : vwCl[0]? = some (RX0, TX0, 17)))
  exact ⟨rfl, by decide, inWS0, ⟨tyX0, tyX0_ok, rfl⟩, nmX0⟩⟩
theorem fo_0_2 : hFO 0 2 0 "hungerTold" "I" false .int := ⟨rfl, rfl, by decide, by decide, fun q hq => by
  obtain rfl := Option.some.inj (hq.symm.trans (rfl : vwCl[0]? = some (RX0, TX0, 17)))
  exact ⟨rfl, by decide, inWS0, ⟨tyX0, tyX0_ok, rfl⟩, nmX0⟩⟩
theorem fo_0_3 : hFO 0 3 0 "greed" "I" false .int := ⟨rfl, rfl, by decide, by decide, fun q hq => by
  obtain rfl := Option.some.inj (hq.symm.trans (rfl : vwCl[0]? = some (RX0, TX0, 17)))
  exact ⟨rfl, by decide, inWS0, ⟨tyX0, tyX0_ok, rfl⟩, nmX0⟩⟩
theorem fo_0_4 : hFO 0 4 0 "odds" "I" false .int := ⟨rfl, rfl, by decide, by decide, fun q hq => by
  obtain rfl := Option.some.inj (hq.symm.trans (rfl : vwCl[0]? = some (RX0, TX0, 17)))
  exact ⟨rfl, by decide, inWS0, ⟨tyX0, tyX0_ok, rfl⟩, nmX0⟩⟩
theorem fo_0_5 : hFO 0 5 0 "marked" "I" false .int := ⟨rfl, rfl, by decide, by decide, fun q hq => by
  obtain rfl := Option.some.inj (hq.symm.trans (rfl : vwCl[0]? = some (RX0, TX0, 17)))
  exact ⟨rfl, by decide, inWS0, ⟨tyX0, tyX0_ok, rfl⟩, nmX0⟩⟩
theorem fo_0_6 : hFO 0 6 0 "augurs" "I" false .int := ⟨rfl, rfl, by decide, by decide, fun q hq => by
  obtain rfl := Option.some.inj (hq.symm.trans (rfl : vwCl[0]? = some (RX0, TX0, 17)))
  exact ⟨rfl, by decide, inWS0, ⟨tyX0, tyX0_ok, rfl⟩, nmX0⟩⟩
theorem fo_0_7 : hFO 0 7 2 "augurSide" "[I" true (.array .int) := ⟨rfl, rfl, by decide, by decide, fun q hq => by
  obtain rfl := Option.some.inj (hq.symm.trans (rfl : vwCl[0]? = some (RX0, TX0, 17)))
  exact ⟨rfl, by decide, inWS0, ⟨tyX0, tyX0_ok, rfl⟩, nmX0⟩⟩
theorem fo_0_8 : hFO 0 8 2 "augurFirst" "[I" true (.array .int) := ⟨rfl, rfl, by decide, by decide, fun q hq => by
  obtain rfl := Option.some.inj (hq.symm.trans (rfl : vwCl[0]? = some (RX0, TX0, 17)))
  exact ⟨rfl, by decide, inWS0, ⟨tyX0, tyX0_ok, rfl⟩, nmX0⟩⟩
theorem fo_0_9 : hFO 0 9 2 "augurLast" "[I" true (.array .int) := ⟨rfl, rfl, by decide, by decide, fun q hq => by
  obtain rfl := Option.some.inj (hq.symm.trans (rfl : vwCl[0]? = some (RX0, TX0, 17)))
  exact ⟨rfl, by decide, inWS0, ⟨tyX0, tyX0_ok, rfl⟩, nmX0⟩⟩
theorem fo_0_10 : hFO 0 10 0 "bills" "I" false .int := ⟨rfl, rfl, by decide, by decide, fun q hq => by
  obtain rfl := Option.some.inj (hq.symm.trans (rfl : vwCl[0]? = some (RX0, TX0, 17)))
  exact ⟨rfl, by decide, inWS0, ⟨tyX0, tyX0_ok, rfl⟩, nmX0⟩⟩
theorem fo_0_11 : hFO 0 11 2 "billSide" "[I" true (.array .int) := ⟨rfl, rfl, by decide, by decide, fun q hq => by
  obtain rfl := Option.some.inj (hq.symm.trans (rfl : vwCl[0]? = some (RX0, TX0, 17)))
  exact ⟨rfl, by decide, inWS0, ⟨tyX0, tyX0_ok, rfl⟩, nmX0⟩⟩
theorem fo_0_12 : hFO 0 12 2 "billWorth" "[I" true (.array .int) := ⟨rfl, rfl, by decide, by decide, fun q hq => by
  obtain rfl := Option.some.inj (hq.symm.trans (rfl : vwCl[0]? = some (RX0, TX0, 17)))
  exact ⟨rfl, by decide, inWS0, ⟨tyX0, tyX0_ok, rfl⟩, nmX0⟩⟩
theorem fo_0_13 : hFO 0 13 2 "billAfter" "[I" true (.array .int) := ⟨rfl, rfl, by decide, by decide, fun q hq => by
  obtain rfl := Option.some.inj (hq.symm.trans (rfl : vwCl[0]? = some (RX0, TX0, 17)))
  exact ⟨rfl, by decide, inWS0, ⟨tyX0, tyX0_ok, rfl⟩, nmX0⟩⟩
theorem fo_0_14 : hFO 0 14 0 "acts" "I" false .int := ⟨rfl, rfl, by decide, by decide, fun q hq => by
  obtain rfl := Option.some.inj (hq.symm.trans (rfl : vwCl[0]? = some (RX0, TX0, 17)))
  exact ⟨rfl, by decide, inWS0, ⟨tyX0, tyX0_ok, rfl⟩, nmX0⟩⟩
theorem fo_0_15 : hFO 0 15 2 "actDay" "[I" true (.array .int) := ⟨rfl, rfl, by decide, by decide, fun q hq => by
  obtain rfl := Option.some.inj (hq.symm.trans (rfl : vwCl[0]? = some (RX0, TX0, 17)))
  exact ⟨rfl, by decide, inWS0, ⟨tyX0, tyX0_ok, rfl⟩, nmX0⟩⟩
theorem fo_0_16 : hFO 0 16 2 "actBill" "[I" true (.array .int) := ⟨rfl, rfl, by decide, by decide, fun q hq => by
  obtain rfl := Option.some.inj (hq.symm.trans (rfl : vwCl[0]? = some (RX0, TX0, 17)))
  exact ⟨rfl, by decide, inWS0, ⟨tyX0, tyX0_ok, rfl⟩, nmX0⟩⟩
theorem fo_1_0 : hFO 1 0 2 "cost" "[I" true (.array .int) := ⟨rfl, rfl, by decide, by decide, fun q hq => by
  obtain rfl := Option.some.inj (hq.symm.trans (rfl : vwCl[1]? = some (RX1, TX1, 1)))
  exact ⟨rfl, by decide, inWS1, ⟨tyX1, tyX1_ok, rfl⟩, nmX1⟩⟩
theorem fo_2_0 : hFO 2 0 0 "pairs" "I" false .int := ⟨rfl, rfl, by decide, by decide, fun q hq => by
  obtain rfl := Option.some.inj (hq.symm.trans (rfl : vwCl[2]? = some (RX2, TX2, 7)))
  exact ⟨rfl, by decide, inWS2, ⟨tyX2, tyX2_ok, rfl⟩, nmX2⟩⟩
theorem fo_2_1 : hFO 2 1 0 "fedDays" "I" false .int := ⟨rfl, rfl, by decide, by decide, fun q hq => by
  obtain rfl := Option.some.inj (hq.symm.trans (rfl : vwCl[2]? = some (RX2, TX2, 7)))
  exact ⟨rfl, by decide, inWS2, ⟨tyX2, tyX2_ok, rfl⟩, nmX2⟩⟩
theorem fo_2_2 : hFO 2 2 0 "perhapsUnfed" "I" false .int := ⟨rfl, rfl, by decide, by decide, fun q hq => by
  obtain rfl := Option.some.inj (hq.symm.trans (rfl : vwCl[2]? = some (RX2, TX2, 7)))
  exact ⟨rfl, by decide, inWS2, ⟨tyX2, tyX2_ok, rfl⟩, nmX2⟩⟩
theorem fo_2_3 : hFO 2 3 0 "leastHunger" "I" false .int := ⟨rfl, rfl, by decide, by decide, fun q hq => by
  obtain rfl := Option.some.inj (hq.symm.trans (rfl : vwCl[2]? = some (RX2, TX2, 7)))
  exact ⟨rfl, by decide, inWS2, ⟨tyX2, tyX2_ok, rfl⟩, nmX2⟩⟩
theorem fo_2_4 : hFO 2 4 2 "eatingOn" "[I" true (.array .int) := ⟨rfl, rfl, by decide, by decide, fun q hq => by
  obtain rfl := Option.some.inj (hq.symm.trans (rfl : vwCl[2]? = some (RX2, TX2, 7)))
  exact ⟨rfl, by decide, inWS2, ⟨tyX2, tyX2_ok, rfl⟩, nmX2⟩⟩
theorem fo_2_5 : hFO 2 5 0 "seenEating" "I" false .int := ⟨rfl, rfl, by decide, by decide, fun q hq => by
  obtain rfl := Option.some.inj (hq.symm.trans (rfl : vwCl[2]? = some (RX2, TX2, 7)))
  exact ⟨rfl, by decide, inWS2, ⟨tyX2, tyX2_ok, rfl⟩, nmX2⟩⟩
theorem fo_2_6 : hFO 2 6 0 "seenFasting" "I" false .int := ⟨rfl, rfl, by decide, by decide, fun q hq => by
  obtain rfl := Option.some.inj (hq.symm.trans (rfl : vwCl[2]? = some (RX2, TX2, 7)))
  exact ⟨rfl, by decide, inWS2, ⟨tyX2, tyX2_ok, rfl⟩, nmX2⟩⟩
theorem fo_3_0 : hFO 3 0 2 "most" "[I" true (.array .int) := ⟨rfl, rfl, by decide, by decide, fun q hq => by
  obtain rfl := Option.some.inj (hq.symm.trans (rfl : vwCl[3]? = some (RX3, TX3, 8)))
  exact ⟨rfl, by decide, inWS3, ⟨tyX3, tyX3_ok, rfl⟩, nmX3⟩⟩
theorem fo_3_1 : hFO 3 1 2 "ways" "[I" true (.array .int) := ⟨rfl, rfl, by decide, by decide, fun q hq => by
  obtain rfl := Option.some.inj (hq.symm.trans (rfl : vwCl[3]? = some (RX3, TX3, 8)))
  exact ⟨rfl, by decide, inWS3, ⟨tyX3, tyX3_ok, rfl⟩, nmX3⟩⟩
theorem fo_3_2 : hFO 3 2 2 "weight" "[I" true (.array .int) := ⟨rfl, rfl, by decide, by decide, fun q hq => by
  obtain rfl := Option.some.inj (hq.symm.trans (rfl : vwCl[3]? = some (RX3, TX3, 8)))
  exact ⟨rfl, by decide, inWS3, ⟨tyX3, tyX3_ok, rfl⟩, nmX3⟩⟩
theorem fo_3_3 : hFO 3 3 2 "ahead" "[I" true (.array .int) := ⟨rfl, rfl, by decide, by decide, fun q hq => by
  obtain rfl := Option.some.inj (hq.symm.trans (rfl : vwCl[3]? = some (RX3, TX3, 8)))
  exact ⟨rfl, by decide, inWS3, ⟨tyX3, tyX3_ok, rfl⟩, nmX3⟩⟩
theorem fo_3_4 : hFO 3 4 2 "openOn" "[I" true (.array .int) := ⟨rfl, rfl, by decide, by decide, fun q hq => by
  obtain rfl := Option.some.inj (hq.symm.trans (rfl : vwCl[3]? = some (RX3, TX3, 8)))
  exact ⟨rfl, by decide, inWS3, ⟨tyX3, tyX3_ok, rfl⟩, nmX3⟩⟩
theorem fo_3_5 : hFO 3 5 0 "from" "I" false .int := ⟨rfl, rfl, by decide, by decide, fun q hq => by
  obtain rfl := Option.some.inj (hq.symm.trans (rfl : vwCl[3]? = some (RX3, TX3, 8)))
  exact ⟨rfl, by decide, inWS3, ⟨tyX3, tyX3_ok, rfl⟩, nmX3⟩⟩
theorem fo_3_6 : hFO 3 6 0 "days" "I" false .int := ⟨rfl, rfl, by decide, by decide, fun q hq => by
  obtain rfl := Option.some.inj (hq.symm.trans (rfl : vwCl[3]? = some (RX3, TX3, 8)))
  exact ⟨rfl, by decide, inWS3, ⟨tyX3, tyX3_ok, rfl⟩, nmX3⟩⟩
theorem fo_3_7 : hFO 3 7 0 "pause" "I" false .int := ⟨rfl, rfl, by decide, by decide, fun q hq => by
  obtain rfl := Option.some.inj (hq.symm.trans (rfl : vwCl[3]? = some (RX3, TX3, 8)))
  exact ⟨rfl, by decide, inWS3, ⟨tyX3, tyX3_ok, rfl⟩, nmX3⟩⟩
theorem fo_4_0 : hFO 4 0 0 "faultKind" "I" false .int := ⟨rfl, rfl, by decide, by decide, fun q hq => by
  obtain rfl := Option.some.inj (hq.symm.trans (rfl : vwCl[4]? = some (RX4, TX4, 8)))
  exact ⟨rfl, by decide, inWS4, ⟨tyX4, tyX4_ok, rfl⟩, nmX4⟩⟩
theorem fo_4_1 : hFO 4 1 0 "faultPlace" "I" false .int := ⟨rfl, rfl, by decide, by decide, fun q hq => by
  obtain rfl := Option.some.inj (hq.symm.trans (rfl : vwCl[4]? = some (RX4, TX4, 8)))
  exact ⟨rfl, by decide, inWS4, ⟨tyX4, tyX4_ok, rfl⟩, nmX4⟩⟩
theorem fo_4_2 : hFO 4 2 2 "tape" "LSacredHens$Tape;" false (.object "SacredHens$Tape") := ⟨rfl, rfl, by decide, by decide, fun q hq => by
  obtain rfl := Option.some.inj (hq.symm.trans (rfl : vwCl[4]? = some (RX4, TX4, 8)))
  exact ⟨rfl, by decide, inWS4, ⟨tyX4, tyX4_ok, rfl⟩, nmX4⟩⟩
theorem fo_4_3 : hFO 4 3 2 "camp" "LSacredHens$Camp;" false (.object "SacredHens$Camp") := ⟨rfl, rfl, by decide, by decide, fun q hq => by
  obtain rfl := Option.some.inj (hq.symm.trans (rfl : vwCl[4]? = some (RX4, TX4, 8)))
  exact ⟨rfl, by decide, inWS4, ⟨tyX4, tyX4_ok, rfl⟩, nmX4⟩⟩
theorem fo_4_4 : hFO 4 4 0 "kind" "I" false .int := ⟨rfl, rfl, by decide, by decide, fun q hq => by
  obtain rfl := Option.some.inj (hq.symm.trans (rfl : vwCl[4]? = some (RX4, TX4, 8)))
  exact ⟨rfl, by decide, inWS4, ⟨tyX4, tyX4_ok, rfl⟩, nmX4⟩⟩
theorem fo_4_5 : hFO 4 5 0 "start" "I" false .int := ⟨rfl, rfl, by decide, by decide, fun q hq => by
  obtain rfl := Option.some.inj (hq.symm.trans (rfl : vwCl[4]? = some (RX4, TX4, 8)))
  exact ⟨rfl, by decide, inWS4, ⟨tyX4, tyX4_ok, rfl⟩, nmX4⟩⟩
theorem fo_4_6 : hFO 4 6 0 "stop" "I" false .int := ⟨rfl, rfl, by decide, by decide, fun q hq => by
  obtain rfl := Option.some.inj (hq.symm.trans (rfl : vwCl[4]? = some (RX4, TX4, 8)))
  exact ⟨rfl, by decide, inWS4, ⟨tyX4, tyX4_ok, rfl⟩, nmX4⟩⟩
theorem fo_4_7 : hFO 4 7 0 "number" "I" false .int := ⟨rfl, rfl, by decide, by decide, fun q hq => by
  obtain rfl := Option.some.inj (hq.symm.trans (rfl : vwCl[4]? = some (RX4, TX4, 8)))
  exact ⟨rfl, by decide, inWS4, ⟨tyX4, tyX4_ok, rfl⟩, nmX4⟩⟩
theorem fo_5_0 : hFO 5 0 2 "numbers" "[J" true (.array .long) := ⟨rfl, rfl, by decide, by decide, fun q hq => by
  obtain rfl := Option.some.inj (hq.symm.trans (rfl : vwCl[5]? = some (RX5, TX5, 3)))
  exact ⟨rfl, by decide, inWS5, ⟨tyX5, tyX5_ok, rfl⟩, nmX5⟩⟩
theorem fo_5_1 : hFO 5 1 0 "width" "I" false .int := ⟨rfl, rfl, by decide, by decide, fun q hq => by
  obtain rfl := Option.some.inj (hq.symm.trans (rfl : vwCl[5]? = some (RX5, TX5, 3)))
  exact ⟨rfl, by decide, inWS5, ⟨tyX5, tyX5_ok, rfl⟩, nmX5⟩⟩
theorem fo_5_2 : hFO 5 2 0 "size" "I" false .int := ⟨rfl, rfl, by decide, by decide, fun q hq => by
  obtain rfl := Option.some.inj (hq.symm.trans (rfl : vwCl[5]? = some (RX5, TX5, 3)))
  exact ⟨rfl, by decide, inWS5, ⟨tyX5, tyX5_ok, rfl⟩, nmX5⟩⟩
theorem fo_6_0 : hFO 6 0 2 "hungerOn" "[I" true (.array .int) := ⟨rfl, rfl, by decide, by decide, fun q hq => by
  obtain rfl := Option.some.inj (hq.symm.trans (rfl : vwCl[6]? = some (RX6, TX6, 8)))
  exact ⟨rfl, by decide, inWS6, ⟨tyX6, tyX6_ok, rfl⟩, nmX6⟩⟩
theorem fo_6_1 : hFO 6 1 2 "askDay" "[I" true (.array .int) := ⟨rfl, rfl, by decide, by decide, fun q hq => by
  obtain rfl := Option.some.inj (hq.symm.trans (rfl : vwCl[6]? = some (RX6, TX6, 8)))
  exact ⟨rfl, by decide, inWS6, ⟨tyX6, tyX6_ok, rfl⟩, nmX6⟩⟩
theorem fo_6_2 : hFO 6 2 2 "passDay" "[I" true (.array .int) := ⟨rfl, rfl, by decide, by decide, fun q hq => by
  obtain rfl := Option.some.inj (hq.symm.trans (rfl : vwCl[6]? = some (RX6, TX6, 8)))
  exact ⟨rfl, by decide, inWS6, ⟨tyX6, tyX6_ok, rfl⟩, nmX6⟩⟩
theorem fo_6_3 : hFO 6 3 2 "reason" "[I" true (.array .int) := ⟨rfl, rfl, by decide, by decide, fun q hq => by
  obtain rfl := Option.some.inj (hq.symm.trans (rfl : vwCl[6]? = some (RX6, TX6, 8)))
  exact ⟨rfl, by decide, inWS6, ⟨tyX6, tyX6_ok, rfl⟩, nmX6⟩⟩
theorem fo_6_4 : hFO 6 4 0 "draws" "I" false .int := ⟨rfl, rfl, by decide, by decide, fun q hq => by
  obtain rfl := Option.some.inj (hq.symm.trans (rfl : vwCl[6]? = some (RX6, TX6, 8)))
  exact ⟨rfl, by decide, inWS6, ⟨tyX6, tyX6_ok, rfl⟩, nmX6⟩⟩
theorem fo_6_5 : hFO 6 5 2 "doneOn" "[I" true (.array .int) := ⟨rfl, rfl, by decide, by decide, fun q hq => by
  obtain rfl := Option.some.inj (hq.symm.trans (rfl : vwCl[6]? = some (RX6, TX6, 8)))
  exact ⟨rfl, by decide, inWS6, ⟨tyX6, tyX6_ok, rfl⟩, nmX6⟩⟩
theorem fo_6_6 : hFO 6 6 2 "clearOf" "[I" true (.array .int) := ⟨rfl, rfl, by decide, by decide, fun q hq => by
  obtain rfl := Option.some.inj (hq.symm.trans (rfl : vwCl[6]? = some (RX6, TX6, 8)))
  exact ⟨rfl, by decide, inWS6, ⟨tyX6, tyX6_ok, rfl⟩, nmX6⟩⟩
theorem fo_6_7 : hFO 6 7 1 "drawState" "J" false .long := ⟨rfl, rfl, by decide, by decide, fun q hq => by
  obtain rfl := Option.some.inj (hq.symm.trans (rfl : vwCl[6]? = some (RX6, TX6, 8)))
  exact ⟨rfl, by decide, inWS6, ⟨tyX6, tyX6_ok, rfl⟩, nmX6⟩⟩
theorem fo_7_0 : hFO 7 0 2 "counts" "[I" true (.array .int) := ⟨rfl, rfl, by decide, by decide, fun q hq => by
  obtain rfl := Option.some.inj (hq.symm.trans (rfl : vwCl[7]? = some (RX7, TX7, 1)))
  exact ⟨rfl, by decide, inWS7, ⟨tyX7, tyX7_ok, rfl⟩, nmX7⟩⟩
theorem fo_8_0 : hFO 8 0 2 "bytes" "[B" true (.array .byte) := ⟨rfl, rfl, by decide, by decide, fun q hq => by
  obtain rfl := Option.some.inj (hq.symm.trans (rfl : vwCl[8]? = some (RX8, TX8, 2)))
  exact ⟨rfl, by decide, inWS8, ⟨tyX8, tyX8_ok, rfl⟩, nmX8⟩⟩
theorem fo_8_1 : hFO 8 1 0 "length" "I" false .int := ⟨rfl, rfl, by decide, by decide, fun q hq => by
  obtain rfl := Option.some.inj (hq.symm.trans (rfl : vwCl[8]? = some (RX8, TX8, 2)))
  exact ⟨rfl, by decide, inWS8, ⟨tyX8, tyX8_ok, rfl⟩, nmX8⟩⟩
theorem fo_9_0 : hFO 9 0 2 "tape" "LSacredHens$Tape;" true (.object "SacredHens$Tape") := ⟨rfl, rfl, by decide, by decide, fun q hq => by
  obtain rfl := Option.some.inj (hq.symm.trans (rfl : vwCl[9]? = some (RX9, TX9, 12)))
  exact ⟨rfl, by decide, inWS9, ⟨tyX9, tyX9_ok, rfl⟩, nmX9⟩⟩
theorem fo_9_1 : hFO 9 1 2 "reader" "LSacredHens$Reader;" true (.object "SacredHens$Reader") := ⟨rfl, rfl, by decide, by decide, fun q hq => by
  obtain rfl := Option.some.inj (hq.symm.trans (rfl : vwCl[9]? = some (RX9, TX9, 12)))
  exact ⟨rfl, by decide, inWS9, ⟨tyX9, tyX9_ok, rfl⟩, nmX9⟩⟩
theorem fo_9_2 : hFO 9 2 2 "season" "LSacredHens$Season;" true (.object "SacredHens$Season") := ⟨rfl, rfl, by decide, by decide, fun q hq => by
  obtain rfl := Option.some.inj (hq.symm.trans (rfl : vwCl[9]? = some (RX9, TX9, 12)))
  exact ⟨rfl, by decide, inWS9, ⟨tyX9, tyX9_ok, rfl⟩, nmX9⟩⟩
theorem fo_9_3 : hFO 9 3 2 "planner" "LSacredHens$Planner;" true (.object "SacredHens$Planner") := ⟨rfl, rfl, by decide, by decide, fun q hq => by
  obtain rfl := Option.some.inj (hq.symm.trans (rfl : vwCl[9]? = some (RX9, TX9, 12)))
  exact ⟨rfl, by decide, inWS9, ⟨tyX9, tyX9_ok, rfl⟩, nmX9⟩⟩
theorem fo_9_4 : hFO 9 4 2 "chain" "LSacredHens$Chain;" true (.object "SacredHens$Chain") := ⟨rfl, rfl, by decide, by decide, fun q hq => by
  obtain rfl := Option.some.inj (hq.symm.trans (rfl : vwCl[9]? = some (RX9, TX9, 12)))
  exact ⟨rfl, by decide, inWS9, ⟨tyX9, tyX9_ok, rfl⟩, nmX9⟩⟩
theorem fo_9_5 : hFO 9 5 2 "slots" "[LSacredHens$Row;" true (.array (.object "SacredHens$Row")) := ⟨rfl, rfl, by decide, by decide, fun q hq => by
  obtain rfl := Option.some.inj (hq.symm.trans (rfl : vwCl[9]? = some (RX9, TX9, 12)))
  exact ⟨rfl, by decide, inWS9, ⟨tyX9, tyX9_ok, rfl⟩, nmX9⟩⟩
theorem fo_9_6 : hFO 9 6 2 "hens" "LSacredHens$Hens;" true (.object "SacredHens$Hens") := ⟨rfl, rfl, by decide, by decide, fun q hq => by
  obtain rfl := Option.some.inj (hq.symm.trans (rfl : vwCl[9]? = some (RX9, TX9, 12)))
  exact ⟨rfl, by decide, inWS9, ⟨tyX9, tyX9_ok, rfl⟩, nmX9⟩⟩
theorem fo_9_7 : hFO 9 7 2 "signs" "LSacredHens$SignList;" true (.object "SacredHens$SignList") := ⟨rfl, rfl, by decide, by decide, fun q hq => by
  obtain rfl := Option.some.inj (hq.symm.trans (rfl : vwCl[9]? = some (RX9, TX9, 12)))
  exact ⟨rfl, by decide, inWS9, ⟨tyX9, tyX9_ok, rfl⟩, nmX9⟩⟩
theorem fo_9_8 : hFO 9 8 2 "images" "[LSacredHens$Camp;" true (.array (.object "SacredHens$Camp")) := ⟨rfl, rfl, by decide, by decide, fun q hq => by
  obtain rfl := Option.some.inj (hq.symm.trans (rfl : vwCl[9]? = some (RX9, TX9, 12)))
  exact ⟨rfl, by decide, inWS9, ⟨tyX9, tyX9_ok, rfl⟩, nmX9⟩⟩
theorem fo_9_9 : hFO 9 9 2 "imageKept" "[Z" true (.array .boolean) := ⟨rfl, rfl, by decide, by decide, fun q hq => by
  obtain rfl := Option.some.inj (hq.symm.trans (rfl : vwCl[9]? = some (RX9, TX9, 12)))
  exact ⟨rfl, by decide, inWS9, ⟨tyX9, tyX9_ok, rfl⟩, nmX9⟩⟩
theorem fo_9_10 : hFO 9 10 2 "now" "LSacredHens$Camp;" false (.object "SacredHens$Camp") := ⟨rfl, rfl, by decide, by decide, fun q hq => by
  obtain rfl := Option.some.inj (hq.symm.trans (rfl : vwCl[9]? = some (RX9, TX9, 12)))
  exact ⟨rfl, by decide, inWS9, ⟨tyX9, tyX9_ok, rfl⟩, nmX9⟩⟩
theorem fo_9_11 : hFO 9 11 2 "spare" "LSacredHens$Camp;" false (.object "SacredHens$Camp") := ⟨rfl, rfl, by decide, by decide, fun q hq => by
  obtain rfl := Option.some.inj (hq.symm.trans (rfl : vwCl[9]? = some (RX9, TX9, 12)))
  exact ⟨rfl, by decide, inWS9, ⟨tyX9, tyX9_ok, rfl⟩, nmX9⟩⟩
theorem fo_10_1 : hFO 10 1 2 "world" "[I" true (.array .int) := ⟨rfl, rfl, by decide, by decide, fun q hq => by
  obtain rfl := Option.some.inj (hq.symm.trans (rfl : vwCl[10]? = some (RX10, TX10, 42)))
  exact ⟨rfl, by decide, inWS10, ⟨tyX10, tyX10_ok, rfl⟩, nmX10⟩⟩
theorem fo_10_2 : hFO 10 2 2 "images" "[I" true (.array .int) := ⟨rfl, rfl, by decide, by decide, fun q hq => by
  obtain rfl := Option.some.inj (hq.symm.trans (rfl : vwCl[10]? = some (RX10, TX10, 42)))
  exact ⟨rfl, by decide, inWS10, ⟨tyX10, tyX10_ok, rfl⟩, nmX10⟩⟩
theorem fo_10_3 : hFO 10 3 2 "hasImage" "[Z" true (.array .boolean) := ⟨rfl, rfl, by decide, by decide, fun q hq => by
  obtain rfl := Option.some.inj (hq.symm.trans (rfl : vwCl[10]? = some (RX10, TX10, 42)))
  exact ⟨rfl, by decide, inWS10, ⟨tyX10, tyX10_ok, rfl⟩, nmX10⟩⟩
theorem fo_10_4 : hFO 10 4 2 "tape" "[B" true (.array .byte) := ⟨rfl, rfl, by decide, by decide, fun q hq => by
  obtain rfl := Option.some.inj (hq.symm.trans (rfl : vwCl[10]? = some (RX10, TX10, 42)))
  exact ⟨rfl, by decide, inWS10, ⟨tyX10, tyX10_ok, rfl⟩, nmX10⟩⟩
theorem fo_10_5 : hFO 10 5 0 "taped" "I" false .int := ⟨rfl, rfl, by decide, by decide, fun q hq => by
  obtain rfl := Option.some.inj (hq.symm.trans (rfl : vwCl[10]? = some (RX10, TX10, 42)))
  exact ⟨rfl, by decide, inWS10, ⟨tyX10, tyX10_ok, rfl⟩, nmX10⟩⟩
theorem fo_10_6 : hFO 10 6 2 "five" "[I" true (.array .int) := ⟨rfl, rfl, by decide, by decide, fun q hq => by
  obtain rfl := Option.some.inj (hq.symm.trans (rfl : vwCl[10]? = some (RX10, TX10, 42)))
  exact ⟨rfl, by decide, inWS10, ⟨tyX10, tyX10_ok, rfl⟩, nmX10⟩⟩
theorem fo_10_7 : hFO 10 7 0 "size" "I" false .int := ⟨rfl, rfl, by decide, by decide, fun q hq => by
  obtain rfl := Option.some.inj (hq.symm.trans (rfl : vwCl[10]? = some (RX10, TX10, 42)))
  exact ⟨rfl, by decide, inWS10, ⟨tyX10, tyX10_ok, rfl⟩, nmX10⟩⟩
theorem fo_10_8 : hFO 10 8 0 "at" "I" false .int := ⟨rfl, rfl, by decide, by decide, fun q hq => by
  obtain rfl := Option.some.inj (hq.symm.trans (rfl : vwCl[10]? = some (RX10, TX10, 42)))
  exact ⟨rfl, by decide, inWS10, ⟨tyX10, tyX10_ok, rfl⟩, nmX10⟩⟩
theorem fo_10_9 : hFO 10 9 0 "from" "I" false .int := ⟨rfl, rfl, by decide, by decide, fun q hq => by
  obtain rfl := Option.some.inj (hq.symm.trans (rfl : vwCl[10]? = some (RX10, TX10, 42)))
  exact ⟨rfl, by decide, inWS10, ⟨tyX10, tyX10_ok, rfl⟩, nmX10⟩⟩
theorem fo_10_10 : hFO 10 10 0 "token" "I" false .int := ⟨rfl, rfl, by decide, by decide, fun q hq => by
  obtain rfl := Option.some.inj (hq.symm.trans (rfl : vwCl[10]? = some (RX10, TX10, 42)))
  exact ⟨rfl, by decide, inWS10, ⟨tyX10, tyX10_ok, rfl⟩, nmX10⟩⟩
theorem fo_10_11 : hFO 10 11 0 "value" "I" false .int := ⟨rfl, rfl, by decide, by decide, fun q hq => by
  obtain rfl := Option.some.inj (hq.symm.trans (rfl : vwCl[10]? = some (RX10, TX10, 42)))
  exact ⟨rfl, by decide, inWS10, ⟨tyX10, tyX10_ok, rfl⟩, nmX10⟩⟩
theorem fo_10_12 : hFO 10 12 0 "faultKind" "I" false .int := ⟨rfl, rfl, by decide, by decide, fun q hq => by
  obtain rfl := Option.some.inj (hq.symm.trans (rfl : vwCl[10]? = some (RX10, TX10, 42)))
  exact ⟨rfl, by decide, inWS10, ⟨tyX10, tyX10_ok, rfl⟩, nmX10⟩⟩
theorem fo_10_13 : hFO 10 13 0 "faultPlace" "I" false .int := ⟨rfl, rfl, by decide, by decide, fun q hq => by
  obtain rfl := Option.some.inj (hq.symm.trans (rfl : vwCl[10]? = some (RX10, TX10, 42)))
  exact ⟨rfl, by decide, inWS10, ⟨tyX10, tyX10_ok, rfl⟩, nmX10⟩⟩
theorem fo_10_14 : hFO 10 14 2 "fresh" "[I" true (.array .int) := ⟨rfl, rfl, by decide, by decide, fun q hq => by
  obtain rfl := Option.some.inj (hq.symm.trans (rfl : vwCl[10]? = some (RX10, TX10, 42)))
  exact ⟨rfl, by decide, inWS10, ⟨tyX10, tyX10_ok, rfl⟩, nmX10⟩⟩
theorem fo_10_15 : hFO 10 15 2 "askedOn" "[I" true (.array .int) := ⟨rfl, rfl, by decide, by decide, fun q hq => by
  obtain rfl := Option.some.inj (hq.symm.trans (rfl : vwCl[10]? = some (RX10, TX10, 42)))
  exact ⟨rfl, by decide, inWS10, ⟨tyX10, tyX10_ok, rfl⟩, nmX10⟩⟩
theorem fo_10_16 : hFO 10 16 2 "hungerOn" "[I" true (.array .int) := ⟨rfl, rfl, by decide, by decide, fun q hq => by
  obtain rfl := Option.some.inj (hq.symm.trans (rfl : vwCl[10]? = some (RX10, TX10, 42)))
  exact ⟨rfl, by decide, inWS10, ⟨tyX10, tyX10_ok, rfl⟩, nmX10⟩⟩
theorem fo_10_17 : hFO 10 17 2 "passedOn" "[I" true (.array .int) := ⟨rfl, rfl, by decide, by decide, fun q hq => by
  obtain rfl := Option.some.inj (hq.symm.trans (rfl : vwCl[10]? = some (RX10, TX10, 42)))
  exact ⟨rfl, by decide, inWS10, ⟨tyX10, tyX10_ok, rfl⟩, nmX10⟩⟩
theorem fo_10_18 : hFO 10 18 2 "whenOf" "[I" true (.array .int) := ⟨rfl, rfl, by decide, by decide, fun q hq => by
  obtain rfl := Option.some.inj (hq.symm.trans (rfl : vwCl[10]? = some (RX10, TX10, 42)))
  exact ⟨rfl, by decide, inWS10, ⟨tyX10, tyX10_ok, rfl⟩, nmX10⟩⟩
theorem fo_10_19 : hFO 10 19 2 "dayOf" "[I" true (.array .int) := ⟨rfl, rfl, by decide, by decide, fun q hq => by
  obtain rfl := Option.some.inj (hq.symm.trans (rfl : vwCl[10]? = some (RX10, TX10, 42)))
  exact ⟨rfl, by decide, inWS10, ⟨tyX10, tyX10_ok, rfl⟩, nmX10⟩⟩
theorem fo_10_20 : hFO 10 20 1 "drawX" "J" false .long := ⟨rfl, rfl, by decide, by decide, fun q hq => by
  obtain rfl := Option.some.inj (hq.symm.trans (rfl : vwCl[10]? = some (RX10, TX10, 42)))
  exact ⟨rfl, by decide, inWS10, ⟨tyX10, tyX10_ok, rfl⟩, nmX10⟩⟩
theorem fo_10_21 : hFO 10 21 0 "isDrawn" "Z" false .boolean := ⟨rfl, rfl, by decide, by decide, fun q hq => by
  obtain rfl := Option.some.inj (hq.symm.trans (rfl : vwCl[10]? = some (RX10, TX10, 42)))
  exact ⟨rfl, by decide, inWS10, ⟨tyX10, tyX10_ok, rfl⟩, nmX10⟩⟩
theorem fo_10_22 : hFO 10 22 0 "drawMany" "I" false .int := ⟨rfl, rfl, by decide, by decide, fun q hq => by
  obtain rfl := Option.some.inj (hq.symm.trans (rfl : vwCl[10]? = some (RX10, TX10, 42)))
  exact ⟨rfl, by decide, inWS10, ⟨tyX10, tyX10_ok, rfl⟩, nmX10⟩⟩
theorem fo_10_23 : hFO 10 23 2 "planWorth" "[I" true (.array .int) := ⟨rfl, rfl, by decide, by decide, fun q hq => by
  obtain rfl := Option.some.inj (hq.symm.trans (rfl : vwCl[10]? = some (RX10, TX10, 42)))
  exact ⟨rfl, by decide, inWS10, ⟨tyX10, tyX10_ok, rfl⟩, nmX10⟩⟩
theorem fo_10_24 : hFO 10 24 2 "planWays" "[I" true (.array .int) := ⟨rfl, rfl, by decide, by decide, fun q hq => by
  obtain rfl := Option.some.inj (hq.symm.trans (rfl : vwCl[10]? = some (RX10, TX10, 42)))
  exact ⟨rfl, by decide, inWS10, ⟨tyX10, tyX10_ok, rfl⟩, nmX10⟩⟩
theorem fo_10_25 : hFO 10 25 2 "planMany" "[I" true (.array .int) := ⟨rfl, rfl, by decide, by decide, fun q hq => by
  obtain rfl := Option.some.inj (hq.symm.trans (rfl : vwCl[10]? = some (RX10, TX10, 42)))
  exact ⟨rfl, by decide, inWS10, ⟨tyX10, tyX10_ok, rfl⟩, nmX10⟩⟩
theorem fo_10_26 : hFO 10 26 2 "own" "[I" true (.array .int) := ⟨rfl, rfl, by decide, by decide, fun q hq => by
  obtain rfl := Option.some.inj (hq.symm.trans (rfl : vwCl[10]? = some (RX10, TX10, 42)))
  exact ⟨rfl, by decide, inWS10, ⟨tyX10, tyX10_ok, rfl⟩, nmX10⟩⟩
theorem fo_10_27 : hFO 10 27 0 "owns" "I" false .int := ⟨rfl, rfl, by decide, by decide, fun q hq => by
  obtain rfl := Option.some.inj (hq.symm.trans (rfl : vwCl[10]? = some (RX10, TX10, 42)))
  exact ⟨rfl, by decide, inWS10, ⟨tyX10, tyX10_ok, rfl⟩, nmX10⟩⟩
theorem fo_10_28 : hFO 10 28 0 "watchBesides" "I" false .int := ⟨rfl, rfl, by decide, by decide, fun q hq => by
  obtain rfl := Option.some.inj (hq.symm.trans (rfl : vwCl[10]? = some (RX10, TX10, 42)))
  exact ⟨rfl, by decide, inWS10, ⟨tyX10, tyX10_ok, rfl⟩, nmX10⟩⟩
theorem fo_10_29 : hFO 10 29 0 "withoutAugur" "I" false .int := ⟨rfl, rfl, by decide, by decide, fun q hq => by
  obtain rfl := Option.some.inj (hq.symm.trans (rfl : vwCl[10]? = some (RX10, TX10, 42)))
  exact ⟨rfl, by decide, inWS10, ⟨tyX10, tyX10_ok, rfl⟩, nmX10⟩⟩
theorem fo_10_30 : hFO 10 30 0 "withoutMark" "I" false .int := ⟨rfl, rfl, by decide, by decide, fun q hq => by
  obtain rfl := Option.some.inj (hq.symm.trans (rfl : vwCl[10]? = some (RX10, TX10, 42)))
  exact ⟨rfl, by decide, inWS10, ⟨tyX10, tyX10_ok, rfl⟩, nmX10⟩⟩
theorem fo_10_31 : hFO 10 31 2 "freeOf" "[I" true (.array .int) := ⟨rfl, rfl, by decide, by decide, fun q hq => by
  obtain rfl := Option.some.inj (hq.symm.trans (rfl : vwCl[10]? = some (RX10, TX10, 42)))
  exact ⟨rfl, by decide, inWS10, ⟨tyX10, tyX10_ok, rfl⟩, nmX10⟩⟩
theorem fo_10_32 : hFO 10 32 0 "banned" "I" false .int := ⟨rfl, rfl, by decide, by decide, fun q hq => by
  obtain rfl := Option.some.inj (hq.symm.trans (rfl : vwCl[10]? = some (RX10, TX10, 42)))
  exact ⟨rfl, by decide, inWS10, ⟨tyX10, tyX10_ok, rfl⟩, nmX10⟩⟩
theorem fo_10_33 : hFO 10 33 0 "spoiltWorth" "I" false .int := ⟨rfl, rfl, by decide, by decide, fun q hq => by
  obtain rfl := Option.some.inj (hq.symm.trans (rfl : vwCl[10]? = some (RX10, TX10, 42)))
  exact ⟨rfl, by decide, inWS10, ⟨tyX10, tyX10_ok, rfl⟩, nmX10⟩⟩
theorem fo_10_34 : hFO 10 34 2 "pairs" "[I" true (.array .int) := ⟨rfl, rfl, by decide, by decide, fun q hq => by
  obtain rfl := Option.some.inj (hq.symm.trans (rfl : vwCl[10]? = some (RX10, TX10, 42)))
  exact ⟨rfl, by decide, inWS10, ⟨tyX10, tyX10_ok, rfl⟩, nmX10⟩⟩
theorem fo_10_35 : hFO 10 35 0 "pairMany" "I" false .int := ⟨rfl, rfl, by decide, by decide, fun q hq => by
  obtain rfl := Option.some.inj (hq.symm.trans (rfl : vwCl[10]? = some (RX10, TX10, 42)))
  exact ⟨rfl, by decide, inWS10, ⟨tyX10, tyX10_ok, rfl⟩, nmX10⟩⟩
theorem fo_10_36 : hFO 10 36 0 "askWorst" "I" false .int := ⟨rfl, rfl, by decide, by decide, fun q hq => by
  obtain rfl := Option.some.inj (hq.symm.trans (rfl : vwCl[10]? = some (RX10, TX10, 42)))
  exact ⟨rfl, by decide, inWS10, ⟨tyX10, tyX10_ok, rfl⟩, nmX10⟩⟩
theorem fo_10_37 : hFO 10 37 2 "tallies" "[I" true (.array .int) := ⟨rfl, rfl, by decide, by decide, fun q hq => by
  obtain rfl := Option.some.inj (hq.symm.trans (rfl : vwCl[10]? = some (RX10, TX10, 42)))
  exact ⟨rfl, by decide, inWS10, ⟨tyX10, tyX10_ok, rfl⟩, nmX10⟩⟩
theorem fo_10_38 : hFO 10 38 2 "many" "[I" true (.array .int) := ⟨rfl, rfl, by decide, by decide, fun q hq => by
  obtain rfl := Option.some.inj (hq.symm.trans (rfl : vwCl[10]? = some (RX10, TX10, 42)))
  exact ⟨rfl, by decide, inWS10, ⟨tyX10, tyX10_ok, rfl⟩, nmX10⟩⟩
theorem fo_10_39 : hFO 10 39 2 "width" "[I" true (.array .int) := ⟨rfl, rfl, by decide, by decide, fun q hq => by
  obtain rfl := Option.some.inj (hq.symm.trans (rfl : vwCl[10]? = some (RX10, TX10, 42)))
  exact ⟨rfl, by decide, inWS10, ⟨tyX10, tyX10_ok, rfl⟩, nmX10⟩⟩
theorem fo_10_40 : hFO 10 40 2 "numbers" "[J" true (.array .long) := ⟨rfl, rfl, by decide, by decide, fun q hq => by
  obtain rfl := Option.some.inj (hq.symm.trans (rfl : vwCl[10]? = some (RX10, TX10, 42)))
  exact ⟨rfl, by decide, inWS10, ⟨tyX10, tyX10_ok, rfl⟩, nmX10⟩⟩
theorem fo_10_41 : hFO 10 41 2 "moving" "[J" true (.array .long) := ⟨rfl, rfl, by decide, by decide, fun q hq => by
  obtain rfl := Option.some.inj (hq.symm.trans (rfl : vwCl[10]? = some (RX10, TX10, 42)))
  exact ⟨rfl, by decide, inWS10, ⟨tyX10, tyX10_ok, rfl⟩, nmX10⟩⟩
theorem wd0 : Cond.fieldLink RX8 15 RX8 "length" "I" ∈ hWS := hWS_in (i := 36) (by decide +kernel) (by decide +kernel)
theorem wd1 : Cond.fieldLink RX8 9 RX8 "bytes" "[B" ∈ hWS := hWS_in (i := 33) (by decide +kernel) (by decide +kernel)
theorem wd2 : Cond.fieldLink RX9 10 RX9 "tape" "LSacredHens$Tape;" ∈ hWS := hWS_in (i := 332) (by decide +kernel) (by decide +kernel)
theorem wd3 : Cond.fieldLink RX9 83 RX8 "length" "I" ∈ hWS := hWS_in (i := 35) (by decide +kernel) (by decide +kernel)
theorem wd4 : Cond.methodLink RX9 87 yX8_append ∈ hWS := hWS_in (i := 373) (by decide +kernel) (by decide +kernel)
theorem wd5 : Cond.fieldLink RX0 36 RX0 "lines" "I" ∈ hWS := hWS_in (i := 205) (by decide +kernel) (by decide +kernel)
theorem wd6 : Cond.fieldLink RX0 40 RX0 "days" "I" ∈ hWS := hWS_in (i := 208) (by decide +kernel) (by decide +kernel)
theorem wd7 : Cond.fieldLink RX0 43 RX0 "hungerTold" "I" ∈ hWS := hWS_in (i := 215) (by decide +kernel) (by decide +kernel)
theorem wd8 : Cond.fieldLink RX0 46 RX0 "greed" "I" ∈ hWS := hWS_in (i := 219) (by decide +kernel) (by decide +kernel)
theorem wd9 : Cond.fieldLink RX0 49 RX0 "odds" "I" ∈ hWS := hWS_in (i := 226) (by decide +kernel) (by decide +kernel)
theorem wd10 : Cond.fieldLink RX0 52 RX0 "marked" "I" ∈ hWS := hWS_in (i := 230) (by decide +kernel) (by decide +kernel)
theorem wd11 : Cond.fieldLink RX0 55 RX0 "augurs" "I" ∈ hWS := hWS_in (i := 234) (by decide +kernel) (by decide +kernel)
theorem wd12 : Cond.fieldLink RX0 58 RX0 "bills" "I" ∈ hWS := hWS_in (i := 247) (by decide +kernel) (by decide +kernel)
theorem wd13 : Cond.fieldLink RX0 61 RX0 "acts" "I" ∈ hWS := hWS_in (i := 266) (by decide +kernel) (by decide +kernel)
theorem wd14 : Cond.fieldLink RX4 15 RX4 "tape" "LSacredHens$Tape;" ∈ hWS := hWS_in (i := 54) (by decide +kernel) (by decide +kernel)
theorem wd15 : Cond.fieldLink RX4 159 RX8 "length" "I" ∈ hWS := hWS_in (i := 37) (by decide +kernel) (by decide +kernel)
theorem wd16 : Cond.fieldLink RX4 171 RX8 "bytes" "[B" ∈ hWS := hWS_in (i := 34) (by decide +kernel) (by decide +kernel)
theorem wd17 : Cond.fieldLink RX4 31 RX4 "stop" "I" ∈ hWS := hWS_in (i := 58) (by decide +kernel) (by decide +kernel)
theorem wd18 : Cond.fieldLink RX4 142 RX4 "start" "I" ∈ hWS := hWS_in (i := 57) (by decide +kernel) (by decide +kernel)
theorem wd19 : Cond.methodLink RX4 151 yX4_byteAt ∈ hWS := hWS_in (i := 397) (by decide +kernel) (by decide +kernel)
theorem wd20 : Cond.methodLink RX4 163 yX4_kindOf ∈ hWS := hWS_in (i := 401) (by decide +kernel) (by decide +kernel)
theorem wd21 : Cond.fieldLink RX4 37 RX4 "kind" "I" ∈ hWS := hWS_in (i := 56) (by decide +kernel) (by decide +kernel)
theorem wd22 : Cond.fieldLink RX4 139 RX4 "number" "I" ∈ hWS := hWS_in (i := 59) (by decide +kernel) (by decide +kernel)
theorem wd23 : Cond.methodLink RX4 166 Lib.Math.min.name ∈ hWS := hWS_in (i := 404) (by decide +kernel) (by decide +kernel)
theorem wd24 : Cond.methodLink RX4 145 yJ0_length_8abf5 ∈ hWS := hWS_in (i := 424) (by decide +kernel) (by decide +kernel)
theorem wd25 : Cond.methodLink RX4 155 yJ0_charAt_5068e ∈ hWS := hWS_in (i := 434) (by decide +kernel) (by decide +kernel)
theorem wd26 : Cond.fieldLink RX4 28 RX4 "faultKind" "I" ∈ hWS := hWS_in (i := 50) (by decide +kernel) (by decide +kernel)
theorem wd27 : Cond.fieldLink RX4 9 RX4 "faultPlace" "I" ∈ hWS := hWS_in (i := 52) (by decide +kernel) (by decide +kernel)
theorem wd28 : Cond.methodLink RX4 51 yX4_isWord ∈ hWS := hWS_in (i := 420) (by decide +kernel) (by decide +kernel)
theorem wd29 : Cond.methodLink RX4 68 yX4_fail ∈ hWS := hWS_in (i := 472) (by decide +kernel) (by decide +kernel)
theorem wd30 : Cond.methodLink RX4 34 yX4_step ∈ hWS := hWS_in (i := 393) (by decide +kernel) (by decide +kernel)
theorem wd31 : Cond.methodLink RX4 76 yX4_takeWord ∈ hWS := hWS_in (i := 416) (by decide +kernel) (by decide +kernel)
theorem wd32 : Cond.methodLink RX4 82 yX4_takeNumber ∈ hWS := hWS_in (i := 477) (by decide +kernel) (by decide +kernel)
theorem wd33 : Cond.fieldLink RX4 19 RX4 "camp" "LSacredHens$Camp;" ∈ hWS := hWS_in (i := 55) (by decide +kernel) (by decide +kernel)
theorem wd34 : Cond.fieldLink RX4 92 RX0 "days" "I" ∈ hWS := hWS_in (i := 213) (by decide +kernel) (by decide +kernel)
theorem wd35 : Cond.fieldLink RX4 94 RX0 "hungerTold" "I" ∈ hWS := hWS_in (i := 217) (by decide +kernel) (by decide +kernel)
theorem wd36 : Cond.fieldLink RX4 97 RX0 "greed" "I" ∈ hWS := hWS_in (i := 222) (by decide +kernel) (by decide +kernel)
theorem wd37 : Cond.fieldLink RX4 99 RX0 "odds" "I" ∈ hWS := hWS_in (i := 228) (by decide +kernel) (by decide +kernel)
theorem wd38 : Cond.fieldLink RX4 101 RX0 "marked" "I" ∈ hWS := hWS_in (i := 231) (by decide +kernel) (by decide +kernel)
theorem wd39 : Cond.fieldLink RX4 104 RX0 "augurs" "I" ∈ hWS := hWS_in (i := 235) (by decide +kernel) (by decide +kernel)
theorem wd40 : Cond.fieldLink RX4 113 RX0 "augurSide" "[I" ∈ hWS := hWS_in (i := 239) (by decide +kernel) (by decide +kernel)
theorem wd41 : Cond.fieldLink RX4 117 RX0 "augurFirst" "[I" ∈ hWS := hWS_in (i := 242) (by decide +kernel) (by decide +kernel)
theorem wd42 : Cond.fieldLink RX4 120 RX0 "augurLast" "[I" ∈ hWS := hWS_in (i := 245) (by decide +kernel) (by decide +kernel)
theorem wd43 : Cond.fieldLink RX4 123 RX0 "bills" "I" ∈ hWS := hWS_in (i := 248) (by decide +kernel) (by decide +kernel)
theorem wd44 : Cond.fieldLink RX4 130 RX0 "billSide" "[I" ∈ hWS := hWS_in (i := 255) (by decide +kernel) (by decide +kernel)
theorem wd45 : Cond.fieldLink RX4 133 RX0 "billWorth" "[I" ∈ hWS := hWS_in (i := 260) (by decide +kernel) (by decide +kernel)
theorem wd46 : Cond.fieldLink RX4 136 RX0 "billAfter" "[I" ∈ hWS := hWS_in (i := 264) (by decide +kernel) (by decide +kernel)
theorem wd47 : Cond.fieldLink RX4 43 RX0 "lines" "I" ∈ hWS := hWS_in (i := 206) (by decide +kernel) (by decide +kernel)
theorem wd48 : Cond.methodLink RX4 46 yX4_readCamp ∈ hWS := hWS_in (i := 411) (by decide +kernel) (by decide +kernel)
theorem wd49 : Cond.methodLink RX4 72 yX4_takeSign ∈ hWS := hWS_in (i := 504) (by decide +kernel) (by decide +kernel)
theorem wd50 : Cond.methodLink RX4 55 yX4_readMark ∈ hWS := hWS_in (i := 485) (by decide +kernel) (by decide +kernel)
theorem wd51 : Cond.methodLink RX4 60 yX4_readAugur ∈ hWS := hWS_in (i := 490) (by decide +kernel) (by decide +kernel)
theorem wd52 : Cond.methodLink RX4 65 yX4_readBill ∈ hWS := hWS_in (i := 498) (by decide +kernel) (by decide +kernel)
theorem wd53 : Cond.methodLink RX4 23 yX0_forget ∈ hWS := hWS_in (i := 389) (by decide +kernel) (by decide +kernel)
theorem wd54 : Cond.methodLink RX4 40 yX4_readLine ∈ hWS := hWS_in (i := 407) (by decide +kernel) (by decide +kernel)
theorem wd55 : Cond.fieldLink RX9 19 RX9 "reader" "LSacredHens$Reader;" ∈ hWS := hWS_in (i := 333) (by decide +kernel) (by decide +kernel)
theorem wd56 : Cond.fieldLink RX9 79 RX9 "spare" "LSacredHens$Camp;" ∈ hWS := hWS_in (i := 343) (by decide +kernel) (by decide +kernel)
theorem wd57 : Cond.methodLink RX9 91 yX4_read ∈ hWS := hWS_in (i := 385) (by decide +kernel) (by decide +kernel)
theorem wd58 : Cond.fieldLink RX9 75 RX9 "now" "LSacredHens$Camp;" ∈ hWS := hWS_in (i := 342) (by decide +kernel) (by decide +kernel)
theorem wd59 : Cond.fieldLink RX9 95 RX0 "lines" "I" ∈ hWS := hWS_in (i := 207) (by decide +kernel) (by decide +kernel)
theorem wd60 : Cond.fieldLink RX9 98 RX4 "faultKind" "I" ∈ hWS := hWS_in (i := 51) (by decide +kernel) (by decide +kernel)
theorem wd61 : Cond.fieldLink RX9 101 RX4 "faultPlace" "I" ∈ hWS := hWS_in (i := 53) (by decide +kernel) (by decide +kernel)
theorem wd62 : Cond.methodLink RX9 104 yX0_hasAugur ∈ hWS := hWS_in (i := 516) (by decide +kernel) (by decide +kernel)
theorem wd63 : Cond.fieldLink RX9 108 RX0 "augurSide" "[I" ∈ hWS := hWS_in (i := 238) (by decide +kernel) (by decide +kernel)
theorem wd64 : Cond.fieldLink RX9 112 RX0 "augurFirst" "[I" ∈ hWS := hWS_in (i := 241) (by decide +kernel) (by decide +kernel)
theorem wd65 : Cond.fieldLink RX9 115 RX0 "augurLast" "[I" ∈ hWS := hWS_in (i := 244) (by decide +kernel) (by decide +kernel)
theorem wd66 : Cond.methodLink RX9 118 yX0_hasBill ∈ hWS := hWS_in (i := 524) (by decide +kernel) (by decide +kernel)
theorem wd67 : Cond.fieldLink RX9 121 RX0 "billSide" "[I" ∈ hWS := hWS_in (i := 254) (by decide +kernel) (by decide +kernel)
theorem wd68 : Cond.fieldLink RX9 124 RX0 "billWorth" "[I" ∈ hWS := hWS_in (i := 259) (by decide +kernel) (by decide +kernel)
theorem wd69 : Cond.fieldLink RX9 127 RX0 "billAfter" "[I" ∈ hWS := hWS_in (i := 263) (by decide +kernel) (by decide +kernel)
theorem wd70 : Cond.methodLink RX9 130 yX0_isTold ∈ hWS := hWS_in (i := 532) (by decide +kernel) (by decide +kernel)
theorem wd71 : Cond.fieldLink RX9 134 RX0 "marked" "I" ∈ hWS := hWS_in (i := 233) (by decide +kernel) (by decide +kernel)
theorem wd72 : Cond.methodLink RX0 70 yX0_isTold ∈ hWS := hWS_in (i := 544) (by decide +kernel) (by decide +kernel)
theorem wd73 : Cond.fieldLink RX0 9 RX0 "augurSide" "[I" ∈ hWS := hWS_in (i := 237) (by decide +kernel) (by decide +kernel)
theorem wd74 : Cond.fieldLink RX0 18 RX0 "augurLast" "[I" ∈ hWS := hWS_in (i := 243) (by decide +kernel) (by decide +kernel)
theorem wd75 : Cond.fieldLink RX0 15 RX0 "augurFirst" "[I" ∈ hWS := hWS_in (i := 240) (by decide +kernel) (by decide +kernel)
theorem wd76 : Cond.methodLink RX0 82 yX0_daysOfAugur ∈ hWS := hWS_in (i := 559) (by decide +kernel) (by decide +kernel)
theorem wd77 : Cond.methodLink RX9 137 yX0_hasSide ∈ hWS := hWS_in (i := 540) (by decide +kernel) (by decide +kernel)
theorem wd78 : Cond.methodLink RX9 140 yX0_augursOf ∈ hWS := hWS_in (i := 548) (by decide +kernel) (by decide +kernel)
theorem wd79 : Cond.methodLink RX9 144 yX0_skyOf ∈ hWS := hWS_in (i := 552) (by decide +kernel) (by decide +kernel)
theorem wd80 : Cond.methodLink RX9 147 yX0_hasDay ∈ hWS := hWS_in (i := 567) (by decide +kernel) (by decide +kernel)
theorem wd81 : Cond.methodLink RX9 150 yX0_augursOn ∈ hWS := hWS_in (i := 571) (by decide +kernel) (by decide +kernel)
theorem wd82 : Cond.methodLink RX0 86 yX0_allDays ∈ hWS := hWS_in (i := 595) (by decide +kernel) (by decide +kernel)
theorem wd83 : Cond.methodLink RX0 90 yX0_augursOf ∈ hWS := hWS_in (i := 599) (by decide +kernel) (by decide +kernel)
theorem wd84 : Cond.methodLink RX0 93 yX0_skyOf ∈ hWS := hWS_in (i := 600) (by decide +kernel) (by decide +kernel)
theorem wd85 : Cond.fieldLink RX6 65 RX6 "draws" "I" ∈ hWS := hWS_in (i := 90) (by decide +kernel) (by decide +kernel)
theorem wd86 : Cond.fieldLink RX6 27 RX6 "clearOf" "[I" ∈ hWS := hWS_in (i := 93) (by decide +kernel) (by decide +kernel)
theorem wd87 : Cond.methodLink RX6 68 yX0_clearDays ∈ hWS := hWS_in (i := 591) (by decide +kernel) (by decide +kernel)
theorem wd88 : Cond.fieldLink RX6 24 RX6 "doneOn" "[I" ∈ hWS := hWS_in (i := 92) (by decide +kernel) (by decide +kernel)
theorem wd89 : Cond.fieldLink RX6 15 RX6 "askDay" "[I" ∈ hWS := hWS_in (i := 85) (by decide +kernel) (by decide +kernel)
theorem wd90 : Cond.fieldLink RX6 18 RX6 "passDay" "[I" ∈ hWS := hWS_in (i := 86) (by decide +kernel) (by decide +kernel)
theorem wd91 : Cond.fieldLink RX6 21 RX6 "reason" "[I" ∈ hWS := hWS_in (i := 88) (by decide +kernel) (by decide +kernel)
theorem wd92 : Cond.fieldLink RX6 72 RX0 "acts" "I" ∈ hWS := hWS_in (i := 267) (by decide +kernel) (by decide +kernel)
theorem wd93 : Cond.fieldLink RX6 75 RX0 "actBill" "[I" ∈ hWS := hWS_in (i := 272) (by decide +kernel) (by decide +kernel)
theorem wd94 : Cond.fieldLink RX6 78 RX0 "actDay" "[I" ∈ hWS := hWS_in (i := 270) (by decide +kernel) (by decide +kernel)
theorem wd95 : Cond.constantLong RX6 81 (1103515245 : Int64) ∈ hWS := hWS_in (i := 605) (by decide +kernel) (by decide +kernel)
theorem wd96 : Cond.fieldLink RX6 34 RX6 "drawState" "J" ∈ hWS := hWS_in (i := 94) (by decide +kernel) (by decide +kernel)
theorem wd97 : Cond.constantLong RX6 83 (12345 : Int64) ∈ hWS := hWS_in (i := 606) (by decide +kernel) (by decide +kernel)
theorem wd98 : Cond.constantLong RX6 85 (2147483648 : Int64) ∈ hWS := hWS_in (i := 607) (by decide +kernel) (by decide +kernel)
theorem wd99 : Cond.constantLong RX6 87 (65536 : Int64) ∈ hWS := hWS_in (i := 608) (by decide +kernel) (by decide +kernel)
theorem wd100 : Cond.constantLong RX6 89 (10 : Int64) ∈ hWS := hWS_in (i := 609) (by decide +kernel) (by decide +kernel)
theorem wd101 : Cond.fieldLink RX6 95 RX0 "marked" "I" ∈ hWS := hWS_in (i := 232) (by decide +kernel) (by decide +kernel)
theorem wd102 : Cond.fieldLink RX6 102 RX0 "billSide" "[I" ∈ hWS := hWS_in (i := 256) (by decide +kernel) (by decide +kernel)
theorem wd103 : Cond.fieldLink RX6 105 RX0 "billAfter" "[I" ∈ hWS := hWS_in (i := 265) (by decide +kernel) (by decide +kernel)
theorem wd104 : Cond.methodLink RX6 108 yX6_hasPassedAhead ∈ hWS := hWS_in (i := 619) (by decide +kernel) (by decide +kernel)
theorem wd105 : Cond.methodLink RX6 91 yX6_whyNot ∈ hWS := hWS_in (i := 614) (by decide +kernel) (by decide +kernel)
theorem wd106 : Cond.methodLink RX6 38 yX6_layOut ∈ hWS := hWS_in (i := 587) (by decide +kernel) (by decide +kernel)
theorem wd107 : Cond.fieldLink RX6 42 RX0 "hungerTold" "I" ∈ hWS := hWS_in (i := 216) (by decide +kernel) (by decide +kernel)
theorem wd108 : Cond.fieldLink RX6 48 RX0 "days" "I" ∈ hWS := hWS_in (i := 212) (by decide +kernel) (by decide +kernel)
theorem wd109 : Cond.fieldLink RX6 9 RX6 "hungerOn" "[I" ∈ hWS := hWS_in (i := 83) (by decide +kernel) (by decide +kernel)
theorem wd110 : Cond.fieldLink RX6 51 RX0 "greed" "I" ∈ hWS := hWS_in (i := 221) (by decide +kernel) (by decide +kernel)
theorem wd111 : Cond.methodLink RX6 54 yX6_nextDraw ∈ hWS := hWS_in (i := 601) (by decide +kernel) (by decide +kernel)
theorem wd112 : Cond.fieldLink RX6 58 RX0 "odds" "I" ∈ hWS := hWS_in (i := 227) (by decide +kernel) (by decide +kernel)
theorem wd113 : Cond.methodLink RX6 61 yX6_settle ∈ hWS := hWS_in (i := 610) (by decide +kernel) (by decide +kernel)
theorem wd114 : Cond.methodLink RX6 30 yX6_live ∈ hWS := hWS_in (i := 583) (by decide +kernel) (by decide +kernel)
theorem wd115 : Cond.fieldLink RX9 26 RX9 "season" "LSacredHens$Season;" ∈ hWS := hWS_in (i := 334) (by decide +kernel) (by decide +kernel)
theorem wd116 : Cond.methodLink RX9 153 yX6_play ∈ hWS := hWS_in (i := 579) (by decide +kernel) (by decide +kernel)
theorem wd117 : Cond.fieldLink RX9 157 RX6 "hungerOn" "[I" ∈ hWS := hWS_in (i := 84) (by decide +kernel) (by decide +kernel)
theorem wd118 : Cond.fieldLink RX9 160 RX0 "days" "I" ∈ hWS := hWS_in (i := 214) (by decide +kernel) (by decide +kernel)
theorem wd119 : Cond.fieldLink RX9 163 RX0 "greed" "I" ∈ hWS := hWS_in (i := 225) (by decide +kernel) (by decide +kernel)
theorem wd120 : Cond.fieldLink RX9 166 RX0 "bills" "I" ∈ hWS := hWS_in (i := 250) (by decide +kernel) (by decide +kernel)
theorem wd121 : Cond.methodLink RX9 169 yX6_couldPass ∈ hWS := hWS_in (i := 631) (by decide +kernel) (by decide +kernel)
theorem wd122 : Cond.fieldLink RX0 33 RX0 "actBill" "[I" ∈ hWS := hWS_in (i := 271) (by decide +kernel) (by decide +kernel)
theorem wd123 : Cond.fieldLink RX0 30 RX0 "actDay" "[I" ∈ hWS := hWS_in (i := 269) (by decide +kernel) (by decide +kernel)
theorem wd124 : Cond.methodLink RX9 173 yX0_askedDays ∈ hWS := hWS_in (i := 643) (by decide +kernel) (by decide +kernel)
theorem wd125 : Cond.methodLink RX9 177 yX0_fedDays ∈ hWS := hWS_in (i := 651) (by decide +kernel) (by decide +kernel)
theorem wd126 : Cond.methodLink RX9 267 yX9_holds ∈ hWS := hWS_in (i := 663) (by decide +kernel) (by decide +kernel)
theorem wd127 : Cond.methodLink RX9 189 Lib.Math.max.name ∈ hWS := hWS_in (i := 664) (by decide +kernel) (by decide +kernel)
theorem wd128 : Cond.methodLink RX9 180 yX0_allDays ∈ hWS := hWS_in (i := 659) (by decide +kernel) (by decide +kernel)
theorem wd129 : Cond.methodLink RX9 183 yX9_longestRun ∈ hWS := hWS_in (i := 660) (by decide +kernel) (by decide +kernel)
theorem wd130 : Cond.methodLink RX9 186 yX6_lastActAhead ∈ hWS := hWS_in (i := 671) (by decide +kernel) (by decide +kernel)
theorem wd131 : Cond.fieldLink RX6 111 RX0 "bills" "I" ∈ hWS := hWS_in (i := 249) (by decide +kernel) (by decide +kernel)
theorem wd132 : Cond.methodLink RX9 195 yX6_passingOn ∈ hWS := hWS_in (i := 679) (by decide +kernel) (by decide +kernel)
theorem wd133 : Cond.fieldLink RX9 199 RX6 "passDay" "[I" ∈ hWS := hWS_in (i := 87) (by decide +kernel) (by decide +kernel)
theorem wd134 : Cond.fieldLink RX9 202 RX6 "reason" "[I" ∈ hWS := hWS_in (i := 89) (by decide +kernel) (by decide +kernel)
theorem wd135 : Cond.fieldLink RX0 21 RX0 "billSide" "[I" ∈ hWS := hWS_in (i := 251) (by decide +kernel) (by decide +kernel)
theorem wd136 : Cond.fieldLink RX0 24 RX0 "billWorth" "[I" ∈ hWS := hWS_in (i := 257) (by decide +kernel) (by decide +kernel)
theorem wd137 : Cond.methodLink RX9 205 yX6_passing ∈ hWS := hWS_in (i := 695) (by decide +kernel) (by decide +kernel)
theorem wd138 : Cond.methodLink RX9 209 yX0_billsOf ∈ hWS := hWS_in (i := 699) (by decide +kernel) (by decide +kernel)
theorem wd139 : Cond.methodLink RX9 212 yX0_worthOf ∈ hWS := hWS_in (i := 703) (by decide +kernel) (by decide +kernel)
theorem wd140 : Cond.fieldLink RX3 27 RX0 "bills" "I" ∈ hWS := hWS_in (i := 246) (by decide +kernel) (by decide +kernel)
theorem wd141 : Cond.fieldLink RX3 18 RX3 "weight" "[I" ∈ hWS := hWS_in (i := 121) (by decide +kernel) (by decide +kernel)
theorem wd142 : Cond.fieldLink RX3 33 RX0 "billWorth" "[I" ∈ hWS := hWS_in (i := 258) (by decide +kernel) (by decide +kernel)
theorem wd143 : Cond.methodLink RX0 99 Lib.Math.max.name ∈ hWS := hWS_in (i := 731) (by decide +kernel) (by decide +kernel)
theorem wd144 : Cond.methodLink RX0 105 Lib.Math.min.name ∈ hWS := hWS_in (i := 732) (by decide +kernel) (by decide +kernel)
theorem wd145 : Cond.fieldLink RX3 24 RX3 "openOn" "[I" ∈ hWS := hWS_in (i := 123) (by decide +kernel) (by decide +kernel)
theorem wd146 : Cond.constant RJ6 265 (1431655765 : Int32) ∈ hWS := hWS_in (i := 749) (by decide +kernel) (by decide +kernel)
theorem wd147 : Cond.constant RJ6 266 (858993459 : Int32) ∈ hWS := hWS_in (i := 750) (by decide +kernel) (by decide +kernel)
theorem wd148 : Cond.constant RJ6 267 (252645135 : Int32) ∈ hWS := hWS_in (i := 751) (by decide +kernel) (by decide +kernel)
theorem wd149 : Cond.fieldLink RX3 46 RX3 "days" "I" ∈ hWS := hWS_in (i := 125) (by decide +kernel) (by decide +kernel)
theorem wd150 : Cond.fieldLink RX3 56 RX3 "pause" "I" ∈ hWS := hWS_in (i := 126) (by decide +kernel) (by decide +kernel)
theorem wd151 : Cond.methodLink RX3 95 Lib.Math.min.name ∈ hWS := hWS_in (i := 756) (by decide +kernel) (by decide +kernel)
theorem wd152 : Cond.fieldLink RX3 9 RX3 "most" "[I" ∈ hWS := hWS_in (i := 119) (by decide +kernel) (by decide +kernel)
theorem wd153 : Cond.fieldLink RX3 15 RX3 "ways" "[I" ∈ hWS := hWS_in (i := 120) (by decide +kernel) (by decide +kernel)
theorem wd154 : Cond.fieldLink RX3 21 RX3 "ahead" "[I" ∈ hWS := hWS_in (i := 122) (by decide +kernel) (by decide +kernel)
theorem wd155 : Cond.fieldLink RX3 40 RX3 "from" "I" ∈ hWS := hWS_in (i := 124) (by decide +kernel) (by decide +kernel)
theorem wd156 : Cond.methodLink RX3 87 yJ6_bitCount_0f7a4 ∈ hWS := hWS_in (i := 746) (by decide +kernel) (by decide +kernel)
theorem wd157 : Cond.methodLink RX3 92 yX3_settle ∈ hWS := hWS_in (i := 752) (by decide +kernel) (by decide +kernel)
theorem wd158 : Cond.methodLink RX3 36 yX0_firstHungryDay ∈ hWS := hWS_in (i := 727) (by decide +kernel) (by decide +kernel)
theorem wd159 : Cond.fieldLink RX3 43 RX0 "days" "I" ∈ hWS := hWS_in (i := 211) (by decide +kernel) (by decide +kernel)
theorem wd160 : Cond.fieldLink RX3 47 RX0 "greed" "I" ∈ hWS := hWS_in (i := 220) (by decide +kernel) (by decide +kernel)
theorem wd161 : Cond.methodLink RX3 50 Lib.Math.max.name ∈ hWS := hWS_in (i := 733) (by decide +kernel) (by decide +kernel)
theorem wd162 : Cond.fieldLink RX3 59 RX0 "billAfter" "[I" ∈ hWS := hWS_in (i := 262) (by decide +kernel) (by decide +kernel)
theorem wd163 : Cond.fieldLink RX3 66 RX0 "billSide" "[I" ∈ hWS := hWS_in (i := 253) (by decide +kernel) (by decide +kernel)
theorem wd164 : Cond.methodLink RX3 69 yX0_augursOf ∈ hWS := hWS_in (i := 735) (by decide +kernel) (by decide +kernel)
theorem wd165 : Cond.methodLink RX3 73 yX0_skyOf ∈ hWS := hWS_in (i := 736) (by decide +kernel) (by decide +kernel)
theorem wd166 : Cond.methodLink RX3 76 yX0_allDays ∈ hWS := hWS_in (i := 737) (by decide +kernel) (by decide +kernel)
theorem wd167 : Cond.methodLink RX3 79 yX3_openBill ∈ hWS := hWS_in (i := 738) (by decide +kernel) (by decide +kernel)
theorem wd168 : Cond.methodLink RX3 83 yX3_goBack ∈ hWS := hWS_in (i := 742) (by decide +kernel) (by decide +kernel)
theorem wd169 : Cond.fieldLink RX9 33 RX9 "planner" "LSacredHens$Planner;" ∈ hWS := hWS_in (i := 335) (by decide +kernel) (by decide +kernel)
theorem wd170 : Cond.methodLink RX9 271 yX3_billsByWorth ∈ hWS := hWS_in (i := 719) (by decide +kernel) (by decide +kernel)
theorem wd171 : Cond.methodLink RX9 227 yX3_solve ∈ hWS := hWS_in (i := 723) (by decide +kernel) (by decide +kernel)
theorem wd172 : Cond.methodLink RX9 251 yX9_worthOfPlans ∈ hWS := hWS_in (i := 715) (by decide +kernel) (by decide +kernel)
theorem wd173 : Cond.methodLink RX9 215 yX9_worthOfPlan ∈ hWS := hWS_in (i := 711) (by decide +kernel) (by decide +kernel)
theorem wd174 : Cond.methodLink RX3 101 yX3_firstBill ∈ hWS := hWS_in (i := 765) (by decide +kernel) (by decide +kernel)
theorem wd175 : Cond.methodLink RX9 218 yX3_billInFirstPlan ∈ hWS := hWS_in (i := 761) (by decide +kernel) (by decide +kernel)
theorem wd176 : Cond.methodLink RX9 221 yX3_howManyPlans ∈ hWS := hWS_in (i := 773) (by decide +kernel) (by decide +kernel)
theorem wd177 : Cond.methodLink RX9 224 yX3_billsAlike ∈ hWS := hWS_in (i := 781) (by decide +kernel) (by decide +kernel)
theorem wd178 : Cond.fieldLink RX0 27 RX0 "billAfter" "[I" ∈ hWS := hWS_in (i := 261) (by decide +kernel) (by decide +kernel)
theorem wd179 : Cond.methodLink RX1 46 yX0_needsOf ∈ hWS := hWS_in (i := 797) (by decide +kernel) (by decide +kernel)
theorem wd180 : Cond.fieldLink RX1 19 RX0 "billSide" "[I" ∈ hWS := hWS_in (i := 252) (by decide +kernel) (by decide +kernel)
theorem wd181 : Cond.methodLink RX1 49 yX0_billsOf ∈ hWS := hWS_in (i := 801) (by decide +kernel) (by decide +kernel)
theorem wd182 : Cond.methodLink RX1 52 yJ6_bitCount_0f7a4 ∈ hWS := hWS_in (i := 802) (by decide +kernel) (by decide +kernel)
theorem wd183 : Cond.methodLink RX1 57 yX0_firstHungryDay ∈ hWS := hWS_in (i := 808) (by decide +kernel) (by decide +kernel)
theorem wd184 : Cond.fieldLink RX1 35 RX0 "days" "I" ∈ hWS := hWS_in (i := 210) (by decide +kernel) (by decide +kernel)
theorem wd185 : Cond.fieldLink RX1 61 RX0 "greed" "I" ∈ hWS := hWS_in (i := 224) (by decide +kernel) (by decide +kernel)
theorem wd186 : Cond.methodLink RX1 15 yX1_lengthOf ∈ hWS := hWS_in (i := 793) (by decide +kernel) (by decide +kernel)
theorem wd187 : Cond.methodLink RX1 24 yX0_clearDays ∈ hWS := hWS_in (i := 803) (by decide +kernel) (by decide +kernel)
theorem wd188 : Cond.methodLink RX1 28 yX1_dayOfPass ∈ hWS := hWS_in (i := 804) (by decide +kernel) (by decide +kernel)
theorem wd189 : Cond.fieldLink RX9 40 RX9 "chain" "LSacredHens$Chain;" ∈ hWS := hWS_in (i := 336) (by decide +kernel) (by decide +kernel)
theorem wd190 : Cond.methodLink RX9 231 yX1_soonestDay ∈ hWS := hWS_in (i := 789) (by decide +kernel) (by decide +kernel)
theorem wd191 : Cond.methodLink RX1 32 yX1_soonestDay ∈ hWS := hWS_in (i := 818) (by decide +kernel) (by decide +kernel)
theorem wd192 : Cond.methodLink RX9 234 yX1_latestDay ∈ hWS := hWS_in (i := 814) (by decide +kernel) (by decide +kernel)
theorem wd193 : Cond.methodLink RX9 237 yX0_needsOf ∈ hWS := hWS_in (i := 823) (by decide +kernel) (by decide +kernel)
theorem wd194 : Cond.methodLink RX9 240 yJ6_bitCount_0f7a4 ∈ hWS := hWS_in (i := 824) (by decide +kernel) (by decide +kernel)
theorem wd195 : Cond.methodLink RX9 245 yX9_worthWithout ∈ hWS := hWS_in (i := 829) (by decide +kernel) (by decide +kernel)
theorem wd196 : Cond.methodLink RX9 248 yX0_allBills ∈ hWS := hWS_in (i := 841) (by decide +kernel) (by decide +kernel)
theorem wd197 : Cond.fieldLink RX1 11 RX1 "cost" "[I" ∈ hWS := hWS_in (i := 150) (by decide +kernel) (by decide +kernel)
theorem wd198 : Cond.constant RX1 64 (16777216 : Int32) ∈ hWS := hWS_in (i := 857) (by decide +kernel) (by decide +kernel)
theorem wd199 : Cond.methodLink RX1 65 Lib.Math.min.name ∈ hWS := hWS_in (i := 858) (by decide +kernel) (by decide +kernel)
theorem wd200 : Cond.methodLink RX1 43 yX1_leastCost ∈ hWS := hWS_in (i := 853) (by decide +kernel) (by decide +kernel)
theorem wd201 : Cond.methodLink RX9 255 yX1_fewestToStop ∈ hWS := hWS_in (i := 849) (by decide +kernel) (by decide +kernel)
theorem wd202 : Cond.methodLink RX9 258 yX1_daysToStop ∈ hWS := hWS_in (i := 863) (by decide +kernel) (by decide +kernel)
theorem wd203 : Cond.methodLink RX3 98 yX3_billInFirstPlan ∈ hWS := hWS_in (i := 879) (by decide +kernel) (by decide +kernel)
theorem wd204 : Cond.methodLink RX9 274 yX3_daysOfFirstPlan ∈ hWS := hWS_in (i := 875) (by decide +kernel) (by decide +kernel)
theorem wd205 : Cond.methodLink RX9 261 yX9_spoilingDay ∈ hWS := hWS_in (i := 871) (by decide +kernel) (by decide +kernel)
theorem wd206 : Cond.fieldLink RX9 264 RX0 "augurs" "I" ∈ hWS := hWS_in (i := 236) (by decide +kernel) (by decide +kernel)
theorem wd207 : Cond.methodLink RX9 277 yX9_fewestAugurs ∈ hWS := hWS_in (i := 896) (by decide +kernel) (by decide +kernel)
theorem wd208 : Cond.methodLink RX9 280 yX9_loneAugurs ∈ hWS := hWS_in (i := 912) (by decide +kernel) (by decide +kernel)
theorem wd209 : Cond.methodLink RX9 283 yX0_daysOfAugur ∈ hWS := hWS_in (i := 924) (by decide +kernel) (by decide +kernel)
theorem wd210 : Cond.methodLink RX9 286 yX0_clearDays ∈ hWS := hWS_in (i := 929) (by decide +kernel) (by decide +kernel)
theorem wd211 : Cond.methodLink RX0 96 yX0_needsOf ∈ hWS := hWS_in (i := 950) (by decide +kernel) (by decide +kernel)
theorem wd212 : Cond.methodLink RX9 292 yX0_heirsOf ∈ hWS := hWS_in (i := 946) (by decide +kernel) (by decide +kernel)
theorem wd213 : Cond.methodLink RX9 289 yX9_fallingWith ∈ hWS := hWS_in (i := 942) (by decide +kernel) (by decide +kernel)
theorem wd214 : Cond.fieldLink RX5 15 RX5 "width" "I" ∈ hWS := hWS_in (i := 318) (by decide +kernel) (by decide +kernel)
theorem wd215 : Cond.fieldLink RX2 41 RX2 "seenEating" "I" ∈ hWS := hWS_in (i := 171) (by decide +kernel) (by decide +kernel)
theorem wd216 : Cond.fieldLink RX2 44 RX2 "seenFasting" "I" ∈ hWS := hWS_in (i := 172) (by decide +kernel) (by decide +kernel)
theorem wd217 : Cond.fieldLink RX2 47 RX5 "size" "I" ∈ hWS := hWS_in (i := 322) (by decide +kernel) (by decide +kernel)
theorem wd218 : Cond.fieldLink RX2 52 RX5 "numbers" "[J" ∈ hWS := hWS_in (i := 316) (by decide +kernel) (by decide +kernel)
theorem wd219 : Cond.fieldLink RX2 32 RX0 "days" "I" ∈ hWS := hWS_in (i := 209) (by decide +kernel) (by decide +kernel)
theorem wd220 : Cond.fieldLink RX2 60 RX0 "greed" "I" ∈ hWS := hWS_in (i := 223) (by decide +kernel) (by decide +kernel)
theorem wd221 : Cond.methodLink RX2 56 yX2_eatingDays ∈ hWS := hWS_in (i := 990) (by decide +kernel) (by decide +kernel)
theorem wd222 : Cond.fieldLink RX2 19 RX2 "pairs" "I" ∈ hWS := hWS_in (i := 162) (by decide +kernel) (by decide +kernel)
theorem wd223 : Cond.fieldLink RX2 26 RX2 "perhapsUnfed" "I" ∈ hWS := hWS_in (i := 166) (by decide +kernel) (by decide +kernel)
theorem wd224 : Cond.fieldLink RX2 23 RX2 "fedDays" "I" ∈ hWS := hWS_in (i := 164) (by decide +kernel) (by decide +kernel)
theorem wd225 : Cond.fieldLink RX2 29 RX2 "leastHunger" "I" ∈ hWS := hWS_in (i := 168) (by decide +kernel) (by decide +kernel)
theorem wd226 : Cond.fieldLink RX2 9 RX2 "eatingOn" "[I" ∈ hWS := hWS_in (i := 170) (by decide +kernel) (by decide +kernel)
theorem wd227 : Cond.methodLink RX2 15 yX2_readRow ∈ hWS := hWS_in (i := 982) (by decide +kernel) (by decide +kernel)
theorem wd228 : Cond.methodLink RX2 37 yX2_weigh ∈ hWS := hWS_in (i := 986) (by decide +kernel) (by decide +kernel)
theorem wd229 : Cond.methodLink RX9 315 yX9_hasSlot ∈ hWS := hWS_in (i := 971) (by decide +kernel) (by decide +kernel)
theorem wd230 : Cond.fieldLink RX9 46 RX9 "slots" "[LSacredHens$Row;" ∈ hWS := hWS_in (i := 337) (by decide +kernel) (by decide +kernel)
theorem wd231 : Cond.methodLink RX9 318 yX5_isThere ∈ hWS := hWS_in (i := 974) (by decide +kernel) (by decide +kernel)
theorem wd232 : Cond.fieldLink RX9 53 RX9 "hens" "LSacredHens$Hens;" ∈ hWS := hWS_in (i := 338) (by decide +kernel) (by decide +kernel)
theorem wd233 : Cond.methodLink RX9 321 yX2_look ∈ hWS := hWS_in (i := 978) (by decide +kernel) (by decide +kernel)
theorem wd234 : Cond.methodLink RX9 295 yX9_lookAtSeen ∈ hWS := hWS_in (i := 967) (by decide +kernel) (by decide +kernel)
theorem wd235 : Cond.fieldLink RX9 298 RX2 "pairs" "I" ∈ hWS := hWS_in (i := 163) (by decide +kernel) (by decide +kernel)
theorem wd236 : Cond.fieldLink RX9 301 RX2 "fedDays" "I" ∈ hWS := hWS_in (i := 165) (by decide +kernel) (by decide +kernel)
theorem wd237 : Cond.fieldLink RX9 303 RX2 "perhapsUnfed" "I" ∈ hWS := hWS_in (i := 167) (by decide +kernel) (by decide +kernel)
theorem wd238 : Cond.fieldLink RX9 306 RX2 "leastHunger" "I" ∈ hWS := hWS_in (i := 169) (by decide +kernel) (by decide +kernel)
theorem wd239 : Cond.methodLink RX2 63 Lib.Math.max.name ∈ hWS := hWS_in (i := 1017) (by decide +kernel) (by decide +kernel)
theorem wd240 : Cond.methodLink RX2 69 yX2_leftAtWorst ∈ hWS := hWS_in (i := 1013) (by decide +kernel) (by decide +kernel)
theorem wd241 : Cond.methodLink RX9 309 yX2_dayToKnow ∈ hWS := hWS_in (i := 1009) (by decide +kernel) (by decide +kernel)
theorem wd242 : Cond.methodLink RX9 312 yX2_leftAtWorst ∈ hWS := hWS_in (i := 1022) (by decide +kernel) (by decide +kernel)
theorem wd243 : Cond.fieldLink RX7 7 RX7 "counts" "[I" ∈ hWS := hWS_in (i := 194) (by decide +kernel) (by decide +kernel)
theorem wd244 : Cond.fieldLink RX7 13 RX5 "size" "I" ∈ hWS := hWS_in (i := 320) (by decide +kernel) (by decide +kernel)
theorem wd245 : Cond.fieldLink RX7 19 RX5 "numbers" "[J" ∈ hWS := hWS_in (i := 315) (by decide +kernel) (by decide +kernel)
theorem wd246 : Cond.fieldLink RX9 60 RX9 "signs" "LSacredHens$SignList;" ∈ hWS := hWS_in (i := 339) (by decide +kernel) (by decide +kernel)
theorem wd247 : Cond.methodLink RX9 353 yX7_look ∈ hWS := hWS_in (i := 1032) (by decide +kernel) (by decide +kernel)
theorem wd248 : Cond.methodLink RX9 325 yX9_isChoice ∈ hWS := hWS_in (i := 1027) (by decide +kernel) (by decide +kernel)
theorem wd249 : Cond.methodLink RX9 328 yX9_lookAtList ∈ hWS := hWS_in (i := 1028) (by decide +kernel) (by decide +kernel)
theorem wd250 : Cond.methodLink RX9 331 yX7_howMany ∈ hWS := hWS_in (i := 1036) (by decide +kernel) (by decide +kernel)
theorem wd251 : Cond.methodLink RX7 29 yX7_howMany ∈ hWS := hWS_in (i := 1050) (by decide +kernel) (by decide +kernel)
theorem wd252 : Cond.methodLink RX7 33 yX7_withSign ∈ hWS := hWS_in (i := 1051) (by decide +kernel) (by decide +kernel)
theorem wd253 : Cond.methodLink RX7 41 yX7_choose ∈ hWS := hWS_in (i := 1055) (by decide +kernel) (by decide +kernel)
theorem wd254 : Cond.methodLink RX7 37 yX7_wins ∈ hWS := hWS_in (i := 1058) (by decide +kernel) (by decide +kernel)
theorem wd255 : Cond.methodLink RX9 437 yX9_greatestCommon ∈ hWS := hWS_in (i := 1069) (by decide +kernel) (by decide +kernel)
theorem wd256 : Cond.constantLong RX9 334 (-2 : Int64) ∈ hWS := hWS_in (i := 1045) (by decide +kernel) (by decide +kernel)
theorem wd257 : Cond.methodLink RX9 336 yX7_waysAsGood ∈ hWS := hWS_in (i := 1046) (by decide +kernel) (by decide +kernel)
theorem wd258 : Cond.methodLink RX9 340 yX7_allWays ∈ hWS := hWS_in (i := 1062) (by decide +kernel) (by decide +kernel)
theorem wd259 : Cond.methodLink RX9 343 yX9_partOfFraction ∈ hWS := hWS_in (i := 1066) (by decide +kernel) (by decide +kernel)
theorem wd260 : Cond.methodLink RX9 347 yX7_withSign ∈ hWS := hWS_in (i := 1076) (by decide +kernel) (by decide +kernel)
theorem wd261 : Cond.methodLink RX9 350 yJ6_compare_7cf53 ∈ hWS := hWS_in (i := 1081) (by decide +kernel) (by decide +kernel)
theorem wd262 : Cond.methodLink RX9 363 yX9_generalHas ∈ hWS := hWS_in (i := 1094) (by decide +kernel) (by decide +kernel)
theorem wd263 : Cond.methodLink RX9 367 yX9_augurHas ∈ hWS := hWS_in (i := 1097) (by decide +kernel) (by decide +kernel)
theorem wd264 : Cond.methodLink RX9 356 yX9_isWorth ∈ hWS := hWS_in (i := 1088) (by decide +kernel) (by decide +kernel)
theorem wd265 : Cond.methodLink RX9 359 yX9_isAtRest ∈ hWS := hWS_in (i := 1091) (by decide +kernel) (by decide +kernel)
theorem wd266 : Cond.fieldLink RX9 370 RX0 "odds" "I" ∈ hWS := hWS_in (i := 229) (by decide +kernel) (by decide +kernel)
theorem wd267 : Cond.constantLong RX9 373 (10 : Int64) ∈ hWS := hWS_in (i := 1108) (by decide +kernel) (by decide +kernel)
theorem wd268 : Cond.methodLink RX0 108 yX0_askedDays ∈ hWS := hWS_in (i := 1117) (by decide +kernel) (by decide +kernel)
theorem wd269 : Cond.methodLink RX0 111 yX0_fedDays ∈ hWS := hWS_in (i := 1118) (by decide +kernel) (by decide +kernel)
theorem wd270 : Cond.methodLink RX9 375 yX0_isFree ∈ hWS := hWS_in (i := 1113) (by decide +kernel) (by decide +kernel)
theorem wd271 : Cond.methodLink RX9 378 yX0_isAskedFor ∈ hWS := hWS_in (i := 1119) (by decide +kernel) (by decide +kernel)
theorem wd272 : Cond.fieldLink RX9 381 RX0 "acts" "I" ∈ hWS := hWS_in (i := 268) (by decide +kernel) (by decide +kernel)
theorem wd273 : Cond.methodLink RX9 384 yX0_act ∈ hWS := hWS_in (i := 1123) (by decide +kernel) (by decide +kernel)
theorem wd274 : Cond.constant RX9 436 (2000000000 : Int32) ∈ hWS := hWS_in (i := 1146) (by decide +kernel) (by decide +kernel)
theorem wd275 : Cond.methodLink RX9 388 yX9_isSeed ∈ hWS := hWS_in (i := 1143) (by decide +kernel) (by decide +kernel)
theorem wd276 : Cond.methodLink RX9 391 yX6_draw ∈ hWS := hWS_in (i := 1147) (by decide +kernel) (by decide +kernel)
theorem wd277 : Cond.fieldLink RX9 395 RX6 "draws" "I" ∈ hWS := hWS_in (i := 91) (by decide +kernel) (by decide +kernel)
theorem wd278 : Cond.fieldLink RX9 398 RX0 "hungerTold" "I" ∈ hWS := hWS_in (i := 218) (by decide +kernel) (by decide +kernel)
theorem wd279 : Cond.methodLink RX9 401 yX9_slotsInUse ∈ hWS := hWS_in (i := 1163) (by decide +kernel) (by decide +kernel)
theorem wd280 : Cond.methodLink RX0 64 arraycopyName ∈ hWS := hWS_in (i := 1178) (by decide +kernel) (by decide +kernel)
theorem wd281 : Cond.methodLink RX9 404 yX9_hasImage ∈ hWS := hWS_in (i := 1171) (by decide +kernel) (by decide +kernel)
theorem wd282 : Cond.fieldLink RX9 66 RX9 "images" "[LSacredHens$Camp;" ∈ hWS := hWS_in (i := 340) (by decide +kernel) (by decide +kernel)
theorem wd283 : Cond.methodLink RX9 407 yX0_becomeLike ∈ hWS := hWS_in (i := 1174) (by decide +kernel) (by decide +kernel)
theorem wd284 : Cond.fieldLink RX9 70 RX9 "imageKept" "[Z" ∈ hWS := hWS_in (i := 341) (by decide +kernel) (by decide +kernel)
theorem wd285 : Cond.fieldLink RX5 19 RX5 "size" "I" ∈ hWS := hWS_in (i := 321) (by decide +kernel) (by decide +kernel)
theorem wd286 : Cond.fieldLink RX5 9 RX5 "numbers" "[J" ∈ hWS := hWS_in (i := 314) (by decide +kernel) (by decide +kernel)
theorem wd287 : Cond.methodLink RX9 410 yX5_begin ∈ hWS := hWS_in (i := 1189) (by decide +kernel) (by decide +kernel)
theorem wd288 : Cond.fieldLink RX9 413 RX5 "size" "I" ∈ hWS := hWS_in (i := 323) (by decide +kernel) (by decide +kernel)
theorem wd289 : Cond.fieldLink RX9 416 RX5 "numbers" "[J" ∈ hWS := hWS_in (i := 317) (by decide +kernel) (by decide +kernel)
theorem wd290 : Cond.methodLink RX9 420 yX5_cut ∈ hWS := hWS_in (i := 1197) (by decide +kernel) (by decide +kernel)
theorem wd291 : Cond.fieldLink RX9 424 RX5 "width" "I" ∈ hWS := hWS_in (i := 319) (by decide +kernel) (by decide +kernel)
theorem wd292 : Cond.methodLink RX9 427 yX5_reaches ∈ hWS := hWS_in (i := 1205) (by decide +kernel) (by decide +kernel)
theorem wd293 : Cond.methodLink RX9 430 arraycopyName ∈ hWS := hWS_in (i := 1209) (by decide +kernel) (by decide +kernel)
theorem wd294 : Cond.constantLong RX10 90 (2 : Int64) ∈ hWS := hWS_in (i := 1347) (by decide +kernel) (by decide +kernel)
theorem wd295 : Cond.methodLink RX10 92 yX10_in ∈ hWS := hWS_in (i := 1348) (by decide +kernel) (by decide +kernel)
theorem wd296 : Cond.fieldLink RX10 13 RX10 "images" "[I" ∈ hWS := hWS_in (i := 1218) (by decide +kernel) (by decide +kernel)
theorem wd297 : Cond.fieldLink RX10 9 RX10 "world" "[I" ∈ hWS := hWS_in (i := 1217) (by decide +kernel) (by decide +kernel)
theorem wd298 : Cond.fieldLink RX10 16 RX10 "hasImage" "[Z" ∈ hWS := hWS_in (i := 1219) (by decide +kernel) (by decide +kernel)
theorem wd299 : Cond.methodLink RX10 96 yX10_isCamp ∈ hWS := hWS_in (i := 1476) (by decide +kernel) (by decide +kernel)
theorem wd300 : Cond.fieldLink RX10 100 RX10 "taped" "I" ∈ hWS := hWS_in (i := 1221) (by decide +kernel) (by decide +kernel)
theorem wd301 : Cond.fieldLink RX10 24 RX10 "five" "[I" ∈ hWS := hWS_in (i := 1222) (by decide +kernel) (by decide +kernel)
theorem wd302 : Cond.fieldLink RX10 20 RX10 "tape" "[B" ∈ hWS := hWS_in (i := 1220) (by decide +kernel) (by decide +kernel)
theorem wd303 : Cond.fieldLink RX10 103 RX10 "size" "I" ∈ hWS := hWS_in (i := 1223) (by decide +kernel) (by decide +kernel)
theorem wd304 : Cond.fieldLink RX10 106 RX10 "at" "I" ∈ hWS := hWS_in (i := 1224) (by decide +kernel) (by decide +kernel)
theorem wd305 : Cond.methodLink RX10 109 yX10_see ∈ hWS := hWS_in (i := 1375) (by decide +kernel) (by decide +kernel)
theorem wd306 : Cond.fieldLink RX10 113 RX10 "from" "I" ∈ hWS := hWS_in (i := 1225) (by decide +kernel) (by decide +kernel)
theorem wd307 : Cond.fieldLink RX10 116 RX10 "token" "I" ∈ hWS := hWS_in (i := 1226) (by decide +kernel) (by decide +kernel)
theorem wd308 : Cond.constantLong RX10 119 (97 : Int64) ∈ hWS := hWS_in (i := 1379) (by decide +kernel) (by decide +kernel)
theorem wd309 : Cond.constantLong RX10 121 (122 : Int64) ∈ hWS := hWS_in (i := 1380) (by decide +kernel) (by decide +kernel)
theorem wd310 : Cond.constantLong RX10 123 (48 : Int64) ∈ hWS := hWS_in (i := 1381) (by decide +kernel) (by decide +kernel)
theorem wd311 : Cond.constantLong RX10 125 (57 : Int64) ∈ hWS := hWS_in (i := 1382) (by decide +kernel) (by decide +kernel)
theorem wd312 : Cond.fieldLink RX10 127 RX10 "value" "I" ∈ hWS := hWS_in (i := 1227) (by decide +kernel) (by decide +kernel)
theorem wd313 : Cond.constant RX10 130 (99999 : Int32) ∈ hWS := hWS_in (i := 1383) (by decide +kernel) (by decide +kernel)
theorem wd314 : Cond.methodLink RX10 131 Lib.Math.min.name ∈ hWS := hWS_in (i := 1384) (by decide +kernel) (by decide +kernel)
theorem wd315 : Cond.fieldLink RX10 137 RX10 "faultKind" "I" ∈ hWS := hWS_in (i := 1228) (by decide +kernel) (by decide +kernel)
theorem wd316 : Cond.methodLink RX10 140 yX10_good ∈ hWS := hWS_in (i := 1385) (by decide +kernel) (by decide +kernel)
theorem wd317 : Cond.fieldLink RX10 27 RX10 "faultPlace" "I" ∈ hWS := hWS_in (i := 1229) (by decide +kernel) (by decide +kernel)
theorem wd318 : Cond.methodLink RX10 143 yJ0_length_8abf5 ∈ hWS := hWS_in (i := 1410) (by decide +kernel) (by decide +kernel)
theorem wd319 : Cond.methodLink RX10 149 yJ0_charAt_5068e ∈ hWS := hWS_in (i := 1411) (by decide +kernel) (by decide +kernel)
theorem wd320 : Cond.methodLink RX10 153 yX10_is ∈ hWS := hWS_in (i := 1406) (by decide +kernel) (by decide +kernel)
theorem wd321 : Cond.methodLink RX10 157 yX10_advance ∈ hWS := hWS_in (i := 1371) (by decide +kernel) (by decide +kernel)
theorem wd322 : Cond.methodLink RX10 160 yX10_takes ∈ hWS := hWS_in (i := 1402) (by decide +kernel) (by decide +kernel)
theorem wd323 : Cond.methodLink RX10 163 yX10_errs ∈ hWS := hWS_in (i := 1412) (by decide +kernel) (by decide +kernel)
theorem wd324 : Cond.methodLink RX10 167 yX10_needs ∈ hWS := hWS_in (i := 1398) (by decide +kernel) (by decide +kernel)
theorem wd325 : Cond.methodLink RX10 171 yX10_number ∈ hWS := hWS_in (i := 1421) (by decide +kernel) (by decide +kernel)
theorem wd326 : Cond.fieldLink RX10 31 RX10 "fresh" "[I" ∈ hWS := hWS_in (i := 1230) (by decide +kernel) (by decide +kernel)
theorem wd327 : Cond.methodLink RX10 178 yX10_told ∈ hWS := hWS_in (i := 1417) (by decide +kernel) (by decide +kernel)
theorem wd328 : Cond.methodLink RX10 203 yX10_readAugur ∈ hWS := hWS_in (i := 1435) (by decide +kernel) (by decide +kernel)
theorem wd329 : Cond.methodLink RX10 206 yX10_readBill ∈ hWS := hWS_in (i := 1442) (by decide +kernel) (by decide +kernel)
theorem wd330 : Cond.methodLink RX10 209 yX10_readFirst ∈ hWS := hWS_in (i := 1393) (by decide +kernel) (by decide +kernel)
theorem wd331 : Cond.methodLink RX10 212 yX10_readNext ∈ hWS := hWS_in (i := 1428) (by decide +kernel) (by decide +kernel)
theorem wd332 : Cond.methodLink RX10 215 yX10_readLine ∈ hWS := hWS_in (i := 1389) (by decide +kernel) (by decide +kernel)
theorem wd333 : Cond.methodLink RX10 218 yX10_isAugur ∈ hWS := hWS_in (i := 1452) (by decide +kernel) (by decide +kernel)
theorem wd334 : Cond.methodLink RX10 222 yX10_ofAugur ∈ hWS := hWS_in (i := 1456) (by decide +kernel) (by decide +kernel)
theorem wd335 : Cond.methodLink RX10 225 yX10_isBill ∈ hWS := hWS_in (i := 1464) (by decide +kernel) (by decide +kernel)
theorem wd336 : Cond.methodLink RX10 228 yX10_of ∈ hWS := hWS_in (i := 1468) (by decide +kernel) (by decide +kernel)
theorem wd337 : Cond.methodLink RX10 230 yX10_bit ∈ hWS := hWS_in (i := 1500) (by decide +kernel) (by decide +kernel)
theorem wd338 : Cond.methodLink RX10 233 yX10_daysOf ∈ hWS := hWS_in (i := 1503) (by decide +kernel) (by decide +kernel)
theorem wd339 : Cond.methodLink RX10 236 yX10_allAugurs ∈ hWS := hWS_in (i := 1492) (by decide +kernel) (by decide +kernel)
theorem wd340 : Cond.methodLink RX10 239 yX10_skyBy ∈ hWS := hWS_in (i := 1496) (by decide +kernel) (by decide +kernel)
theorem wd341 : Cond.methodLink RX10 242 yX10_isSide ∈ hWS := hWS_in (i := 1484) (by decide +kernel) (by decide +kernel)
theorem wd342 : Cond.methodLink RX10 245 yX10_skyOf ∈ hWS := hWS_in (i := 1488) (by decide +kernel) (by decide +kernel)
theorem wd343 : Cond.methodLink RX10 248 yX10_isDay ∈ hWS := hWS_in (i := 1511) (by decide +kernel) (by decide +kernel)
theorem wd344 : Cond.fieldLink RX10 34 RX10 "askedOn" "[I" ∈ hWS := hWS_in (i := 1231) (by decide +kernel) (by decide +kernel)
theorem wd345 : Cond.fieldLink RX10 46 RX10 "dayOf" "[I" ∈ hWS := hWS_in (i := 1235) (by decide +kernel) (by decide +kernel)
theorem wd346 : Cond.fieldLink RX10 37 RX10 "hungerOn" "[I" ∈ hWS := hWS_in (i := 1232) (by decide +kernel) (by decide +kernel)
theorem wd347 : Cond.fieldLink RX10 43 RX10 "whenOf" "[I" ∈ hWS := hWS_in (i := 1234) (by decide +kernel) (by decide +kernel)
theorem wd348 : Cond.fieldLink RX10 252 RX10 "isDrawn" "Z" ∈ hWS := hWS_in (i := 1237) (by decide +kernel) (by decide +kernel)
theorem wd349 : Cond.constantLong RX10 256 (1103515245 : Int64) ∈ hWS := hWS_in (i := 1543) (by decide +kernel) (by decide +kernel)
theorem wd350 : Cond.fieldLink RX10 258 RX10 "drawX" "J" ∈ hWS := hWS_in (i := 1236) (by decide +kernel) (by decide +kernel)
theorem wd351 : Cond.constantLong RX10 262 (12345 : Int64) ∈ hWS := hWS_in (i := 1544) (by decide +kernel) (by decide +kernel)
theorem wd352 : Cond.constantLong RX10 264 (2147483648 : Int64) ∈ hWS := hWS_in (i := 1545) (by decide +kernel) (by decide +kernel)
theorem wd353 : Cond.fieldLink RX10 266 RX10 "drawMany" "I" ∈ hWS := hWS_in (i := 1238) (by decide +kernel) (by decide +kernel)
theorem wd354 : Cond.constantLong RX10 269 (65536 : Int64) ∈ hWS := hWS_in (i := 1546) (by decide +kernel) (by decide +kernel)
theorem wd355 : Cond.constantLong RX10 271 (10 : Int64) ∈ hWS := hWS_in (i := 1547) (by decide +kernel) (by decide +kernel)
theorem wd356 : Cond.fieldLink RX10 40 RX10 "passedOn" "[I" ∈ hWS := hWS_in (i := 1233) (by decide +kernel) (by decide +kernel)
theorem wd357 : Cond.methodLink RX10 273 yX10_doEat ∈ hWS := hWS_in (i := 1535) (by decide +kernel) (by decide +kernel)
theorem wd358 : Cond.methodLink RX10 276 yX10_drawsWell ∈ hWS := hWS_in (i := 1539) (by decide +kernel) (by decide +kernel)
theorem wd359 : Cond.methodLink RX10 279 yX10_whyOn ∈ hWS := hWS_in (i := 1548) (by decide +kernel) (by decide +kernel)
theorem wd360 : Cond.methodLink RX10 283 yX10_layAsked ∈ hWS := hWS_in (i := 1527) (by decide +kernel) (by decide +kernel)
theorem wd361 : Cond.methodLink RX10 286 yX10_goDays ∈ hWS := hWS_in (i := 1531) (by decide +kernel) (by decide +kernel)
theorem wd362 : Cond.methodLink RX10 289 yX10_asksCamp ∈ hWS := hWS_in (i := 1523) (by decide +kernel) (by decide +kernel)
theorem wd363 : Cond.methodLink RX10 292 yX10_asksDay ∈ hWS := hWS_in (i := 1519) (by decide +kernel) (by decide +kernel)
theorem wd364 : Cond.methodLink RX10 295 yX10_actsOf ∈ hWS := hWS_in (i := 1568) (by decide +kernel) (by decide +kernel)
theorem wd365 : Cond.methodLink RX10 298 Lib.Math.max.name ∈ hWS := hWS_in (i := 1588) (by decide +kernel) (by decide +kernel)
theorem wd366 : Cond.methodLink RX10 301 yX10_allDays ∈ hWS := hWS_in (i := 1580) (by decide +kernel) (by decide +kernel)
theorem wd367 : Cond.methodLink RX10 304 yX10_runOf ∈ hWS := hWS_in (i := 1584) (by decide +kernel) (by decide +kernel)
theorem wd368 : Cond.methodLink RX10 307 yX10_asksBill ∈ hWS := hWS_in (i := 1601) (by decide +kernel) (by decide +kernel)
theorem wd369 : Cond.fieldLink RX10 316 RX10 "withoutAugur" "I" ∈ hWS := hWS_in (i := 1245) (by decide +kernel) (by decide +kernel)
theorem wd370 : Cond.fieldLink RX10 319 RX10 "watchBesides" "I" ∈ hWS := hWS_in (i := 1244) (by decide +kernel) (by decide +kernel)
theorem wd371 : Cond.fieldLink RX10 322 RX10 "withoutMark" "I" ∈ hWS := hWS_in (i := 1246) (by decide +kernel) (by decide +kernel)
theorem wd372 : Cond.fieldLink RX10 310 RX10 "owns" "I" ∈ hWS := hWS_in (i := 1243) (by decide +kernel) (by decide +kernel)
theorem wd373 : Cond.fieldLink RX10 65 RX10 "banned" "I" ∈ hWS := hWS_in (i := 1248) (by decide +kernel) (by decide +kernel)
theorem wd374 : Cond.fieldLink RX10 62 RX10 "freeOf" "[I" ∈ hWS := hWS_in (i := 1247) (by decide +kernel) (by decide +kernel)
theorem wd375 : Cond.methodLink RX10 313 yX10_freeDays ∈ hWS := hWS_in (i := 1625) (by decide +kernel) (by decide +kernel)
theorem wd376 : Cond.fieldLink RX10 59 RX10 "own" "[I" ∈ hWS := hWS_in (i := 1242) (by decide +kernel) (by decide +kernel)
theorem wd377 : Cond.methodLink RX10 325 yX10_state ∈ hWS := hWS_in (i := 1633) (by decide +kernel) (by decide +kernel)
theorem wd378 : Cond.methodLink RX10 329 yX10_then ∈ hWS := hWS_in (i := 1636) (by decide +kernel) (by decide +kernel)
theorem wd379 : Cond.fieldLink RX10 50 RX10 "planWorth" "[I" ∈ hWS := hWS_in (i := 1239) (by decide +kernel) (by decide +kernel)
theorem wd380 : Cond.fieldLink RX10 53 RX10 "planWays" "[I" ∈ hWS := hWS_in (i := 1240) (by decide +kernel) (by decide +kernel)
theorem wd381 : Cond.fieldLink RX10 56 RX10 "planMany" "[I" ∈ hWS := hWS_in (i := 1241) (by decide +kernel) (by decide +kernel)
theorem wd382 : Cond.methodLink RX10 332 yX10_mayPass ∈ hWS := hWS_in (i := 1640) (by decide +kernel) (by decide +kernel)
theorem wd383 : Cond.methodLink RX10 336 yX10_layOwn ∈ hWS := hWS_in (i := 1621) (by decide +kernel) (by decide +kernel)
theorem wd384 : Cond.methodLink RX10 343 yX10_startState ∈ hWS := hWS_in (i := 1644) (by decide +kernel) (by decide +kernel)
theorem wd385 : Cond.methodLink RX10 339 yX10_layState ∈ hWS := hWS_in (i := 1629) (by decide +kernel) (by decide +kernel)
theorem wd386 : Cond.methodLink RX10 346 yX10_layPlans ∈ hWS := hWS_in (i := 1617) (by decide +kernel) (by decide +kernel)
theorem wd387 : Cond.methodLink RX10 349 yX10_withoutOf ∈ hWS := hWS_in (i := 1668) (by decide +kernel) (by decide +kernel)
theorem wd388 : Cond.methodLink RX10 352 yX10_needsOf ∈ hWS := hWS_in (i := 1680) (by decide +kernel) (by decide +kernel)
theorem wd389 : Cond.methodLink RX10 355 yX10_bits ∈ hWS := hWS_in (i := 1692) (by decide +kernel) (by decide +kernel)
theorem wd390 : Cond.methodLink RX10 358 yX10_soonestBy ∈ hWS := hWS_in (i := 1699) (by decide +kernel) (by decide +kernel)
theorem wd391 : Cond.methodLink RX10 361 yX10_stopOf ∈ hWS := hWS_in (i := 1711) (by decide +kernel) (by decide +kernel)
theorem wd392 : Cond.fieldLink RX10 364 RX10 "spoiltWorth" "I" ∈ hWS := hWS_in (i := 1249) (by decide +kernel) (by decide +kernel)
theorem wd393 : Cond.methodLink RX10 367 yX10_spoilOf ∈ hWS := hWS_in (i := 1723) (by decide +kernel) (by decide +kernel)
theorem wd394 : Cond.methodLink RX10 370 yX10_sideAugurs ∈ hWS := hWS_in (i := 1747) (by decide +kernel) (by decide +kernel)
theorem wd395 : Cond.methodLink RX10 373 yX10_chosenOf ∈ hWS := hWS_in (i := 1743) (by decide +kernel) (by decide +kernel)
theorem wd396 : Cond.constantLong RX10 376 (8 : Int64) ∈ hWS := hWS_in (i := 1759) (by decide +kernel) (by decide +kernel)
theorem wd397 : Cond.methodLink RX10 378 yX10_fallsBy ∈ hWS := hWS_in (i := 1788) (by decide +kernel) (by decide +kernel)
theorem wd398 : Cond.methodLink RX10 381 yX10_worthBy ∈ hWS := hWS_in (i := 1796) (by decide +kernel) (by decide +kernel)
theorem wd399 : Cond.fieldLink RX10 80 RX10 "numbers" "[J" ∈ hWS := hWS_in (i := 1256) (by decide +kernel) (by decide +kernel)
theorem wd400 : Cond.constantLong RX10 459 (3 : Int64) ∈ hWS := hWS_in (i := 1811) (by decide +kernel) (by decide +kernel)
theorem wd401 : Cond.methodLink RX10 384 yX10_isSlot ∈ hWS := hWS_in (i := 1808) (by decide +kernel) (by decide +kernel)
theorem wd402 : Cond.fieldLink RX10 74 RX10 "many" "[I" ∈ hWS := hWS_in (i := 1254) (by decide +kernel) (by decide +kernel)
theorem wd403 : Cond.methodLink RX10 387 yX10_numberAt ∈ hWS := hWS_in (i := 1812) (by decide +kernel) (by decide +kernel)
theorem wd404 : Cond.fieldLink RX10 391 RX10 "pairMany" "I" ∈ hWS := hWS_in (i := 1251) (by decide +kernel) (by decide +kernel)
theorem wd405 : Cond.methodLink RX10 394 yX10_eatsBy ∈ hWS := hWS_in (i := 1816) (by decide +kernel) (by decide +kernel)
theorem wd406 : Cond.fieldLink RX10 68 RX10 "pairs" "[I" ∈ hWS := hWS_in (i := 1250) (by decide +kernel) (by decide +kernel)
theorem wd407 : Cond.methodLink RX10 397 yX10_layPairs ∈ hWS := hWS_in (i := 1804) (by decide +kernel) (by decide +kernel)
theorem wd408 : Cond.methodLink RX10 400 yX10_fedSet ∈ hWS := hWS_in (i := 1824) (by decide +kernel) (by decide +kernel)
theorem wd409 : Cond.fieldLink RX10 403 RX10 "askWorst" "I" ∈ hWS := hWS_in (i := 1252) (by decide +kernel) (by decide +kernel)
theorem wd410 : Cond.methodLink RX10 406 yX10_askOf ∈ hWS := hWS_in (i := 1840) (by decide +kernel) (by decide +kernel)
theorem wd411 : Cond.fieldLink RX10 71 RX10 "tallies" "[I" ∈ hWS := hWS_in (i := 1253) (by decide +kernel) (by decide +kernel)
theorem wd412 : Cond.methodLink RX10 409 yX10_layList ∈ hWS := hWS_in (i := 1852) (by decide +kernel) (by decide +kernel)
theorem wd413 : Cond.methodLink RX10 413 yX10_divisor ∈ hWS := hWS_in (i := 1866) (by decide +kernel) (by decide +kernel)
theorem wd414 : Cond.methodLink RX10 417 yX10_choose ∈ hWS := hWS_in (i := 1860) (by decide +kernel) (by decide +kernel)
theorem wd415 : Cond.methodLink RX10 420 yX10_part ∈ hWS := hWS_in (i := 1863) (by decide +kernel) (by decide +kernel)
theorem wd416 : Cond.methodLink RX10 424 yJ6_compare_7cf53 ∈ hWS := hWS_in (i := 1877) (by decide +kernel) (by decide +kernel)
theorem wd417 : Cond.methodLink RX10 429 yX10_general ∈ hWS := hWS_in (i := 1886) (by decide +kernel) (by decide +kernel)
theorem wd418 : Cond.methodLink RX10 433 yX10_augur_ ∈ hWS := hWS_in (i := 1889) (by decide +kernel) (by decide +kernel)
theorem wd419 : Cond.constantLong RX10 435 (99 : Int64) ∈ hWS := hWS_in (i := 1882) (by decide +kernel) (by decide +kernel)
theorem wd420 : Cond.methodLink RX10 437 yX10_isRest ∈ hWS := hWS_in (i := 1883) (by decide +kernel) (by decide +kernel)
theorem wd421 : Cond.constantLong RX10 441 (-2 : Int64) ∈ hWS := hWS_in (i := 1900) (by decide +kernel) (by decide +kernel)
theorem wd422 : Cond.methodLink RX10 443 yX10_keepAct ∈ hWS := hWS_in (i := 1905) (by decide +kernel) (by decide +kernel)
theorem wd423 : Cond.constantLong RX10 446 (2000000000 : Int64) ∈ hWS := hWS_in (i := 1928) (by decide +kernel) (by decide +kernel)
theorem wd424 : Cond.methodLink RX10 448 yX10_isSeed ∈ hWS := hWS_in (i := 1925) (by decide +kernel) (by decide +kernel)
theorem wd425 : Cond.methodLink RX10 451 yX10_goDrawn ∈ hWS := hWS_in (i := 1929) (by decide +kernel) (by decide +kernel)
theorem wd426 : Cond.constantLong RX10 455 (20 : Int64) ∈ hWS := hWS_in (i := 1937) (by decide +kernel) (by decide +kernel)
theorem wd427 : Cond.constantLong RX10 457 (7 : Int64) ∈ hWS := hWS_in (i := 1946) (by decide +kernel) (by decide +kernel)
theorem wd428 : Cond.fieldLink RX10 77 RX10 "width" "[I" ∈ hWS := hWS_in (i := 1255) (by decide +kernel) (by decide +kernel)
theorem wd429 : Cond.methodLink RX10 461 yX10_cut ∈ hWS := hWS_in (i := 1955) (by decide +kernel) (by decide +kernel)
theorem wd430 : Cond.fieldLink RX10 84 RX10 "moving" "[J" ∈ hWS := hWS_in (i := 1257) (by decide +kernel) (by decide +kernel)
theorem cfX8_append : hCF yX8_append cX8_append 3 (none) 1 := ⟨hWS_in (i := 374) (by decide +kernel) (by decide +kernel), hWS_in (i := 375) (by decide +kernel) (by decide +kernel), hWS_in (i := 2) (by decide +kernel) (by decide +kernel), hWS_in (i := 376) (by decide +kernel) (by decide +kernel), by decide +kernel⟩
theorem cfX0_forget : hCF yX0_forget cX0_forget 1 (none) 0 := ⟨hWS_in (i := 390) (by decide +kernel) (by decide +kernel), hWS_in (i := 391) (by decide +kernel) (by decide +kernel), hWS_in (i := 9) (by decide +kernel) (by decide +kernel), hWS_in (i := 392) (by decide +kernel) (by decide +kernel), by decide +kernel⟩
theorem cfX4_byteAt : hCF yX4_byteAt cX4_byteAt 2 (some .int) 1 := ⟨hWS_in (i := 399) (by decide +kernel) (by decide +kernel), hWS_sel (i := 1) (n := 8) (by decide +kernel), hWS_in (i := 3) (by decide +kernel) (by decide +kernel), hWS_in (i := 400) (by decide +kernel) (by decide +kernel), by decide +kernel⟩
theorem cfX4_kindOf : hCS yX4_kindOf cX4_kindOf 1 (some .int) 1 := ⟨hWS_in (i := 402) (by decide +kernel) (by decide +kernel), hWS_in (i := 3) (by decide +kernel) (by decide +kernel), hWS_in (i := 403) (by decide +kernel) (by decide +kernel), by decide +kernel⟩
theorem cfX4_step : hCF yX4_step cX4_step 2 (none) 0 := ⟨hWS_in (i := 395) (by decide +kernel) (by decide +kernel), hWS_sel (i := 0) (n := 8) (by decide +kernel), hWS_in (i := 3) (by decide +kernel) (by decide +kernel), hWS_in (i := 396) (by decide +kernel) (by decide +kernel), by decide +kernel⟩
theorem cfX4_isWord : hCF yX4_isWord cX4_isWord 3 (some .boolean) 1 := ⟨hWS_in (i := 422) (by decide +kernel) (by decide +kernel), hWS_sel (i := 5) (n := 8) (by decide +kernel), hWS_in (i := 3) (by decide +kernel) (by decide +kernel), hWS_in (i := 423) (by decide +kernel) (by decide +kernel), by decide +kernel⟩
theorem cfX4_fail : hCF yX4_fail cX4_fail 2 (none) 1 := ⟨hWS_in (i := 474) (by decide +kernel) (by decide +kernel), hWS_sel (i := 6) (n := 8) (by decide +kernel), hWS_in (i := 3) (by decide +kernel) (by decide +kernel), hWS_in (i := 475) (by decide +kernel) (by decide +kernel), by decide +kernel⟩
theorem cfX4_takeWord : hCF yX4_takeWord cX4_takeWord 2 (none) 1 := ⟨hWS_in (i := 418) (by decide +kernel) (by decide +kernel), hWS_sel (i := 4) (n := 8) (by decide +kernel), hWS_in (i := 3) (by decide +kernel) (by decide +kernel), hWS_in (i := 419) (by decide +kernel) (by decide +kernel), by decide +kernel⟩
theorem cfX4_takeNumber : hCF yX4_takeNumber cX4_takeNumber 4 (some .int) 2 := ⟨hWS_in (i := 479) (by decide +kernel) (by decide +kernel), hWS_sel (i := 7) (n := 8) (by decide +kernel), hWS_in (i := 3) (by decide +kernel) (by decide +kernel), hWS_in (i := 480) (by decide +kernel) (by decide +kernel), by decide +kernel⟩
theorem cfX4_readCamp : hCF yX4_readCamp cX4_readCamp 5 (none) 0 := ⟨hWS_in (i := 413) (by decide +kernel) (by decide +kernel), hWS_sel (i := 3) (n := 8) (by decide +kernel), hWS_in (i := 3) (by decide +kernel) (by decide +kernel), hWS_in (i := 414) (by decide +kernel) (by decide +kernel), by decide +kernel⟩
theorem cfX4_readMark : hCF yX4_readMark cX4_readMark 2 (none) 0 := ⟨hWS_in (i := 487) (by decide +kernel) (by decide +kernel), hWS_sel (i := 8) (n := 8) (by decide +kernel), hWS_in (i := 3) (by decide +kernel) (by decide +kernel), hWS_in (i := 488) (by decide +kernel) (by decide +kernel), by decide +kernel⟩
theorem cfX4_readAugur : hCF yX4_readAugur cX4_readAugur 4 (none) 0 := ⟨hWS_in (i := 492) (by decide +kernel) (by decide +kernel), hWS_sel (i := 9) (n := 8) (by decide +kernel), hWS_in (i := 3) (by decide +kernel) (by decide +kernel), hWS_in (i := 493) (by decide +kernel) (by decide +kernel), by decide +kernel⟩
theorem cfX4_readBill : hCF yX4_readBill cX4_readBill 4 (none) 0 := ⟨hWS_in (i := 500) (by decide +kernel) (by decide +kernel), hWS_sel (i := 10) (n := 8) (by decide +kernel), hWS_in (i := 3) (by decide +kernel) (by decide +kernel), hWS_in (i := 501) (by decide +kernel) (by decide +kernel), by decide +kernel⟩
theorem cfX4_takeSign : hCF yX4_takeSign cX4_takeSign 1 (none) 0 := ⟨hWS_in (i := 506) (by decide +kernel) (by decide +kernel), hWS_sel (i := 11) (n := 8) (by decide +kernel), hWS_in (i := 3) (by decide +kernel) (by decide +kernel), hWS_in (i := 507) (by decide +kernel) (by decide +kernel), by decide +kernel⟩
theorem cfX4_readLine : hCF yX4_readLine cX4_readLine 1 (none) 0 := ⟨hWS_in (i := 409) (by decide +kernel) (by decide +kernel), hWS_sel (i := 2) (n := 8) (by decide +kernel), hWS_in (i := 3) (by decide +kernel) (by decide +kernel), hWS_in (i := 410) (by decide +kernel) (by decide +kernel), by decide +kernel⟩
theorem cfX4_read : hCF yX4_read cX4_read 4 (some .boolean) 2 := ⟨hWS_in (i := 386) (by decide +kernel) (by decide +kernel), hWS_in (i := 387) (by decide +kernel) (by decide +kernel), hWS_in (i := 3) (by decide +kernel) (by decide +kernel), hWS_in (i := 388) (by decide +kernel) (by decide +kernel), by decide +kernel⟩
theorem cfX0_hasAugur : hCF yX0_hasAugur cX0_hasAugur 2 (some .boolean) 1 := ⟨hWS_in (i := 517) (by decide +kernel) (by decide +kernel), hWS_in (i := 518) (by decide +kernel) (by decide +kernel), hWS_in (i := 9) (by decide +kernel) (by decide +kernel), hWS_in (i := 519) (by decide +kernel) (by decide +kernel), by decide +kernel⟩
theorem cfX0_hasBill : hCF yX0_hasBill cX0_hasBill 2 (some .boolean) 1 := ⟨hWS_in (i := 525) (by decide +kernel) (by decide +kernel), hWS_in (i := 526) (by decide +kernel) (by decide +kernel), hWS_in (i := 9) (by decide +kernel) (by decide +kernel), hWS_in (i := 527) (by decide +kernel) (by decide +kernel), by decide +kernel⟩
theorem cfX0_isTold : hCF yX0_isTold cX0_isTold 1 (some .boolean) 0 := ⟨hWS_in (i := 533) (by decide +kernel) (by decide +kernel), hWS_in (i := 534) (by decide +kernel) (by decide +kernel), hWS_in (i := 9) (by decide +kernel) (by decide +kernel), hWS_in (i := 535) (by decide +kernel) (by decide +kernel), by decide +kernel⟩
theorem cfX9_isChoice : hCS yX9_isChoice cX9_isChoice 1 (some .boolean) 1 := ⟨hWS_in (i := 546) (by decide +kernel) (by decide +kernel), hWS_in (i := 1) (by decide +kernel) (by decide +kernel), hWS_in (i := 547) (by decide +kernel) (by decide +kernel), by decide +kernel⟩
theorem cfX0_hasSide : hCF yX0_hasSide cX0_hasSide 2 (some .boolean) 1 := ⟨hWS_in (i := 541) (by decide +kernel) (by decide +kernel), hWS_in (i := 542) (by decide +kernel) (by decide +kernel), hWS_in (i := 9) (by decide +kernel) (by decide +kernel), hWS_in (i := 543) (by decide +kernel) (by decide +kernel), by decide +kernel⟩
theorem cfX0_augursOf : hCF yX0_augursOf cX0_augursOf 4 (some .int) 1 := ⟨hWS_in (i := 549) (by decide +kernel) (by decide +kernel), hWS_in (i := 550) (by decide +kernel) (by decide +kernel), hWS_in (i := 9) (by decide +kernel) (by decide +kernel), hWS_in (i := 551) (by decide +kernel) (by decide +kernel), by decide +kernel⟩
theorem cfX9_holds : hCS yX9_holds cX9_holds 2 (some .boolean) 2 := ⟨hWS_in (i := 557) (by decide +kernel) (by decide +kernel), hWS_in (i := 1) (by decide +kernel) (by decide +kernel), hWS_in (i := 558) (by decide +kernel) (by decide +kernel), by decide +kernel⟩
theorem cfX0_daysOfAugur : hCF yX0_daysOfAugur cX0_daysOfAugur 2 (some .int) 1 := ⟨hWS_in (i := 560) (by decide +kernel) (by decide +kernel), hWS_in (i := 561) (by decide +kernel) (by decide +kernel), hWS_in (i := 9) (by decide +kernel) (by decide +kernel), hWS_in (i := 562) (by decide +kernel) (by decide +kernel), by decide +kernel⟩
theorem cfX0_skyOf : hCF yX0_skyOf cX0_skyOf 4 (some .int) 1 := ⟨hWS_in (i := 553) (by decide +kernel) (by decide +kernel), hWS_in (i := 554) (by decide +kernel) (by decide +kernel), hWS_in (i := 9) (by decide +kernel) (by decide +kernel), hWS_in (i := 555) (by decide +kernel) (by decide +kernel), by decide +kernel⟩
theorem cfX0_hasDay : hCF yX0_hasDay cX0_hasDay 2 (some .boolean) 1 := ⟨hWS_in (i := 568) (by decide +kernel) (by decide +kernel), hWS_in (i := 569) (by decide +kernel) (by decide +kernel), hWS_in (i := 9) (by decide +kernel) (by decide +kernel), hWS_in (i := 570) (by decide +kernel) (by decide +kernel), by decide +kernel⟩
theorem cfX0_augursOn : hCF yX0_augursOn cX0_augursOn 4 (some .int) 1 := ⟨hWS_in (i := 572) (by decide +kernel) (by decide +kernel), hWS_in (i := 573) (by decide +kernel) (by decide +kernel), hWS_in (i := 9) (by decide +kernel) (by decide +kernel), hWS_in (i := 574) (by decide +kernel) (by decide +kernel), by decide +kernel⟩
theorem cfX0_allDays : hCF yX0_allDays cX0_allDays 1 (some .int) 0 := ⟨hWS_in (i := 596) (by decide +kernel) (by decide +kernel), hWS_in (i := 597) (by decide +kernel) (by decide +kernel), hWS_in (i := 9) (by decide +kernel) (by decide +kernel), hWS_in (i := 598) (by decide +kernel) (by decide +kernel), by decide +kernel⟩
theorem cfX0_clearDays : hCF yX0_clearDays cX0_clearDays 2 (some .int) 1 := ⟨hWS_in (i := 592) (by decide +kernel) (by decide +kernel), hWS_in (i := 593) (by decide +kernel) (by decide +kernel), hWS_in (i := 9) (by decide +kernel) (by decide +kernel), hWS_in (i := 594) (by decide +kernel) (by decide +kernel), by decide +kernel⟩
theorem cfX6_layOut : hCF yX6_layOut cX6_layOut 4 (none) 1 := ⟨hWS_in (i := 589) (by decide +kernel) (by decide +kernel), hWS_sel (i := 13) (n := 8) (by decide +kernel), hWS_in (i := 4) (by decide +kernel) (by decide +kernel), hWS_in (i := 590) (by decide +kernel) (by decide +kernel), by decide +kernel⟩
theorem cfX6_nextDraw : hCF yX6_nextDraw cX6_nextDraw 1 (some .int) 0 := ⟨hWS_in (i := 603) (by decide +kernel) (by decide +kernel), hWS_sel (i := 14) (n := 8) (by decide +kernel), hWS_in (i := 4) (by decide +kernel) (by decide +kernel), hWS_in (i := 604) (by decide +kernel) (by decide +kernel), by decide +kernel⟩
theorem cfX6_hasPassedAhead : hCF yX6_hasPassedAhead cX6_hasPassedAhead 3 (some .boolean) 2 := ⟨hWS_in (i := 621) (by decide +kernel) (by decide +kernel), hWS_sel (i := 17) (n := 8) (by decide +kernel), hWS_in (i := 4) (by decide +kernel) (by decide +kernel), hWS_in (i := 622) (by decide +kernel) (by decide +kernel), by decide +kernel⟩
theorem cfX6_whyNot : hCF yX6_whyNot cX6_whyNot 5 (some .int) 4 := ⟨hWS_in (i := 616) (by decide +kernel) (by decide +kernel), hWS_sel (i := 16) (n := 8) (by decide +kernel), hWS_in (i := 4) (by decide +kernel) (by decide +kernel), hWS_in (i := 617) (by decide +kernel) (by decide +kernel), by decide +kernel⟩
theorem cfX6_settle : hCF yX6_settle cX6_settle 5 (none) 4 := ⟨hWS_in (i := 612) (by decide +kernel) (by decide +kernel), hWS_sel (i := 15) (n := 8) (by decide +kernel), hWS_in (i := 4) (by decide +kernel) (by decide +kernel), hWS_in (i := 613) (by decide +kernel) (by decide +kernel), by decide +kernel⟩
theorem cfX6_live : hCF yX6_live cX6_live 7 (none) 2 := ⟨hWS_in (i := 585) (by decide +kernel) (by decide +kernel), hWS_sel (i := 12) (n := 8) (by decide +kernel), hWS_in (i := 4) (by decide +kernel) (by decide +kernel), hWS_in (i := 586) (by decide +kernel) (by decide +kernel), by decide +kernel⟩
theorem cfX6_play : hCF yX6_play cX6_play 2 (none) 1 := ⟨hWS_in (i := 580) (by decide +kernel) (by decide +kernel), hWS_in (i := 581) (by decide +kernel) (by decide +kernel), hWS_in (i := 4) (by decide +kernel) (by decide +kernel), hWS_in (i := 582) (by decide +kernel) (by decide +kernel), by decide +kernel⟩
theorem cfX6_couldPass : hCF yX6_couldPass cX6_couldPass 5 (some .boolean) 3 := ⟨hWS_in (i := 632) (by decide +kernel) (by decide +kernel), hWS_in (i := 633) (by decide +kernel) (by decide +kernel), hWS_in (i := 4) (by decide +kernel) (by decide +kernel), hWS_in (i := 634) (by decide +kernel) (by decide +kernel), by decide +kernel⟩
theorem cfX0_askedDays : hCF yX0_askedDays cX0_askedDays 3 (some .int) 0 := ⟨hWS_in (i := 644) (by decide +kernel) (by decide +kernel), hWS_in (i := 645) (by decide +kernel) (by decide +kernel), hWS_in (i := 9) (by decide +kernel) (by decide +kernel), hWS_in (i := 646) (by decide +kernel) (by decide +kernel), by decide +kernel⟩
theorem cfX0_fedDays : hCF yX0_fedDays cX0_fedDays 3 (some .int) 0 := ⟨hWS_in (i := 652) (by decide +kernel) (by decide +kernel), hWS_in (i := 653) (by decide +kernel) (by decide +kernel), hWS_in (i := 9) (by decide +kernel) (by decide +kernel), hWS_in (i := 654) (by decide +kernel) (by decide +kernel), by decide +kernel⟩
theorem cfX9_longestRun : hCS yX9_longestRun cX9_longestRun 4 (some .int) 1 := ⟨hWS_in (i := 661) (by decide +kernel) (by decide +kernel), hWS_in (i := 1) (by decide +kernel) (by decide +kernel), hWS_in (i := 662) (by decide +kernel) (by decide +kernel), by decide +kernel⟩
theorem cfX6_lastActAhead : hCF yX6_lastActAhead cX6_lastActAhead 3 (some .int) 1 := ⟨hWS_in (i := 672) (by decide +kernel) (by decide +kernel), hWS_in (i := 673) (by decide +kernel) (by decide +kernel), hWS_in (i := 4) (by decide +kernel) (by decide +kernel), hWS_in (i := 674) (by decide +kernel) (by decide +kernel), by decide +kernel⟩
theorem cfX6_passingOn : hCF yX6_passingOn cX6_passingOn 4 (some .int) 2 := ⟨hWS_in (i := 680) (by decide +kernel) (by decide +kernel), hWS_in (i := 681) (by decide +kernel) (by decide +kernel), hWS_in (i := 4) (by decide +kernel) (by decide +kernel), hWS_in (i := 682) (by decide +kernel) (by decide +kernel), by decide +kernel⟩
theorem cfX6_passing : hCF yX6_passing cX6_passing 4 (some .int) 1 := ⟨hWS_in (i := 696) (by decide +kernel) (by decide +kernel), hWS_in (i := 697) (by decide +kernel) (by decide +kernel), hWS_in (i := 4) (by decide +kernel) (by decide +kernel), hWS_in (i := 698) (by decide +kernel) (by decide +kernel), by decide +kernel⟩
theorem cfX0_billsOf : hCF yX0_billsOf cX0_billsOf 4 (some .int) 1 := ⟨hWS_in (i := 700) (by decide +kernel) (by decide +kernel), hWS_in (i := 701) (by decide +kernel) (by decide +kernel), hWS_in (i := 9) (by decide +kernel) (by decide +kernel), hWS_in (i := 702) (by decide +kernel) (by decide +kernel), by decide +kernel⟩
theorem cfX0_worthOf : hCF yX0_worthOf cX0_worthOf 4 (some .int) 1 := ⟨hWS_in (i := 704) (by decide +kernel) (by decide +kernel), hWS_in (i := 705) (by decide +kernel) (by decide +kernel), hWS_in (i := 9) (by decide +kernel) (by decide +kernel), hWS_in (i := 706) (by decide +kernel) (by decide +kernel), by decide +kernel⟩
theorem cfX3_billsByWorth : hCF yX3_billsByWorth cX3_billsByWorth 3 (none) 1 := ⟨hWS_in (i := 720) (by decide +kernel) (by decide +kernel), hWS_in (i := 721) (by decide +kernel) (by decide +kernel), hWS_in (i := 5) (by decide +kernel) (by decide +kernel), hWS_in (i := 722) (by decide +kernel) (by decide +kernel), by decide +kernel⟩
theorem cfX0_firstHungryDay : hCF yX0_firstHungryDay cX0_firstHungryDay 1 (some .int) 0 := ⟨hWS_in (i := 728) (by decide +kernel) (by decide +kernel), hWS_in (i := 729) (by decide +kernel) (by decide +kernel), hWS_in (i := 9) (by decide +kernel) (by decide +kernel), hWS_in (i := 730) (by decide +kernel) (by decide +kernel), by decide +kernel⟩
theorem cfX3_openBill : hCF yX3_openBill cX3_openBill 4 (none) 2 := ⟨hWS_in (i := 740) (by decide +kernel) (by decide +kernel), hWS_sel (i := 20) (n := 8) (by decide +kernel), hWS_in (i := 5) (by decide +kernel) (by decide +kernel), hWS_in (i := 741) (by decide +kernel) (by decide +kernel), by decide +kernel⟩
theorem cfJ6_bitCount_0f7a4 : hCS yJ6_bitCount_0f7a4 cJ6_bitCount_0f7a4 1 (some .int) 1 := ⟨hWS_in (i := 747) (by decide +kernel) (by decide +kernel), hWS_in (i := 17) (by decide +kernel) (by decide +kernel), hWS_in (i := 748) (by decide +kernel) (by decide +kernel), by decide +kernel⟩
theorem cfX3_settle : hCF yX3_settle cX3_settle 11 (none) 2 := ⟨hWS_in (i := 754) (by decide +kernel) (by decide +kernel), hWS_sel (i := 22) (n := 8) (by decide +kernel), hWS_in (i := 5) (by decide +kernel) (by decide +kernel), hWS_in (i := 755) (by decide +kernel) (by decide +kernel), by decide +kernel⟩
theorem cfX3_goBack : hCF yX3_goBack cX3_goBack 4 (none) 1 := ⟨hWS_in (i := 744) (by decide +kernel) (by decide +kernel), hWS_sel (i := 21) (n := 8) (by decide +kernel), hWS_in (i := 5) (by decide +kernel) (by decide +kernel), hWS_in (i := 745) (by decide +kernel) (by decide +kernel), by decide +kernel⟩
theorem cfX3_solve : hCF yX3_solve cX3_solve 9 (some .int) 5 := ⟨hWS_in (i := 724) (by decide +kernel) (by decide +kernel), hWS_in (i := 725) (by decide +kernel) (by decide +kernel), hWS_in (i := 5) (by decide +kernel) (by decide +kernel), hWS_in (i := 726) (by decide +kernel) (by decide +kernel), by decide +kernel⟩
theorem cfX9_worthOfPlans : hCF yX9_worthOfPlans cX9_worthOfPlans 5 (some .int) 4 := ⟨hWS_in (i := 717) (by decide +kernel) (by decide +kernel), hWS_sel (i := 19) (n := 12) (by decide +kernel), hWS_in (i := 1) (by decide +kernel) (by decide +kernel), hWS_in (i := 718) (by decide +kernel) (by decide +kernel), by decide +kernel⟩
theorem cfX9_worthOfPlan : hCF yX9_worthOfPlan cX9_worthOfPlan 2 (some .int) 1 := ⟨hWS_in (i := 713) (by decide +kernel) (by decide +kernel), hWS_sel (i := 18) (n := 12) (by decide +kernel), hWS_in (i := 1) (by decide +kernel) (by decide +kernel), hWS_in (i := 714) (by decide +kernel) (by decide +kernel), by decide +kernel⟩
theorem cfX3_firstBill : hCF yX3_firstBill cX3_firstBill 8 (some .int) 2 := ⟨hWS_in (i := 767) (by decide +kernel) (by decide +kernel), hWS_sel (i := 23) (n := 8) (by decide +kernel), hWS_in (i := 5) (by decide +kernel) (by decide +kernel), hWS_in (i := 768) (by decide +kernel) (by decide +kernel), by decide +kernel⟩
theorem cfX3_billInFirstPlan : hCF yX3_billInFirstPlan cX3_billInFirstPlan 6 (some .int) 1 := ⟨hWS_in (i := 762) (by decide +kernel) (by decide +kernel), hWS_in (i := 763) (by decide +kernel) (by decide +kernel), hWS_in (i := 5) (by decide +kernel) (by decide +kernel), hWS_in (i := 764) (by decide +kernel) (by decide +kernel), by decide +kernel⟩
theorem cfX3_howManyPlans : hCF yX3_howManyPlans cX3_howManyPlans 1 (some .int) 0 := ⟨hWS_in (i := 774) (by decide +kernel) (by decide +kernel), hWS_in (i := 775) (by decide +kernel) (by decide +kernel), hWS_in (i := 5) (by decide +kernel) (by decide +kernel), hWS_in (i := 776) (by decide +kernel) (by decide +kernel), by decide +kernel⟩
theorem cfX3_billsAlike : hCF yX3_billsAlike cX3_billsAlike 3 (none) 1 := ⟨hWS_in (i := 782) (by decide +kernel) (by decide +kernel), hWS_in (i := 783) (by decide +kernel) (by decide +kernel), hWS_in (i := 5) (by decide +kernel) (by decide +kernel), hWS_in (i := 784) (by decide +kernel) (by decide +kernel), by decide +kernel⟩
theorem cfX0_needsOf : hCF yX0_needsOf cX0_needsOf 5 (some .int) 1 := ⟨hWS_in (i := 798) (by decide +kernel) (by decide +kernel), hWS_in (i := 799) (by decide +kernel) (by decide +kernel), hWS_in (i := 9) (by decide +kernel) (by decide +kernel), hWS_in (i := 800) (by decide +kernel) (by decide +kernel), by decide +kernel⟩
theorem cfX1_lengthOf : hCF yX1_lengthOf cX1_lengthOf 5 (some .int) 2 := ⟨hWS_in (i := 795) (by decide +kernel) (by decide +kernel), hWS_sel (i := 24) (n := 1) (by decide +kernel), hWS_in (i := 6) (by decide +kernel) (by decide +kernel), hWS_in (i := 796) (by decide +kernel) (by decide +kernel), by decide +kernel⟩
theorem cfX1_dayOfPass : hCF yX1_dayOfPass cX1_dayOfPass 7 (some .int) 3 := ⟨hWS_in (i := 806) (by decide +kernel) (by decide +kernel), hWS_sel (i := 25) (n := 1) (by decide +kernel), hWS_in (i := 6) (by decide +kernel) (by decide +kernel), hWS_in (i := 807) (by decide +kernel) (by decide +kernel), by decide +kernel⟩
theorem cfX1_soonestDay : hCF yX1_soonestDay cX1_soonestDay 4 (some .int) 2 := ⟨hWS_in (i := 790) (by decide +kernel) (by decide +kernel), hWS_in (i := 791) (by decide +kernel) (by decide +kernel), hWS_in (i := 6) (by decide +kernel) (by decide +kernel), hWS_in (i := 792) (by decide +kernel) (by decide +kernel), by decide +kernel⟩
theorem cfX1_latestDay : hCF yX1_latestDay cX1_latestDay 7 (some .int) 2 := ⟨hWS_in (i := 815) (by decide +kernel) (by decide +kernel), hWS_in (i := 816) (by decide +kernel) (by decide +kernel), hWS_in (i := 6) (by decide +kernel) (by decide +kernel), hWS_in (i := 817) (by decide +kernel) (by decide +kernel), by decide +kernel⟩
theorem cfX9_worthWithout : hCF yX9_worthWithout cX9_worthWithout 3 (some .int) 1 := ⟨hWS_in (i := 831) (by decide +kernel) (by decide +kernel), hWS_sel (i := 26) (n := 12) (by decide +kernel), hWS_in (i := 1) (by decide +kernel) (by decide +kernel), hWS_in (i := 832) (by decide +kernel) (by decide +kernel), by decide +kernel⟩
theorem cfX0_allBills : hCF yX0_allBills cX0_allBills 1 (some .int) 0 := ⟨hWS_in (i := 842) (by decide +kernel) (by decide +kernel), hWS_in (i := 843) (by decide +kernel) (by decide +kernel), hWS_in (i := 9) (by decide +kernel) (by decide +kernel), hWS_in (i := 844) (by decide +kernel) (by decide +kernel), by decide +kernel⟩
theorem cfX1_leastCost : hCF yX1_leastCost cX1_leastCost 10 (some .int) 2 := ⟨hWS_in (i := 855) (by decide +kernel) (by decide +kernel), hWS_sel (i := 27) (n := 1) (by decide +kernel), hWS_in (i := 6) (by decide +kernel) (by decide +kernel), hWS_in (i := 856) (by decide +kernel) (by decide +kernel), by decide +kernel⟩
theorem cfX1_fewestToStop : hCF yX1_fewestToStop cX1_fewestToStop 3 (some .int) 2 := ⟨hWS_in (i := 850) (by decide +kernel) (by decide +kernel), hWS_in (i := 851) (by decide +kernel) (by decide +kernel), hWS_in (i := 6) (by decide +kernel) (by decide +kernel), hWS_in (i := 852) (by decide +kernel) (by decide +kernel), by decide +kernel⟩
theorem cfX1_daysToStop : hCF yX1_daysToStop cX1_daysToStop 3 (some .int) 2 := ⟨hWS_in (i := 864) (by decide +kernel) (by decide +kernel), hWS_in (i := 865) (by decide +kernel) (by decide +kernel), hWS_in (i := 6) (by decide +kernel) (by decide +kernel), hWS_in (i := 866) (by decide +kernel) (by decide +kernel), by decide +kernel⟩
theorem cfX3_daysOfFirstPlan : hCF yX3_daysOfFirstPlan cX3_daysOfFirstPlan 3 (some .int) 0 := ⟨hWS_in (i := 876) (by decide +kernel) (by decide +kernel), hWS_in (i := 877) (by decide +kernel) (by decide +kernel), hWS_in (i := 5) (by decide +kernel) (by decide +kernel), hWS_in (i := 878) (by decide +kernel) (by decide +kernel), by decide +kernel⟩
theorem cfX9_spoilingDay : hCF yX9_spoilingDay cX9_spoilingDay 7 (some .int) 1 := ⟨hWS_in (i := 873) (by decide +kernel) (by decide +kernel), hWS_sel (i := 28) (n := 12) (by decide +kernel), hWS_in (i := 1) (by decide +kernel) (by decide +kernel), hWS_in (i := 874) (by decide +kernel) (by decide +kernel), by decide +kernel⟩
theorem cfX9_fewestAugurs : hCF yX9_fewestAugurs cX9_fewestAugurs 6 (some .int) 1 := ⟨hWS_in (i := 898) (by decide +kernel) (by decide +kernel), hWS_sel (i := 29) (n := 12) (by decide +kernel), hWS_in (i := 1) (by decide +kernel) (by decide +kernel), hWS_in (i := 899) (by decide +kernel) (by decide +kernel), by decide +kernel⟩
theorem cfX9_loneAugurs : hCF yX9_loneAugurs cX9_loneAugurs 7 (some .int) 1 := ⟨hWS_in (i := 914) (by decide +kernel) (by decide +kernel), hWS_sel (i := 30) (n := 12) (by decide +kernel), hWS_in (i := 1) (by decide +kernel) (by decide +kernel), hWS_in (i := 915) (by decide +kernel) (by decide +kernel), by decide +kernel⟩
theorem cfX0_heirsOf : hCF yX0_heirsOf cX0_heirsOf 4 (some .int) 1 := ⟨hWS_in (i := 947) (by decide +kernel) (by decide +kernel), hWS_in (i := 948) (by decide +kernel) (by decide +kernel), hWS_in (i := 9) (by decide +kernel) (by decide +kernel), hWS_in (i := 949) (by decide +kernel) (by decide +kernel), by decide +kernel⟩
theorem cfX9_fallingWith : hCF yX9_fallingWith cX9_fallingWith 3 (some .int) 1 := ⟨hWS_in (i := 944) (by decide +kernel) (by decide +kernel), hWS_sel (i := 31) (n := 12) (by decide +kernel), hWS_in (i := 1) (by decide +kernel) (by decide +kernel), hWS_in (i := 945) (by decide +kernel) (by decide +kernel), by decide +kernel⟩
theorem cfX9_hasSlot : hCS yX9_hasSlot cX9_hasSlot 1 (some .boolean) 1 := ⟨hWS_in (i := 972) (by decide +kernel) (by decide +kernel), hWS_in (i := 1) (by decide +kernel) (by decide +kernel), hWS_in (i := 973) (by decide +kernel) (by decide +kernel), by decide +kernel⟩
theorem cfX5_isThere : hCF yX5_isThere cX5_isThere 1 (some .boolean) 0 := ⟨hWS_in (i := 975) (by decide +kernel) (by decide +kernel), hWS_in (i := 976) (by decide +kernel) (by decide +kernel), hWS_in (i := 10) (by decide +kernel) (by decide +kernel), hWS_in (i := 977) (by decide +kernel) (by decide +kernel), by decide +kernel⟩
theorem cfX2_readRow : hCF yX2_readRow cX2_readRow 8 (some .boolean) 2 := ⟨hWS_in (i := 984) (by decide +kernel) (by decide +kernel), hWS_sel (i := 33) (n := 7) (by decide +kernel), hWS_in (i := 7) (by decide +kernel) (by decide +kernel), hWS_in (i := 985) (by decide +kernel) (by decide +kernel), by decide +kernel⟩
theorem cfX2_eatingDays : hCS yX2_eatingDays cX2_eatingDays 6 (some .int) 3 := ⟨hWS_in (i := 991) (by decide +kernel) (by decide +kernel), hWS_in (i := 7) (by decide +kernel) (by decide +kernel), hWS_in (i := 992) (by decide +kernel) (by decide +kernel), by decide +kernel⟩
theorem cfX2_weigh : hCF yX2_weigh cX2_weigh 6 (none) 3 := ⟨hWS_in (i := 988) (by decide +kernel) (by decide +kernel), hWS_sel (i := 34) (n := 7) (by decide +kernel), hWS_in (i := 7) (by decide +kernel) (by decide +kernel), hWS_in (i := 989) (by decide +kernel) (by decide +kernel), by decide +kernel⟩
theorem cfX2_look : hCF yX2_look cX2_look 5 (some .boolean) 2 := ⟨hWS_in (i := 979) (by decide +kernel) (by decide +kernel), hWS_in (i := 980) (by decide +kernel) (by decide +kernel), hWS_in (i := 7) (by decide +kernel) (by decide +kernel), hWS_in (i := 981) (by decide +kernel) (by decide +kernel), by decide +kernel⟩
theorem cfX9_lookAtSeen : hCF yX9_lookAtSeen cX9_lookAtSeen 2 (some .int) 1 := ⟨hWS_in (i := 969) (by decide +kernel) (by decide +kernel), hWS_sel (i := 32) (n := 12) (by decide +kernel), hWS_in (i := 1) (by decide +kernel) (by decide +kernel), hWS_in (i := 970) (by decide +kernel) (by decide +kernel), by decide +kernel⟩
theorem cfX2_leftAtWorst : hCF yX2_leftAtWorst cX2_leftAtWorst 2 (some .int) 1 := ⟨hWS_in (i := 1014) (by decide +kernel) (by decide +kernel), hWS_in (i := 1015) (by decide +kernel) (by decide +kernel), hWS_in (i := 7) (by decide +kernel) (by decide +kernel), hWS_in (i := 1016) (by decide +kernel) (by decide +kernel), by decide +kernel⟩
theorem cfX2_dayToKnow : hCF yX2_dayToKnow cX2_dayToKnow 5 (some .int) 1 := ⟨hWS_in (i := 1010) (by decide +kernel) (by decide +kernel), hWS_in (i := 1011) (by decide +kernel) (by decide +kernel), hWS_in (i := 7) (by decide +kernel) (by decide +kernel), hWS_in (i := 1012) (by decide +kernel) (by decide +kernel), by decide +kernel⟩
theorem cfX7_look : hCF yX7_look cX7_look 7 (some .boolean) 1 := ⟨hWS_in (i := 1033) (by decide +kernel) (by decide +kernel), hWS_in (i := 1034) (by decide +kernel) (by decide +kernel), hWS_in (i := 8) (by decide +kernel) (by decide +kernel), hWS_in (i := 1035) (by decide +kernel) (by decide +kernel), by decide +kernel⟩
theorem cfX9_lookAtList : hCF yX9_lookAtList cX9_lookAtList 2 (some .int) 1 := ⟨hWS_in (i := 1030) (by decide +kernel) (by decide +kernel), hWS_sel (i := 35) (n := 12) (by decide +kernel), hWS_in (i := 1) (by decide +kernel) (by decide +kernel), hWS_in (i := 1031) (by decide +kernel) (by decide +kernel), by decide +kernel⟩
theorem cfX7_howMany : hCF yX7_howMany cX7_howMany 3 (some .int) 2 := ⟨hWS_in (i := 1037) (by decide +kernel) (by decide +kernel), hWS_in (i := 1038) (by decide +kernel) (by decide +kernel), hWS_in (i := 8) (by decide +kernel) (by decide +kernel), hWS_in (i := 1039) (by decide +kernel) (by decide +kernel), by decide +kernel⟩
theorem cfX7_withSign : hCF yX7_withSign cX7_withSign 2 (some .int) 1 := ⟨hWS_in (i := 1052) (by decide +kernel) (by decide +kernel), hWS_in (i := 1053) (by decide +kernel) (by decide +kernel), hWS_in (i := 8) (by decide +kernel) (by decide +kernel), hWS_in (i := 1054) (by decide +kernel) (by decide +kernel), by decide +kernel⟩
theorem cfX7_choose : hCS yX7_choose cX7_choose 5 (some .long) 2 := ⟨hWS_in (i := 1056) (by decide +kernel) (by decide +kernel), hWS_in (i := 8) (by decide +kernel) (by decide +kernel), hWS_in (i := 1057) (by decide +kernel) (by decide +kernel), by decide +kernel⟩
theorem cfX7_wins : hCF yX7_wins cX7_wins 1 (some .int) 0 := ⟨hWS_in (i := 1060) (by decide +kernel) (by decide +kernel), hWS_sel (i := 36) (n := 1) (by decide +kernel), hWS_in (i := 8) (by decide +kernel) (by decide +kernel), hWS_in (i := 1061) (by decide +kernel) (by decide +kernel), by decide +kernel⟩
theorem cfX7_waysAsGood : hCF yX7_waysAsGood cX7_waysAsGood 4 (some .long) 0 := ⟨hWS_in (i := 1047) (by decide +kernel) (by decide +kernel), hWS_in (i := 1048) (by decide +kernel) (by decide +kernel), hWS_in (i := 8) (by decide +kernel) (by decide +kernel), hWS_in (i := 1049) (by decide +kernel) (by decide +kernel), by decide +kernel⟩
theorem cfX7_allWays : hCF yX7_allWays cX7_allWays 1 (some .long) 0 := ⟨hWS_in (i := 1063) (by decide +kernel) (by decide +kernel), hWS_in (i := 1064) (by decide +kernel) (by decide +kernel), hWS_in (i := 8) (by decide +kernel) (by decide +kernel), hWS_in (i := 1065) (by decide +kernel) (by decide +kernel), by decide +kernel⟩
theorem cfX9_greatestCommon : hCS yX9_greatestCommon cX9_greatestCommon 7 (some .long) 2 := ⟨hWS_in (i := 1070) (by decide +kernel) (by decide +kernel), hWS_in (i := 1) (by decide +kernel) (by decide +kernel), hWS_in (i := 1071) (by decide +kernel) (by decide +kernel), by decide +kernel⟩
theorem cfX9_partOfFraction : hCS yX9_partOfFraction cX9_partOfFraction 7 (some .long) 3 := ⟨hWS_in (i := 1067) (by decide +kernel) (by decide +kernel), hWS_in (i := 1) (by decide +kernel) (by decide +kernel), hWS_in (i := 1068) (by decide +kernel) (by decide +kernel), by decide +kernel⟩
theorem cfJ6_compare_7cf53 : hCS yJ6_compare_7cf53 cJ6_compare_7cf53 2 (some .int) 2 := ⟨hWS_in (i := 1082) (by decide +kernel) (by decide +kernel), hWS_in (i := 17) (by decide +kernel) (by decide +kernel), hWS_in (i := 1083) (by decide +kernel) (by decide +kernel), by decide +kernel⟩
theorem cfX9_isWorth : hCS yX9_isWorth cX9_isWorth 1 (some .boolean) 1 := ⟨hWS_in (i := 1089) (by decide +kernel) (by decide +kernel), hWS_in (i := 1) (by decide +kernel) (by decide +kernel), hWS_in (i := 1090) (by decide +kernel) (by decide +kernel), by decide +kernel⟩
theorem cfX9_generalHas : hCS yX9_generalHas cX9_generalHas 4 (some .int) 4 := ⟨hWS_in (i := 1095) (by decide +kernel) (by decide +kernel), hWS_in (i := 1) (by decide +kernel) (by decide +kernel), hWS_in (i := 1096) (by decide +kernel) (by decide +kernel), by decide +kernel⟩
theorem cfX9_augurHas : hCS yX9_augurHas cX9_augurHas 5 (some .int) 4 := ⟨hWS_in (i := 1098) (by decide +kernel) (by decide +kernel), hWS_in (i := 1) (by decide +kernel) (by decide +kernel), hWS_in (i := 1099) (by decide +kernel) (by decide +kernel), by decide +kernel⟩
theorem cfX9_isAtRest : hCS yX9_isAtRest cX9_isAtRest 4 (some .boolean) 4 := ⟨hWS_in (i := 1092) (by decide +kernel) (by decide +kernel), hWS_in (i := 1) (by decide +kernel) (by decide +kernel), hWS_in (i := 1093) (by decide +kernel) (by decide +kernel), by decide +kernel⟩
theorem cfX0_isFree : hCF yX0_isFree cX0_isFree 2 (some .boolean) 1 := ⟨hWS_in (i := 1114) (by decide +kernel) (by decide +kernel), hWS_in (i := 1115) (by decide +kernel) (by decide +kernel), hWS_in (i := 9) (by decide +kernel) (by decide +kernel), hWS_in (i := 1116) (by decide +kernel) (by decide +kernel), by decide +kernel⟩
theorem cfX0_isAskedFor : hCF yX0_isAskedFor cX0_isAskedFor 3 (some .boolean) 1 := ⟨hWS_in (i := 1120) (by decide +kernel) (by decide +kernel), hWS_in (i := 1121) (by decide +kernel) (by decide +kernel), hWS_in (i := 9) (by decide +kernel) (by decide +kernel), hWS_in (i := 1122) (by decide +kernel) (by decide +kernel), by decide +kernel⟩
theorem cfX0_act : hCF yX0_act cX0_act 3 (none) 2 := ⟨hWS_in (i := 1124) (by decide +kernel) (by decide +kernel), hWS_in (i := 1125) (by decide +kernel) (by decide +kernel), hWS_in (i := 9) (by decide +kernel) (by decide +kernel), hWS_in (i := 1126) (by decide +kernel) (by decide +kernel), by decide +kernel⟩
theorem cfX9_isSeed : hCS yX9_isSeed cX9_isSeed 1 (some .boolean) 1 := ⟨hWS_in (i := 1144) (by decide +kernel) (by decide +kernel), hWS_in (i := 1) (by decide +kernel) (by decide +kernel), hWS_in (i := 1145) (by decide +kernel) (by decide +kernel), by decide +kernel⟩
theorem cfX6_draw : hCF yX6_draw cX6_draw 3 (none) 2 := ⟨hWS_in (i := 1148) (by decide +kernel) (by decide +kernel), hWS_in (i := 1149) (by decide +kernel) (by decide +kernel), hWS_in (i := 4) (by decide +kernel) (by decide +kernel), hWS_in (i := 1150) (by decide +kernel) (by decide +kernel), by decide +kernel⟩
theorem cfX9_slotsInUse : hCF yX9_slotsInUse cX9_slotsInUse 3 (some .int) 0 := ⟨hWS_in (i := 1165) (by decide +kernel) (by decide +kernel), hWS_sel (i := 37) (n := 12) (by decide +kernel), hWS_in (i := 1) (by decide +kernel) (by decide +kernel), hWS_in (i := 1166) (by decide +kernel) (by decide +kernel), by decide +kernel⟩
theorem cfX9_hasImage : hCS yX9_hasImage cX9_hasImage 1 (some .boolean) 1 := ⟨hWS_in (i := 1172) (by decide +kernel) (by decide +kernel), hWS_in (i := 1) (by decide +kernel) (by decide +kernel), hWS_in (i := 1173) (by decide +kernel) (by decide +kernel), by decide +kernel⟩
theorem cfX0_becomeLike : hCF yX0_becomeLike cX0_becomeLike 2 (none) 1 := ⟨hWS_in (i := 1175) (by decide +kernel) (by decide +kernel), hWS_in (i := 1176) (by decide +kernel) (by decide +kernel), hWS_in (i := 9) (by decide +kernel) (by decide +kernel), hWS_in (i := 1177) (by decide +kernel) (by decide +kernel), by decide +kernel⟩
theorem cfX5_begin : hCF yX5_begin cX5_begin 4 (none) 2 := ⟨hWS_in (i := 1190) (by decide +kernel) (by decide +kernel), hWS_in (i := 1191) (by decide +kernel) (by decide +kernel), hWS_in (i := 10) (by decide +kernel) (by decide +kernel), hWS_in (i := 1192) (by decide +kernel) (by decide +kernel), by decide +kernel⟩
theorem cfX5_cut : hCF yX5_cut cX5_cut 3 (some .long) 1 := ⟨hWS_in (i := 1198) (by decide +kernel) (by decide +kernel), hWS_in (i := 1199) (by decide +kernel) (by decide +kernel), hWS_in (i := 10) (by decide +kernel) (by decide +kernel), hWS_in (i := 1200) (by decide +kernel) (by decide +kernel), by decide +kernel⟩
theorem cfX5_reaches : hCF yX5_reaches cX5_reaches 3 (some .boolean) 2 := ⟨hWS_in (i := 1206) (by decide +kernel) (by decide +kernel), hWS_in (i := 1207) (by decide +kernel) (by decide +kernel), hWS_in (i := 10) (by decide +kernel) (by decide +kernel), hWS_in (i := 1208) (by decide +kernel) (by decide +kernel), by decide +kernel⟩
theorem cfX10_in : hCS yX10_in cX10_in 6 (some .boolean) 3 := ⟨hWS_in (i := 1349) (by decide +kernel) (by decide +kernel), hWS_in (i := 11) (by decide +kernel) (by decide +kernel), hWS_in (i := 1350) (by decide +kernel) (by decide +kernel), by decide +kernel⟩
theorem cfX10_bits : hCS yX10_bits cX10_bits 3 (some .int) 1 := ⟨hWS_in (i := 1693) (by decide +kernel) (by decide +kernel), hWS_in (i := 11) (by decide +kernel) (by decide +kernel), hWS_in (i := 1694) (by decide +kernel) (by decide +kernel), by decide +kernel⟩
theorem cfX10_bit : hCS yX10_bit cX10_bit 2 (some .int) 2 := ⟨hWS_in (i := 1501) (by decide +kernel) (by decide +kernel), hWS_in (i := 11) (by decide +kernel) (by decide +kernel), hWS_in (i := 1502) (by decide +kernel) (by decide +kernel), by decide +kernel⟩
theorem cfX10_isCamp : hCF yX10_isCamp cX10_isCamp 1 (some .boolean) 0 := ⟨hWS_in (i := 1478) (by decide +kernel) (by decide +kernel), hWS_sel (i := 56) (n := 42) (by decide +kernel), hWS_in (i := 11) (by decide +kernel) (by decide +kernel), hWS_in (i := 1479) (by decide +kernel) (by decide +kernel), by decide +kernel⟩
theorem cfX10_isDay : hCF yX10_isDay cX10_isDay 3 (some .boolean) 1 := ⟨hWS_in (i := 1513) (by decide +kernel) (by decide +kernel), hWS_sel (i := 62) (n := 42) (by decide +kernel), hWS_in (i := 11) (by decide +kernel) (by decide +kernel), hWS_in (i := 1514) (by decide +kernel) (by decide +kernel), by decide +kernel⟩
theorem cfX10_isAugur : hCF yX10_isAugur cX10_isAugur 2 (some .boolean) 1 := ⟨hWS_in (i := 1454) (by decide +kernel) (by decide +kernel), hWS_sel (i := 52) (n := 42) (by decide +kernel), hWS_in (i := 11) (by decide +kernel) (by decide +kernel), hWS_in (i := 1455) (by decide +kernel) (by decide +kernel), by decide +kernel⟩
theorem cfX10_isBill : hCF yX10_isBill cX10_isBill 2 (some .boolean) 1 := ⟨hWS_in (i := 1466) (by decide +kernel) (by decide +kernel), hWS_sel (i := 54) (n := 42) (by decide +kernel), hWS_in (i := 11) (by decide +kernel) (by decide +kernel), hWS_in (i := 1467) (by decide +kernel) (by decide +kernel), by decide +kernel⟩
theorem cfX10_isSide : hCF yX10_isSide cX10_isSide 2 (some .boolean) 1 := ⟨hWS_in (i := 1486) (by decide +kernel) (by decide +kernel), hWS_sel (i := 57) (n := 42) (by decide +kernel), hWS_in (i := 11) (by decide +kernel) (by decide +kernel), hWS_in (i := 1487) (by decide +kernel) (by decide +kernel), by decide +kernel⟩
theorem cfX10_ofAugur : hCF yX10_ofAugur cX10_ofAugur 3 (some .int) 2 := ⟨hWS_in (i := 1458) (by decide +kernel) (by decide +kernel), hWS_sel (i := 53) (n := 42) (by decide +kernel), hWS_in (i := 11) (by decide +kernel) (by decide +kernel), hWS_in (i := 1459) (by decide +kernel) (by decide +kernel), by decide +kernel⟩
theorem cfX10_of : hCF yX10_of cX10_of 3 (some .int) 2 := ⟨hWS_in (i := 1470) (by decide +kernel) (by decide +kernel), hWS_sel (i := 55) (n := 42) (by decide +kernel), hWS_in (i := 11) (by decide +kernel) (by decide +kernel), hWS_in (i := 1471) (by decide +kernel) (by decide +kernel), by decide +kernel⟩
theorem cfX10_see : hCF yX10_see cX10_see 2 (some .int) 1 := ⟨hWS_in (i := 1377) (by decide +kernel) (by decide +kernel), hWS_sel (i := 39) (n := 42) (by decide +kernel), hWS_in (i := 11) (by decide +kernel) (by decide +kernel), hWS_in (i := 1378) (by decide +kernel) (by decide +kernel), by decide +kernel⟩
theorem cfX10_advance : hCF yX10_advance cX10_advance 2 (none) 0 := ⟨hWS_in (i := 1373) (by decide +kernel) (by decide +kernel), hWS_sel (i := 38) (n := 42) (by decide +kernel), hWS_in (i := 11) (by decide +kernel) (by decide +kernel), hWS_in (i := 1374) (by decide +kernel) (by decide +kernel), by decide +kernel⟩
theorem cfX10_good : hCF yX10_good cX10_good 1 (some .boolean) 0 := ⟨hWS_in (i := 1387) (by decide +kernel) (by decide +kernel), hWS_sel (i := 40) (n := 42) (by decide +kernel), hWS_in (i := 11) (by decide +kernel) (by decide +kernel), hWS_in (i := 1388) (by decide +kernel) (by decide +kernel), by decide +kernel⟩
theorem cfX10_errs : hCF yX10_errs cX10_errs 2 (none) 1 := ⟨hWS_in (i := 1414) (by decide +kernel) (by decide +kernel), hWS_sel (i := 46) (n := 42) (by decide +kernel), hWS_in (i := 11) (by decide +kernel) (by decide +kernel), hWS_in (i := 1415) (by decide +kernel) (by decide +kernel), by decide +kernel⟩
theorem cfX10_is : hCF yX10_is cX10_is 4 (some .boolean) 1 := ⟨hWS_in (i := 1408) (by decide +kernel) (by decide +kernel), hWS_sel (i := 45) (n := 42) (by decide +kernel), hWS_in (i := 11) (by decide +kernel) (by decide +kernel), hWS_in (i := 1409) (by decide +kernel) (by decide +kernel), by decide +kernel⟩
theorem cfX10_takes : hCF yX10_takes cX10_takes 3 (some .boolean) 1 := ⟨hWS_in (i := 1404) (by decide +kernel) (by decide +kernel), hWS_sel (i := 44) (n := 42) (by decide +kernel), hWS_in (i := 11) (by decide +kernel) (by decide +kernel), hWS_in (i := 1405) (by decide +kernel) (by decide +kernel), by decide +kernel⟩
theorem cfX10_needs : hCF yX10_needs cX10_needs 2 (none) 1 := ⟨hWS_in (i := 1400) (by decide +kernel) (by decide +kernel), hWS_sel (i := 43) (n := 42) (by decide +kernel), hWS_in (i := 11) (by decide +kernel) (by decide +kernel), hWS_in (i := 1401) (by decide +kernel) (by decide +kernel), by decide +kernel⟩
theorem cfX10_number : hCF yX10_number cX10_number 4 (some .int) 2 := ⟨hWS_in (i := 1423) (by decide +kernel) (by decide +kernel), hWS_sel (i := 48) (n := 42) (by decide +kernel), hWS_in (i := 11) (by decide +kernel) (by decide +kernel), hWS_in (i := 1424) (by decide +kernel) (by decide +kernel), by decide +kernel⟩
theorem cfX10_told : hCF yX10_told cX10_told 4 (some .int) 3 := ⟨hWS_in (i := 1419) (by decide +kernel) (by decide +kernel), hWS_sel (i := 47) (n := 42) (by decide +kernel), hWS_in (i := 11) (by decide +kernel) (by decide +kernel), hWS_in (i := 1420) (by decide +kernel) (by decide +kernel), by decide +kernel⟩
theorem cfX10_readFirst : hCF yX10_readFirst cX10_readFirst 1 (none) 0 := ⟨hWS_in (i := 1395) (by decide +kernel) (by decide +kernel), hWS_sel (i := 42) (n := 42) (by decide +kernel), hWS_in (i := 11) (by decide +kernel) (by decide +kernel), hWS_in (i := 1396) (by decide +kernel) (by decide +kernel), by decide +kernel⟩
theorem cfX10_readAugur : hCF yX10_readAugur cX10_readAugur 2 (none) 0 := ⟨hWS_in (i := 1437) (by decide +kernel) (by decide +kernel), hWS_sel (i := 50) (n := 42) (by decide +kernel), hWS_in (i := 11) (by decide +kernel) (by decide +kernel), hWS_in (i := 1438) (by decide +kernel) (by decide +kernel), by decide +kernel⟩
theorem cfX10_readBill : hCF yX10_readBill cX10_readBill 2 (none) 0 := ⟨hWS_in (i := 1444) (by decide +kernel) (by decide +kernel), hWS_sel (i := 51) (n := 42) (by decide +kernel), hWS_in (i := 11) (by decide +kernel) (by decide +kernel), hWS_in (i := 1445) (by decide +kernel) (by decide +kernel), by decide +kernel⟩
theorem cfX10_readNext : hCF yX10_readNext cX10_readNext 2 (none) 0 := ⟨hWS_in (i := 1430) (by decide +kernel) (by decide +kernel), hWS_sel (i := 49) (n := 42) (by decide +kernel), hWS_in (i := 11) (by decide +kernel) (by decide +kernel), hWS_in (i := 1431) (by decide +kernel) (by decide +kernel), by decide +kernel⟩
theorem cfX10_readLine : hCF yX10_readLine cX10_readLine 1 (none) 0 := ⟨hWS_in (i := 1391) (by decide +kernel) (by decide +kernel), hWS_sel (i := 41) (n := 42) (by decide +kernel), hWS_in (i := 11) (by decide +kernel) (by decide +kernel), hWS_in (i := 1392) (by decide +kernel) (by decide +kernel), by decide +kernel⟩
theorem cfX10_daysOf : hCF yX10_daysOf cX10_daysOf 4 (some .int) 1 := ⟨hWS_in (i := 1505) (by decide +kernel) (by decide +kernel), hWS_sel (i := 61) (n := 42) (by decide +kernel), hWS_in (i := 11) (by decide +kernel) (by decide +kernel), hWS_in (i := 1506) (by decide +kernel) (by decide +kernel), by decide +kernel⟩
theorem cfX10_skyBy : hCF yX10_skyBy cX10_skyBy 5 (some .int) 2 := ⟨hWS_in (i := 1498) (by decide +kernel) (by decide +kernel), hWS_sel (i := 60) (n := 42) (by decide +kernel), hWS_in (i := 11) (by decide +kernel) (by decide +kernel), hWS_in (i := 1499) (by decide +kernel) (by decide +kernel), by decide +kernel⟩
theorem cfX10_allAugurs : hCF yX10_allAugurs cX10_allAugurs 1 (some .int) 0 := ⟨hWS_in (i := 1494) (by decide +kernel) (by decide +kernel), hWS_sel (i := 59) (n := 42) (by decide +kernel), hWS_in (i := 11) (by decide +kernel) (by decide +kernel), hWS_in (i := 1495) (by decide +kernel) (by decide +kernel), by decide +kernel⟩
theorem cfX10_skyOf : hCF yX10_skyOf cX10_skyOf 2 (some .int) 1 := ⟨hWS_in (i := 1490) (by decide +kernel) (by decide +kernel), hWS_sel (i := 58) (n := 42) (by decide +kernel), hWS_in (i := 11) (by decide +kernel) (by decide +kernel), hWS_in (i := 1491) (by decide +kernel) (by decide +kernel), by decide +kernel⟩
theorem cfX10_layAsked : hCF yX10_layAsked cX10_layAsked 3 (none) 0 := ⟨hWS_in (i := 1529) (by decide +kernel) (by decide +kernel), hWS_sel (i := 65) (n := 42) (by decide +kernel), hWS_in (i := 11) (by decide +kernel) (by decide +kernel), hWS_in (i := 1530) (by decide +kernel) (by decide +kernel), by decide +kernel⟩
theorem cfX10_doEat : hCF yX10_doEat cX10_doEat 2 (some .boolean) 1 := ⟨hWS_in (i := 1537) (by decide +kernel) (by decide +kernel), hWS_sel (i := 67) (n := 42) (by decide +kernel), hWS_in (i := 11) (by decide +kernel) (by decide +kernel), hWS_in (i := 1538) (by decide +kernel) (by decide +kernel), by decide +kernel⟩
theorem cfX10_whyOn : hCF yX10_whyOn cX10_whyOn 5 (some .int) 3 := ⟨hWS_in (i := 1550) (by decide +kernel) (by decide +kernel), hWS_sel (i := 69) (n := 42) (by decide +kernel), hWS_in (i := 11) (by decide +kernel) (by decide +kernel), hWS_in (i := 1551) (by decide +kernel) (by decide +kernel), by decide +kernel⟩
theorem cfX10_drawsWell : hCF yX10_drawsWell cX10_drawsWell 1 (some .boolean) 0 := ⟨hWS_in (i := 1541) (by decide +kernel) (by decide +kernel), hWS_sel (i := 68) (n := 42) (by decide +kernel), hWS_in (i := 11) (by decide +kernel) (by decide +kernel), hWS_in (i := 1542) (by decide +kernel) (by decide +kernel), by decide +kernel⟩
theorem cfX10_goDays : hCF yX10_goDays cX10_goDays 4 (none) 0 := ⟨hWS_in (i := 1533) (by decide +kernel) (by decide +kernel), hWS_sel (i := 66) (n := 42) (by decide +kernel), hWS_in (i := 11) (by decide +kernel) (by decide +kernel), hWS_in (i := 1534) (by decide +kernel) (by decide +kernel), by decide +kernel⟩
theorem cfX10_asksCamp : hCF yX10_asksCamp cX10_asksCamp 1 (some .boolean) 0 := ⟨hWS_in (i := 1525) (by decide +kernel) (by decide +kernel), hWS_sel (i := 64) (n := 42) (by decide +kernel), hWS_in (i := 11) (by decide +kernel) (by decide +kernel), hWS_in (i := 1526) (by decide +kernel) (by decide +kernel), by decide +kernel⟩
theorem cfX10_asksDay : hCF yX10_asksDay cX10_asksDay 2 (some .boolean) 1 := ⟨hWS_in (i := 1521) (by decide +kernel) (by decide +kernel), hWS_sel (i := 63) (n := 42) (by decide +kernel), hWS_in (i := 11) (by decide +kernel) (by decide +kernel), hWS_in (i := 1522) (by decide +kernel) (by decide +kernel), by decide +kernel⟩
theorem cfX10_asksBill : hCF yX10_asksBill cX10_asksBill 2 (some .boolean) 1 := ⟨hWS_in (i := 1603) (by decide +kernel) (by decide +kernel), hWS_sel (i := 73) (n := 42) (by decide +kernel), hWS_in (i := 11) (by decide +kernel) (by decide +kernel), hWS_in (i := 1604) (by decide +kernel) (by decide +kernel), by decide +kernel⟩
theorem cfX10_actsOf : hCF yX10_actsOf cX10_actsOf 4 (some .int) 1 := ⟨hWS_in (i := 1570) (by decide +kernel) (by decide +kernel), hWS_sel (i := 70) (n := 42) (by decide +kernel), hWS_in (i := 11) (by decide +kernel) (by decide +kernel), hWS_in (i := 1571) (by decide +kernel) (by decide +kernel), by decide +kernel⟩
theorem cfX10_runOf : hCF yX10_runOf cX10_runOf 5 (some .int) 1 := ⟨hWS_in (i := 1586) (by decide +kernel) (by decide +kernel), hWS_sel (i := 72) (n := 42) (by decide +kernel), hWS_in (i := 11) (by decide +kernel) (by decide +kernel), hWS_in (i := 1587) (by decide +kernel) (by decide +kernel), by decide +kernel⟩
theorem cfX10_allDays : hCF yX10_allDays cX10_allDays 1 (some .int) 0 := ⟨hWS_in (i := 1582) (by decide +kernel) (by decide +kernel), hWS_sel (i := 71) (n := 42) (by decide +kernel), hWS_in (i := 11) (by decide +kernel) (by decide +kernel), hWS_in (i := 1583) (by decide +kernel) (by decide +kernel), by decide +kernel⟩
theorem cfX10_state : hCS yX10_state cX10_state 3 (some .int) 3 := ⟨hWS_in (i := 1634) (by decide +kernel) (by decide +kernel), hWS_in (i := 11) (by decide +kernel) (by decide +kernel), hWS_in (i := 1635) (by decide +kernel) (by decide +kernel), by decide +kernel⟩
theorem cfX10_then : hCF yX10_then cX10_then 2 (some .int) 1 := ⟨hWS_in (i := 1638) (by decide +kernel) (by decide +kernel), hWS_sel (i := 78) (n := 42) (by decide +kernel), hWS_in (i := 11) (by decide +kernel) (by decide +kernel), hWS_in (i := 1639) (by decide +kernel) (by decide +kernel), by decide +kernel⟩
theorem cfX10_freeDays : hCF yX10_freeDays cX10_freeDays 3 (some .int) 1 := ⟨hWS_in (i := 1627) (by decide +kernel) (by decide +kernel), hWS_sel (i := 76) (n := 42) (by decide +kernel), hWS_in (i := 11) (by decide +kernel) (by decide +kernel), hWS_in (i := 1628) (by decide +kernel) (by decide +kernel), by decide +kernel⟩
theorem cfX10_layOwn : hCF yX10_layOwn cX10_layOwn 3 (none) 1 := ⟨hWS_in (i := 1623) (by decide +kernel) (by decide +kernel), hWS_sel (i := 75) (n := 42) (by decide +kernel), hWS_in (i := 11) (by decide +kernel) (by decide +kernel), hWS_in (i := 1624) (by decide +kernel) (by decide +kernel), by decide +kernel⟩
theorem cfX10_mayPass : hCF yX10_mayPass cX10_mayPass 5 (some .boolean) 2 := ⟨hWS_in (i := 1642) (by decide +kernel) (by decide +kernel), hWS_sel (i := 79) (n := 42) (by decide +kernel), hWS_in (i := 11) (by decide +kernel) (by decide +kernel), hWS_in (i := 1643) (by decide +kernel) (by decide +kernel), by decide +kernel⟩
theorem cfX10_layState : hCF yX10_layState cX10_layState 9 (none) 3 := ⟨hWS_in (i := 1631) (by decide +kernel) (by decide +kernel), hWS_sel (i := 77) (n := 42) (by decide +kernel), hWS_in (i := 11) (by decide +kernel) (by decide +kernel), hWS_in (i := 1632) (by decide +kernel) (by decide +kernel), by decide +kernel⟩
theorem cfX10_startState : hCF yX10_startState cX10_startState 1 (some .int) 0 := ⟨hWS_in (i := 1646) (by decide +kernel) (by decide +kernel), hWS_sel (i := 80) (n := 42) (by decide +kernel), hWS_in (i := 11) (by decide +kernel) (by decide +kernel), hWS_in (i := 1647) (by decide +kernel) (by decide +kernel), by decide +kernel⟩
theorem cfX10_layPlans : hCF yX10_layPlans cX10_layPlans 5 (some .int) 1 := ⟨hWS_in (i := 1619) (by decide +kernel) (by decide +kernel), hWS_sel (i := 74) (n := 42) (by decide +kernel), hWS_in (i := 11) (by decide +kernel) (by decide +kernel), hWS_in (i := 1620) (by decide +kernel) (by decide +kernel), by decide +kernel⟩
theorem cfX10_withoutOf : hCF yX10_withoutOf cX10_withoutOf 3 (some .int) 1 := ⟨hWS_in (i := 1670) (by decide +kernel) (by decide +kernel), hWS_sel (i := 81) (n := 42) (by decide +kernel), hWS_in (i := 11) (by decide +kernel) (by decide +kernel), hWS_in (i := 1671) (by decide +kernel) (by decide +kernel), by decide +kernel⟩
theorem cfX10_needsOf : hCF yX10_needsOf cX10_needsOf 4 (some .int) 1 := ⟨hWS_in (i := 1682) (by decide +kernel) (by decide +kernel), hWS_sel (i := 82) (n := 42) (by decide +kernel), hWS_in (i := 11) (by decide +kernel) (by decide +kernel), hWS_in (i := 1683) (by decide +kernel) (by decide +kernel), by decide +kernel⟩
theorem cfX10_soonestBy : hCF yX10_soonestBy cX10_soonestBy 5 (some .int) 2 := ⟨hWS_in (i := 1701) (by decide +kernel) (by decide +kernel), hWS_sel (i := 83) (n := 42) (by decide +kernel), hWS_in (i := 11) (by decide +kernel) (by decide +kernel), hWS_in (i := 1702) (by decide +kernel) (by decide +kernel), by decide +kernel⟩
theorem cfX10_stopOf : hCF yX10_stopOf cX10_stopOf 5 (some .int) 1 := ⟨hWS_in (i := 1713) (by decide +kernel) (by decide +kernel), hWS_sel (i := 84) (n := 42) (by decide +kernel), hWS_in (i := 11) (by decide +kernel) (by decide +kernel), hWS_in (i := 1714) (by decide +kernel) (by decide +kernel), by decide +kernel⟩
theorem cfX10_spoilOf : hCF yX10_spoilOf cX10_spoilOf 5 (some .int) 1 := ⟨hWS_in (i := 1725) (by decide +kernel) (by decide +kernel), hWS_sel (i := 85) (n := 42) (by decide +kernel), hWS_in (i := 11) (by decide +kernel) (by decide +kernel), hWS_in (i := 1726) (by decide +kernel) (by decide +kernel), by decide +kernel⟩
theorem cfX10_sideAugurs : hCF yX10_sideAugurs cX10_sideAugurs 4 (some .int) 1 := ⟨hWS_in (i := 1749) (by decide +kernel) (by decide +kernel), hWS_sel (i := 87) (n := 42) (by decide +kernel), hWS_in (i := 11) (by decide +kernel) (by decide +kernel), hWS_in (i := 1750) (by decide +kernel) (by decide +kernel), by decide +kernel⟩
theorem cfX10_chosenOf : hCF yX10_chosenOf cX10_chosenOf 5 (some .int) 1 := ⟨hWS_in (i := 1745) (by decide +kernel) (by decide +kernel), hWS_sel (i := 86) (n := 42) (by decide +kernel), hWS_in (i := 11) (by decide +kernel) (by decide +kernel), hWS_in (i := 1746) (by decide +kernel) (by decide +kernel), by decide +kernel⟩
theorem cfX10_fallsBy : hCF yX10_fallsBy cX10_fallsBy 4 (some .int) 1 := ⟨hWS_in (i := 1790) (by decide +kernel) (by decide +kernel), hWS_sel (i := 88) (n := 42) (by decide +kernel), hWS_in (i := 11) (by decide +kernel) (by decide +kernel), hWS_in (i := 1791) (by decide +kernel) (by decide +kernel), by decide +kernel⟩
theorem cfX10_worthBy : hCF yX10_worthBy cX10_worthBy 4 (some .int) 1 := ⟨hWS_in (i := 1798) (by decide +kernel) (by decide +kernel), hWS_sel (i := 89) (n := 42) (by decide +kernel), hWS_in (i := 11) (by decide +kernel) (by decide +kernel), hWS_in (i := 1799) (by decide +kernel) (by decide +kernel), by decide +kernel⟩
theorem cfX10_numberAt : hCF yX10_numberAt cX10_numberAt 3 (some .long) 2 := ⟨hWS_in (i := 1814) (by decide +kernel) (by decide +kernel), hWS_sel (i := 91) (n := 42) (by decide +kernel), hWS_in (i := 11) (by decide +kernel) (by decide +kernel), hWS_in (i := 1815) (by decide +kernel) (by decide +kernel), by decide +kernel⟩
theorem cfX10_eatsBy : hCF yX10_eatsBy cX10_eatsBy 4 (some .boolean) 2 := ⟨hWS_in (i := 1818) (by decide +kernel) (by decide +kernel), hWS_sel (i := 92) (n := 42) (by decide +kernel), hWS_in (i := 11) (by decide +kernel) (by decide +kernel), hWS_in (i := 1819) (by decide +kernel) (by decide +kernel), by decide +kernel⟩
theorem cfX10_isSlot : hCS yX10_isSlot cX10_isSlot 1 (some .boolean) 1 := ⟨hWS_in (i := 1809) (by decide +kernel) (by decide +kernel), hWS_in (i := 11) (by decide +kernel) (by decide +kernel), hWS_in (i := 1810) (by decide +kernel) (by decide +kernel), by decide +kernel⟩
theorem cfX10_layPairs : hCF yX10_layPairs cX10_layPairs 7 (some .int) 1 := ⟨hWS_in (i := 1806) (by decide +kernel) (by decide +kernel), hWS_sel (i := 90) (n := 42) (by decide +kernel), hWS_in (i := 11) (by decide +kernel) (by decide +kernel), hWS_in (i := 1807) (by decide +kernel) (by decide +kernel), by decide +kernel⟩
theorem cfX10_fedSet : hCF yX10_fedSet cX10_fedSet 3 (some .int) 0 := ⟨hWS_in (i := 1826) (by decide +kernel) (by decide +kernel), hWS_sel (i := 93) (n := 42) (by decide +kernel), hWS_in (i := 11) (by decide +kernel) (by decide +kernel), hWS_in (i := 1827) (by decide +kernel) (by decide +kernel), by decide +kernel⟩
theorem cfX10_askOf : hCF yX10_askOf cX10_askOf 5 (some .int) 0 := ⟨hWS_in (i := 1842) (by decide +kernel) (by decide +kernel), hWS_sel (i := 94) (n := 42) (by decide +kernel), hWS_in (i := 11) (by decide +kernel) (by decide +kernel), hWS_in (i := 1843) (by decide +kernel) (by decide +kernel), by decide +kernel⟩
theorem cfX10_layList : hCF yX10_layList cX10_layList 4 (some .int) 2 := ⟨hWS_in (i := 1854) (by decide +kernel) (by decide +kernel), hWS_sel (i := 95) (n := 42) (by decide +kernel), hWS_in (i := 11) (by decide +kernel) (by decide +kernel), hWS_in (i := 1855) (by decide +kernel) (by decide +kernel), by decide +kernel⟩
theorem cfX10_choose : hCS yX10_choose cX10_choose 5 (some .long) 2 := ⟨hWS_in (i := 1861) (by decide +kernel) (by decide +kernel), hWS_in (i := 11) (by decide +kernel) (by decide +kernel), hWS_in (i := 1862) (by decide +kernel) (by decide +kernel), by decide +kernel⟩
theorem cfX10_divisor : hCS yX10_divisor cX10_divisor 10 (some .long) 2 := ⟨hWS_in (i := 1867) (by decide +kernel) (by decide +kernel), hWS_in (i := 11) (by decide +kernel) (by decide +kernel), hWS_in (i := 1868) (by decide +kernel) (by decide +kernel), by decide +kernel⟩
theorem cfX10_part : hCS yX10_part cX10_part 5 (some .long) 3 := ⟨hWS_in (i := 1864) (by decide +kernel) (by decide +kernel), hWS_in (i := 11) (by decide +kernel) (by decide +kernel), hWS_in (i := 1865) (by decide +kernel) (by decide +kernel), by decide +kernel⟩
theorem cfX10_general : hCS yX10_general cX10_general 4 (some .int) 4 := ⟨hWS_in (i := 1887) (by decide +kernel) (by decide +kernel), hWS_in (i := 11) (by decide +kernel) (by decide +kernel), hWS_in (i := 1888) (by decide +kernel) (by decide +kernel), by decide +kernel⟩
theorem cfX10_augur_ : hCS yX10_augur_ cX10_augur_ 5 (some .int) 4 := ⟨hWS_in (i := 1890) (by decide +kernel) (by decide +kernel), hWS_in (i := 11) (by decide +kernel) (by decide +kernel), hWS_in (i := 1891) (by decide +kernel) (by decide +kernel), by decide +kernel⟩
theorem cfX10_isRest : hCS yX10_isRest cX10_isRest 4 (some .boolean) 4 := ⟨hWS_in (i := 1884) (by decide +kernel) (by decide +kernel), hWS_in (i := 11) (by decide +kernel) (by decide +kernel), hWS_in (i := 1885) (by decide +kernel) (by decide +kernel), by decide +kernel⟩
theorem cfX10_keepAct : hCF yX10_keepAct cX10_keepAct 2 (some .boolean) 1 := ⟨hWS_in (i := 1907) (by decide +kernel) (by decide +kernel), hWS_sel (i := 96) (n := 42) (by decide +kernel), hWS_in (i := 11) (by decide +kernel) (by decide +kernel), hWS_in (i := 1908) (by decide +kernel) (by decide +kernel), by decide +kernel⟩
theorem cfX10_goDrawn : hCF yX10_goDrawn cX10_goDrawn 5 (some .int) 1 := ⟨hWS_in (i := 1931) (by decide +kernel) (by decide +kernel), hWS_sel (i := 97) (n := 42) (by decide +kernel), hWS_in (i := 11) (by decide +kernel) (by decide +kernel), hWS_in (i := 1932) (by decide +kernel) (by decide +kernel), by decide +kernel⟩
theorem cfX10_isSeed : hCS yX10_isSeed cX10_isSeed 1 (some .boolean) 1 := ⟨hWS_in (i := 1926) (by decide +kernel) (by decide +kernel), hWS_in (i := 11) (by decide +kernel) (by decide +kernel), hWS_in (i := 1927) (by decide +kernel) (by decide +kernel), by decide +kernel⟩
theorem cfX10_cut : hCS yX10_cut cX10_cut 4 (some .long) 2 := ⟨hWS_in (i := 1956) (by decide +kernel) (by decide +kernel), hWS_in (i := 11) (by decide +kernel) (by decide +kernel), hWS_in (i := 1957) (by decide +kernel) (by decide +kernel), by decide +kernel⟩
theorem max_st : Cond.static Lib.Math.max.name ∈ hWS := hWS_in (i := 665) (by decide +kernel) (by decide +kernel)
theorem max_co : Cond.code Lib.Math.max.name Lib.Math.max.code 2 (some .int) ∈ hWS := hWS_in (i := 666) (by decide +kernel) (by decide +kernel)
theorem min_st : Cond.static Lib.Math.min.name ∈ hWS := hWS_in (i := 405) (by decide +kernel) (by decide +kernel)
theorem min_co : Cond.code Lib.Math.min.name Lib.Math.min.code 2 (some .int) ∈ hWS := hWS_in (i := 406) (by decide +kernel) (by decide +kernel)
theorem math_in : Cond.initialized "java/lang/Math" ∈ hWS := hWS_in (i := 12) (by decide +kernel) (by decide +kernel)
theorem ac_na : Cond.native arraycopyName ∈ hWS := hWS_in (i := 1180) (by decide +kernel) (by decide +kernel)
theorem ac_st : Cond.static arraycopyName ∈ hWS := hWS_in (i := 1179) (by decide +kernel) (by decide +kernel)
theorem ac_in : Cond.initialized "java/lang/System" ∈ hWS := hWS_in (i := 18) (by decide +kernel) (by decide +kernel)
