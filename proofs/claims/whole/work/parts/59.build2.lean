/-! BUILDING: the rules that touch the heap -/
def hdv (ci j : Nat) : Value := match hfty ci j with
  | 0 => .int 0
  | 1 => .long 0
  | _ => .null
theorem hdv_ok : ∀ ci, ci < 11 → ∀ j, j < hnf ci → (parseFieldDescriptor ((vwCl.getD ci ("", fun _ => ("", "", "", false), 0)).2.1 j).2.2.1).map defaultValue = some (hdv ci j) := by decide +kernel
theorem kfld_0 {base : Nat} {w : HW} {n ci f : Nat} (hF : Fh w n) : kfld base w n ci f = hdv ci f := by
  obtain ⟨h1, h2, h3⟩ := hF n f (Nat.le_refl _)
  unfold kfld hdv
  rw [h1, h2, h3]
  rfl
section SB2
variable {G : Gx} {cc : ByteArray} {own : String} {nV fr lo : Nat} {pc : Nat} {lv : List (Nat × Value)} {st : List Value} {w : HW} {n n0 cl sl : Nat}
theorem sb_new (C : Cx G cc own nV fr lo) (I : Ci G n0) {mc ms : Nat} (hm : Gk G = (mc, ms)) {ci fk kt index : Nat} {nm ds Cn : String} {fin : Bool} {ty : FieldType} (F : hFO ci fk kt nm ds fin ty) (hC : (vwCl.getD ci ("", fun _ => ("", "", "", false), 0)).1 = Cn) (hn : n = n0 + cl) (hk : hkd n = (0, ci)) (h1 : Cond.classLink own index Cn ∈ hWS) (h2 : Cond.instantiable Cn (hnf ci) ∈ hWS) (h3 : Cond.initialized Cn ∈ hWS) (hr : (Nat.ble (cl + 1) mc && Nat.ble (sl + hnf ci) ms) = true) (d : decode cc pc = .ok (.new index, 3))
    (k : Sb G (pc + 3) lv (.ref (hB G + n) :: st) w (n + 1) (cl + 1) (sl + hnf ci)) : Sb G pc lv st w n cl sl := by
  obtain ⟨⟨l, D, cA, ad, base⟩, p, e, R, s, m, args, below, meth, c, Q, nL, kc, ks⟩ := G
  obtain ⟨hx, hb, hml, hown, hts, hE, hV, hlk, hfr, hlo, hkc, hks, hnV⟩ := C
  subst hnV
  obtain ⟨hs0, hAO⟩ := I
  have hkm : kc = mc ∧ ks = ms := by cases hm; exact ⟨rfl, rfl⟩
  obtain ⟨rfl, rfl⟩ := hkm
  rw [Bool.and_eq_true] at hr
  have hr1 := Nat.le_of_ble_eq_true hr.1
  have hr2 := Nat.le_of_ble_eq_true hr.2
  obtain ⟨f1, f2, f3, f4, f5⟩ := F
  have hcl := List.getElem?_eq_getElem f4
  obtain ⟨g1, g2, g3, ⟨ty0, g4, g4t⟩, g5⟩ := f5 _ hcl
  have eC : vwCl.getD ci ("", fun _ => ("", "", "", false), 0) = vwCl[ci]'f4 := by rw [List.getD_eq_getElem?_getD, hcl]; rfl
  have hC' : (vwCl[ci]'f4).1 = Cn := by rw [← hC, eC]
  have hN : (vwCl[ci]'f4).2.2 = hnf ci := by rw [f2, eC]
  have hl11 : vwCl.length = 11 := by decide +kernel
  intro hF H locs ls hP hS hl
  have hdef : ∀ j, j < (vwCl[ci]'f4).2.2 → defaultValue (ty0 j) = vp_V ((List.range (hnf ci)).map (kfld base w n ci)) j := by
    intro j hj
    have hj' : j < hnf ci := by omega
    have h4 := hdv_ok ci (by omega) j hj'
    rw [eC, g4 j hj] at h4
    have h5 : defaultValue (ty0 j) = hdv ci j := Option.some.inj h4
    unfold vp_V
    rw [List.getD_eq_getElem?_getD, List.getElem?_map, List.getElem?_range hj', h5]
    exact (kfld_0 hF).symm
  refine va_new (D := D) (ci := ci) (C := (vwCl[ci]'f4).1) (T := (vwCl[ci]'f4).2.1) (N := (vwCl[ci]'f4).2.2) (fs := (List.range (hnf ci)).map (kfld base w n ci)) (A := fun q => base ≤ q) hx hb hts g3 ty0 g4 hown (by rw [hC']; exact hts _ h1) (by rw [hC', hN]; exact hts _ h2) (by rw [hC']; exact hts _ h3) hE.1 hP kws_D hS (fun q hq => by omega) hcl hdef (Nat.le_trans hr1 hkc) (by rw [hN]; exact Nat.le_trans hr2 hks) d (fun q H1 hP1 hD1 hS1 => ?_)
  refine W_bnd (fun hz => ?_)
  have hq := kws_new hP1 hD1 (by omega)
  subst hq
  rw [← kent_obj (cA := cA) hk, kws_push] at hP1
  rw [hN]
  exact k (hF.up (Nat.le_succ n)) H1 locs ls hP1 hS1 hl
theorem sb_newa (C : Cx G cc own nV fr lo) (I : Ci G n0) {mc ms : Nat} (hm : Gk G = (mc, ms)) {atype : ArrayType} {t len : Nat} {i : Int32} (hn : n = n0 + cl) (hk : hkd n = (t, len)) (ht : (t = 1 ∧ atype = .int) ∨ (t = 2 ∧ atype = .long) ∨ (t = 3 ∧ atype = .byte) ∨ (t = 4 ∧ atype = .boolean)) (h1 : Cond.arrayClass (newarray.typeOf atype) ∈ hWS) (hi : ¬ i < 0) (hl' : i.toNatClampNeg = len) (hle : Nat.ble len 60000 = true) (hr : (Nat.ble (cl + 1) mc && Nat.ble (sl + len) ms) = true) (d : decode cc pc = .ok (.newarray atype, 2))
    (k : Sb G (pc + 2) lv (.ref (hB G + n) :: st) w (n + 1) (cl + 1) (sl + len)) : Sb G pc lv (.int i :: st) w n cl sl := by
  obtain ⟨⟨l, D, cA, ad, base⟩, p, e, R, s, m, args, below, meth, c, Q, nL, kc, ks⟩ := G
  obtain ⟨hx, hb, hml, hown, hts, hE, hV, hlk, hfr, hlo, hkc, hks, hnV⟩ := C
  subst hnV
  obtain ⟨hs0, hAO⟩ := I
  have hkm : kc = mc ∧ ks = ms := by cases hm; exact ⟨rfl, rfl⟩
  obtain ⟨rfl, rfl⟩ := hkm
  rw [Bool.and_eq_true] at hr
  have hr1 := Nat.le_of_ble_eq_true hr.1
  have hr2 := Nat.le_of_ble_eq_true hr.2
  have hle' := Nat.le_of_ble_eq_true hle
  intro hF H locs ls hP hS hl
  have fin : ∀ (q : Nat) (cA' : ClassId) (H1 : Heap) (a0 : vp_A), kent cA base w n = .inl (cA t, a0) → cA' = cA t → va_P D vwCl (kws cA base w n ++ [(q, .inl (cA', a0))]) H1 → va_D (fun q : Nat => base ≤ q) (kws cA base w n ++ [(q, .inl (cA', a0))]) → va_S (fun q => base ≤ q) s.heap H1 locs → W p l e R s m args below meth c H1 locs (cl + 1) (sl + len) Q (F0 m (pc + 2) ls (.ref q :: st)) := by
    intro q cA' H1 a0 he hc hP1 hD1 hS1
    subst hc
    refine W_bnd (fun hz => ?_)
    have hq := kws_new hP1 hD1 (by omega)
    subst hq
    rw [← he, kws_push] at hP1
    exact k (hF.up (Nat.le_succ n)) H1 locs ls hP1 hS1 hl
  have hA : ∀ q, s.heap.size ≤ q → base ≤ q := fun q hq => by omega
  have f0 : ∀ f, gI w n f = 0 := fun f => (hF n f (Nat.le_refl _)).1
  have f1 : ∀ f, gL w n f = 0 := fun f => (hF n f (Nat.le_refl _)).2.1
  have ra : ∀ (j : Nat) (ty : FieldType) (cA' : ClassId), (htys cA)[j]? = some (cA t, ty) → va_K D vwCl (htys cA ++ [(cA', ty)]) s → (∀ x y, va_RA s x ty → va_RA s y ty → x = y) → cA' = cA t := by
    intro j ty cA' h2 hK hu
    have e1 := (hE.1.2 j _ h2).2
    have e2 := (hK.2 6 (cA', ty) rfl).2
    exact hu _ _ e2 e1
  rcases ht with ⟨rfl, rfl⟩ | ⟨rfl, rfl⟩ | ⟨rfl, rfl⟩ | ⟨rfl, rfl⟩
  · refine va_newa (atype := .int) (a0 := (len, .inl (fun _ => 0))) (N' := len) hx hb (hts _ h1) rfl hE.1 hP kws_D hS hA (fun _ => rfl) hi hl' (by show len * 4 ≤ _; omega) (Nat.le_trans hr1 hkc) (Nat.le_trans hr2 hks) d (fun q cA' H1 hK1 hP1 hD1 hS1 => ?_)
    refine fin q cA' H1 _ ?_ (ra 0 .int cA' rfl hK1 (fun x y a b => Option.some.inj (a.symm.trans b))) hP1 hD1 hS1
    rw [kent_arrI 1 (by decide) hk, show gI w n = fun _ => 0 from funext f0]
  · refine va_newa (atype := .long) (a0 := (len, .inr (.inl (fun _ => 0)))) (N' := len) hx hb (hts _ h1) rfl hE.1 hP kws_D hS hA (fun _ => rfl) hi hl' (by show len * 8 ≤ _; omega) (Nat.le_trans hr1 hkc) (Nat.le_trans hr2 hks) d (fun q cA' H1 hK1 hP1 hD1 hS1 => ?_)
    refine fin q cA' H1 _ ?_ (ra 1 .long cA' rfl hK1 (fun x y a b => Option.some.inj (a.symm.trans b))) hP1 hD1 hS1
    rw [kent_arrL hk, show gL w n = fun _ => 0 from funext f1]
  · refine va_newa (atype := .byte) (a0 := (len, .inl (fun _ => 0))) (N' := len) hx hb (hts _ h1) rfl hE.1 hP kws_D hS hA (fun _ => rfl) hi hl' (by show len * 1 ≤ _; omega) (Nat.le_trans hr1 hkc) (Nat.le_trans hr2 hks) d (fun q cA' H1 hK1 hP1 hD1 hS1 => ?_)
    refine fin q cA' H1 _ ?_ (ra 2 .byte cA' rfl hK1 (fun x y a b => Option.some.inj (a.symm.trans b))) hP1 hD1 hS1
    rw [kent_arrI 3 (by decide) hk, show gI w n = fun _ => 0 from funext f0]
  · refine va_newa (atype := .boolean) (a0 := (len, .inl (fun _ => 0))) (N' := len) hx hb (hts _ h1) rfl hE.1 hP kws_D hS hA (fun _ => rfl) hi hl' (by show len * 1 ≤ _; omega) (Nat.le_trans hr1 hkc) (Nat.le_trans hr2 hks) d (fun q cA' H1 hK1 hP1 hD1 hS1 => ?_)
    refine fin q cA' H1 _ ?_ (ra 3 .boolean cA' rfl hK1 (fun x y a b => Option.some.inj (a.symm.trans b))) hP1 hD1 hS1
    rw [kent_arrI 4 (by decide) hk, show gI w n = fun _ => 0 from funext f0]
theorem sb_anew (C : Cx G cc own nV fr lo) (I : Ci G n0) {mc ms : Nat} (hm : Gk G = (mc, ms)) {t len index : Nat} {Cn : String} {i : Int32} (hn : n = n0 + cl) (hk : hkd n = (t, len)) (ht : (t = 5 ∧ Cn = "SacredHens$Row") ∨ (t = 6 ∧ Cn = "SacredHens$Camp")) (h1 : Cond.classLink own index Cn ∈ hWS) (hi : ¬ i < 0) (hl' : i.toNatClampNeg = len) (hle : Nat.ble len 60000 = true) (hr : (Nat.ble (cl + 1) mc && Nat.ble (sl + len) ms) = true) (d : decode cc pc = .ok (.anewarray index, 3))
    (k : Sb G (pc + 3) lv (.ref (hB G + n) :: st) w (n + 1) (cl + 1) (sl + len)) : Sb G pc lv (.int i :: st) w n cl sl := by
  obtain ⟨⟨l, D, cA, ad, base⟩, p, e, R, s, m, args, below, meth, c, Q, nL, kc, ks⟩ := G
  obtain ⟨hx, hb, hml, hown, hts, hE, hV, hlk, hfr, hlo, hkc, hks, hnV⟩ := C
  subst hnV
  obtain ⟨hs0, hAO⟩ := I
  have hkm : kc = mc ∧ ks = ms := by cases hm; exact ⟨rfl, rfl⟩
  obtain ⟨rfl, rfl⟩ := hkm
  rw [Bool.and_eq_true] at hr
  have hr1 := Nat.le_of_ble_eq_true hr.1
  have hr2 := Nat.le_of_ble_eq_true hr.2
  have hle' := Nat.le_of_ble_eq_true hle
  intro hF H locs ls hP hS hl
  have hA : ∀ q, s.heap.size ≤ q → base ≤ q := fun q hq => by omega
  have f2 : ∀ f, gR w n f = 1000000 := fun f => (hF n f (Nat.le_refl _)).2.2
  have ent : kent cA base w n = .inl (cA t, len, .inr (.inr (.inr (.inr (fun _ => none))))) := by
    rw [kent_arrR t (by omega) hk]
    have e : (fun i => hrf base (gR w n i)) = fun _ => none := funext fun i => by rw [f2 i]; rfl
    rw [e]
  have hov : va_AO Cn s := by
    rcases ht with ⟨_, rfl⟩ | ⟨_, rfl⟩
    · exact hAO.1
    · exact hAO.2
  have hty5 : ∃ j : Nat, (htys cA)[j]? = some (cA t, FieldType.object Cn) := by
    rcases ht with ⟨rfl, rfl⟩ | ⟨rfl, rfl⟩
    · exact ⟨4, rfl⟩
    · exact ⟨5, rfl⟩
  obtain ⟨j, hj⟩ := hty5
  refine va_newq (N' := len) hx hb hown (hts _ h1) hov hE.1 hP kws_D hS hA hi hl' (by omega) (Nat.le_trans hr1 hkc) (Nat.le_trans hr2 hks) d (fun q cA' H1 hK1 hP1 hD1 hS1 => ?_)
  have hc : cA' = cA t := by
    obtain ⟨_, _, _, _, _, e1⟩ := (hE.1.2 j _ hj).2
    obtain ⟨_, _, _, _, _, e2⟩ := (hK1.2 6 (cA', FieldType.object Cn) rfl).2
    exact Option.some.inj (e2.symm.trans e1)
  subst hc
  refine W_bnd (fun hz => ?_)
  have hq := kws_new hP1 hD1 (by omega)
  subst hq
  rw [← ent, kws_push] at hP1
  exact k (hF.up (Nat.le_succ n)) H1 locs ls hP1 hS1 hl
theorem sb_putF (C : Cx G cc own nV fr lo) (hin : Ni G) {ci fk idx index x : Nat} {nm ds : String} {ty : FieldType} (F : hFO ci fk 2 nm ds true ty) (hC : (vwCl.getD ci ("", fun _ => ("", "", "", false), 0)).1 = own) (hw : Cond.fieldLink own index own nm ds ∈ hWS) (hk : hkd idx = (0, ci)) (hlt : Nat.ble (idx + 1) n = true) (hxz : Nat.ble (x + 1) 1000000 = true) (hty : (∃ q, ty = .object q) ∨ ∃ q, ty = .array q) (d : decode cc pc = .ok (.putfield index, 3)) (k : Sb G (pc + 3) lv st (uR w idx fk x) n cl sl) : Sb G pc lv (.ref (hB G + x) :: .ref (hB G + idx) :: st) w n cl sl := by
  obtain ⟨⟨l, D, cA, ad, base⟩, p, e, R, s, m, args, below, meth, c, Q, nL, kc, ks⟩ := G
  obtain ⟨hx, hb, hml, hown, hts, hE, hV, hlk, hfr, hlo, hkc, hks, hnV⟩ := C
  subst hnV
  obtain ⟨f1, f2, f3, f4, f5⟩ := F
  have hcl := List.getElem?_eq_getElem f4
  obtain ⟨g1, g2, g3, ⟨ty0, g4, g4t⟩, g5⟩ := f5 _ hcl
  have hC' : (vwCl[ci]'f4).1 = own := by rw [← hC, List.getD_eq_getElem?_getD, hcl]; rfl
  have hlt' : idx < n := Nat.le_of_ble_eq_true hlt
  have hx' : x < 1000000 := Nat.le_of_ble_eq_true hxz
  intro hF H locs ls hP hS hl
  have hat := kws_at (cA := cA) (base := base) (w := w) hlt'
  rw [kent_obj hk] at hat
  have hpd : parseFieldDescriptor ((vwCl[ci]'f4).2.1 fk).2.2.1 = some ty := by rw [g4 fk g2, g4t]
  have hfl : ∀ f, f ≠ fk → kfld base (uR w idx fk x) idx ci f = kfld base w idx ci f := by
    intro f hf
    simp [kfld, gI, gL, gR, uR, hf]
  have hset : (kws cA base w n).set idx (base + idx, .inr (ci, ((List.range (hnf ci)).map (kfld base w idx ci)).set fk (.ref (base + x)))) = kws cA base (uR w idx fk x) n := by
    refine kws_set ?_ (fun j hj => kent_congr (fun f => ?_) (fun f => ?_) (fun f => ?_))
    · rw [kent_obj hk, kfs_set (w' := uR w idx fk x) (by simp [kfld, f1, gI, gL, gR, uR, hrf, Nat.ne_of_lt hx', va_rf]) hfl]
    all_goals simp [gI, gL, gR, uR, hj]
  refine va_putF (D := D) (ci := ci) (C := (vwCl[ci]'f4).1) (T := (vwCl[ci]'f4).2.1) (N := (vwCl[ci]'f4).2.2) (ref := own) (index := index) (A := fun q => base ≤ q) hx hb hts g3 ty0 g4 g5 hown hE.1 hP kws_D hS idx hat hcl fk g2 ?_ ?_ ?_ hin ?_ (ty := ty) (v := .ref (base + x)) hpd ?_ ?_ ?_ d (fun H1 locs1 hP1 hD1 hS1 => ?_)
  · rw [g1]; exact hts _ hw
  · intro z hz; rw [g1] at hz ⊢; rw [← hC']; exact hz
  · rw [g1]
  · rw [g1]; exact hC'
  · rcases hty with ⟨q, rfl⟩ | ⟨q, rfl⟩ <;> rfl
  · rcases hty with ⟨q, rfl⟩ | ⟨q, rfl⟩ <;> rfl
  · simpa using f3
  · rw [hset] at hP1
    exact k (hF.uR hlt') H1 locs1 ls hP1 hS1 hl
theorem sb_putR (C : Cx G cc own nV fr lo) {ci fk idx index x : Nat} {nm ds : String} {ty : FieldType} (F : hFO ci fk 2 nm ds false ty) (hC : (vwCl.getD ci ("", fun _ => ("", "", "", false), 0)).1 = own) (hw : Cond.fieldLink own index own nm ds ∈ hWS) (hk : hkd idx = (0, ci)) (hlt : Nat.ble (idx + 1) n = true) (hxz : Nat.ble (x + 1) 1000000 = true) (hty : (∃ q, ty = .object q) ∨ ∃ q, ty = .array q) (d : decode cc pc = .ok (.putfield index, 3)) (k : Sb G (pc + 3) lv st (uR w idx fk x) n cl sl) : Sb G pc lv (.ref (hB G + x) :: .ref (hB G + idx) :: st) w n cl sl := by
  obtain ⟨⟨l, D, cA, ad, base⟩, p, e, R, s, m, args, below, meth, c, Q, nL, kc, ks⟩ := G
  obtain ⟨hx, hb, hml, hown, hts, hE, hV, hlk, hfr, hlo, hkc, hks, hnV⟩ := C
  subst hnV
  obtain ⟨f1, f2, f3, f4, f5⟩ := F
  have hcl := List.getElem?_eq_getElem f4
  obtain ⟨g1, g2, g3, ⟨ty0, g4, g4t⟩, g5⟩ := f5 _ hcl
  have hC' : (vwCl[ci]'f4).1 = own := by rw [← hC, List.getD_eq_getElem?_getD, hcl]; rfl
  have hlt' : idx < n := Nat.le_of_ble_eq_true hlt
  have hx' : x < 1000000 := Nat.le_of_ble_eq_true hxz
  intro hF H locs ls hP hS hl
  have hat := kws_at (cA := cA) (base := base) (w := w) hlt'
  rw [kent_obj hk] at hat
  have hpd : parseFieldDescriptor ((vwCl[ci]'f4).2.1 fk).2.2.1 = some ty := by rw [g4 fk g2, g4t]
  have hfl : ∀ f, f ≠ fk → kfld base (uR w idx fk x) idx ci f = kfld base w idx ci f := by
    intro f hf
    simp [kfld, gI, gL, gR, uR, hf]
  have hset : (kws cA base w n).set idx (base + idx, .inr (ci, ((List.range (hnf ci)).map (kfld base w idx ci)).set fk (.ref (base + x)))) = kws cA base (uR w idx fk x) n := by
    refine kws_set ?_ (fun j hj => kent_congr (fun f => ?_) (fun f => ?_) (fun f => ?_))
    · rw [kent_obj hk, kfs_set (w' := uR w idx fk x) (by simp [kfld, f1, gI, gL, gR, uR, hrf, Nat.ne_of_lt hx', va_rf]) hfl]
    all_goals simp [gI, gL, gR, uR, hj]
  refine va_put (D := D) (ci := ci) (C := (vwCl[ci]'f4).1) (T := (vwCl[ci]'f4).2.1) (N := (vwCl[ci]'f4).2.2) (ref := own) (index := index) (A := fun q => base ≤ q) hx hb hts g3 ty0 g4 g5 hown hE.1 hP kws_D hS idx hat hcl fk g2 ?_ ?_ ?_ (ty := ty) (v := .ref (base + x)) hpd ?_ ?_ ?_ d (fun H1 locs1 hP1 hD1 hS1 => ?_)
  · rw [g1]; exact hts _ hw
  · intro z hz; rw [g1] at hz ⊢; rw [← hC']; exact hz
  · rw [g1]
  · rcases hty with ⟨q, rfl⟩ | ⟨q, rfl⟩ <;> rfl
  · rcases hty with ⟨q, rfl⟩ | ⟨q, rfl⟩ <;> rfl
  · simpa using f3
  · rw [hset] at hP1
    exact k (hF.uR hlt') H1 locs1 ls hP1 hS1 hl
theorem sb_putI (C : Cx G cc own nV fr lo) {ci fk idx index : Nat} {nm ds : String} {x : Int32} (F : hFO ci fk 0 nm ds false .int) (hC : (vwCl.getD ci ("", fun _ => ("", "", "", false), 0)).1 = own) (hw : Cond.fieldLink own index own nm ds ∈ hWS) (hk : hkd idx = (0, ci)) (hlt : Nat.ble (idx + 1) n = true) (d : decode cc pc = .ok (.putfield index, 3)) (k : Sb G (pc + 3) lv st (uI w idx fk x) n cl sl) : Sb G pc lv (.int x :: .ref (hB G + idx) :: st) w n cl sl := by
  obtain ⟨⟨l, D, cA, ad, base⟩, p, e, R, s, m, args, below, meth, c, Q, nL, kc, ks⟩ := G
  obtain ⟨hx, hb, hml, hown, hts, hE, hV, hlk, hfr, hlo, hkc, hks, hnV⟩ := C
  subst hnV
  obtain ⟨f1, f2, f3, f4, f5⟩ := F
  have hcl := List.getElem?_eq_getElem f4
  obtain ⟨g1, g2, g3, ⟨ty0, g4, g4t⟩, g5⟩ := f5 _ hcl
  have hC' : (vwCl[ci]'f4).1 = own := by rw [← hC, List.getD_eq_getElem?_getD, hcl]; rfl
  have hlt' : idx < n := Nat.le_of_ble_eq_true hlt
  intro hF H locs ls hP hS hl
  have hat := kws_at (cA := cA) (base := base) (w := w) hlt'
  rw [kent_obj hk] at hat
  have hpd : parseFieldDescriptor ((vwCl[ci]'f4).2.1 fk).2.2.1 = some .int := by rw [g4 fk g2, g4t]
  have hfl : ∀ f, f ≠ fk → kfld base (uI w idx fk x) idx ci f = kfld base w idx ci f := by
    intro f hf
    simp [kfld, gI, gL, gR, uI, hf]
  have hset : (kws cA base w n).set idx (base + idx, .inr (ci, ((List.range (hnf ci)).map (kfld base w idx ci)).set fk (.int x))) = kws cA base (uI w idx fk x) n := by
    refine kws_set ?_ (fun j hj => kent_congr (fun f => ?_) (fun f => ?_) (fun f => ?_))
    · rw [kent_obj hk, kfs_set (w' := uI w idx fk x) (by simp [kfld, f1, gI, gL, gR, uI]) hfl]
    all_goals simp [gI, gL, gR, uI, hj]
  refine va_put (D := D) (ci := ci) (C := (vwCl[ci]'f4).1) (T := (vwCl[ci]'f4).2.1) (N := (vwCl[ci]'f4).2.2) (ref := own) (index := index) (A := fun q => base ≤ q) hx hb hts g3 ty0 g4 g5 hown hE.1 hP kws_D hS idx hat hcl fk g2 ?_ ?_ ?_ (ty := .int) (v := .int x) hpd rfl rfl ?_ d (fun H1 locs1 hP1 hD1 hS1 => ?_)
  · rw [g1]; exact hts _ hw
  · intro z hz; rw [g1] at hz ⊢; rw [← hC']; exact hz
  · rw [g1]
  · simpa using f3
  · rw [hset] at hP1
    exact k (hF.uI hlt') H1 locs1 ls hP1 hS1 hl
theorem sb_getR (C : Cx G cc own nV fr lo) {ci fk idx index j : Nat} {nm ds : String} {fin : Bool} {ty : FieldType} (F : hFO ci fk 2 nm ds fin ty) (hC : (vwCl.getD ci ("", fun _ => ("", "", "", false), 0)).1 = own) (hw : Cond.fieldLink own index own nm ds ∈ hWS) (hk : hkd idx = (0, ci)) (hlt : Nat.ble (idx + 1) n = true) (hj : gR w idx fk = j) (hjz : Nat.ble (j + 1) 1000000 = true) (d : decode cc pc = .ok (.getfield index, 3)) (k : Sb G (pc + 3) lv (.ref (hB G + j) :: st) w n cl sl) : Sb G pc lv (.ref (hB G + idx) :: st) w n cl sl := by
  obtain ⟨⟨l, D, cA, ad, base⟩, p, e, R, s, m, args, below, meth, c, Q, nL, kc, ks⟩ := G
  obtain ⟨hx, hb, hml, hown, hts, hE, hV, hlk, hfr, hlo, hkc, hks, hnV⟩ := C
  subst hnV
  obtain ⟨f1, f2, f3, f4, f5⟩ := F
  have hcl := List.getElem?_eq_getElem f4
  obtain ⟨g1, g2, g3, ⟨ty0, g4, g4t⟩, g5⟩ := f5 _ hcl
  have hC' : (vwCl[ci]'f4).1 = own := by rw [← hC, List.getD_eq_getElem?_getD, hcl]; rfl
  have hlt' : idx < n := Nat.le_of_ble_eq_true hlt
  have hj' : j < 1000000 := Nat.le_of_ble_eq_true hjz
  intro hF H locs ls hP hS hl
  have hat := kws_at (cA := cA) (base := base) (w := w) hlt'
  rw [kent_obj hk] at hat
  refine va_get (D := D) (ci := ci) (C := (vwCl[ci]'f4).1) (T := (vwCl[ci]'f4).2.1) (N := (vwCl[ci]'f4).2.2) (ref := own) (index := index) (v := .ref (base + j)) hx hb hts g3 hown hE.1 hP idx hat hcl fk g2 ?_ ?_ ?_ d (k hF H locs ls hP hS hl)
  · rw [g1]; exact hts _ hw
  · intro z hz; rw [g1] at hz ⊢; rw [← hC']; exact hz
  · rw [List.getElem?_map, List.getElem?_range f3]
    show some (kfld base w idx ci fk) = _
    unfold kfld
    rw [f1, hj]
    simp [hrf, Nat.ne_of_lt hj', va_rf]
theorem sb_iast (C : Cx G cc own nV fr lo) {idx len : Nat} {i x : Int32} (hk : hkd idx = (1, len)) (hlt : Nat.ble (idx + 1) n = true) (hin : inB i len = true) (d : decode cc pc = .ok (.iastore, 1)) (k : Sb G (pc + 1) lv st (uI w idx (ix i) x) n cl sl) : Sb G pc lv (.int x :: .int i :: .ref (hB G + idx) :: st) w n cl sl := by
  obtain ⟨⟨l, D, cA, ad, base⟩, p, e, R, s, m, args, below, meth, c, Q, nL, kc, ks⟩ := G
  obtain ⟨hx, hb, hml, hown, hts, hE, hV, hlk, hfr, hlo, hkc, hks, hnV⟩ := C
  subst hnV
  have hlt' : idx < n := Nat.le_of_ble_eq_true hlt
  intro hF H locs ls hP hS hl
  have hat := kws_at (cA := cA) (base := base) (w := w) hlt'
  rw [kent_arrI 1 (by decide) hk] at hat
  refine va_iast hx hb hE.1 hP kws_D hS idx 0 hat rfl (inB_in hin) d (fun H1 locs1 hP1 hD1 hS1 => ?_)
  have hset : (kws cA base w n).set idx (base + idx, .inl (cA 1, len, .inl (upd (gI w idx) i.toNatClampNeg x))) = kws cA base (uI w idx (ix i) x) n := by
    refine kws_set ?_ (fun j hj => kent_congr (fun f => ?_) (fun f => ?_) (fun f => ?_))
    · rw [kent_arrI 1 (by decide) hk]
      have e : gI (uI w idx (ix i) x) idx = upd (gI w idx) i.toNatClampNeg x := by
        funext f
        simp [gI, uI, upd, ix]
      rw [e]
    all_goals simp [gI, gL, gR, uI, hj]
  rw [hset] at hP1
  exact k (hF.uI hlt') H1 locs1 ls hP1 hS1 hl
theorem sb_aast (C : Cx G cc own nV fr lo) {idx len t x ci : Nat} {i : Int32} (ht : (t = 5 ∧ (vwCl[ci]?).map (·.1) = some "SacredHens$Row") ∨ (t = 6 ∧ (vwCl[ci]?).map (·.1) = some "SacredHens$Camp")) (hk : hkd idx = (t, len)) (hlt : Nat.ble (idx + 1) n = true) (hkx : hkd x = (0, ci)) (hxl : Nat.ble (x + 1) n = true) (hxz : Nat.ble (x + 1) 1000000 = true) (hin : inB i len = true) (d : decode cc pc = .ok (.aastore, 1)) (k : Sb G (pc + 1) lv st (uR w idx (ix i) x) n cl sl) : Sb G pc lv (.ref (hB G + x) :: .int i :: .ref (hB G + idx) :: st) w n cl sl := by
  obtain ⟨⟨l, D, cA, ad, base⟩, p, e, R, s, m, args, below, meth, c, Q, nL, kc, ks⟩ := G
  obtain ⟨hx, hb, hml, hown, hts, hE, hV, hlk, hfr, hlo, hkc, hks, hnV⟩ := C
  subst hnV
  have hlt' : idx < n := Nat.le_of_ble_eq_true hlt
  have hxl' : x < n := Nat.le_of_ble_eq_true hxl
  have hx' : x < 1000000 := Nat.le_of_ble_eq_true hxz
  intro hF H locs ls hP hS hl
  have hat := kws_at (cA := cA) (base := base) (w := w) hlt'
  have htt : t = 5 ∨ t = 6 := by omega
  rw [kent_arrR t htt hk] at hat
  have hax := kws_at (cA := cA) (base := base) (w := w) hxl'
  rw [kent_obj hkx] at hax
  have hty : ∃ (j : Nat) (r : vw_C), vwCl[ci]? = some r ∧ (htys cA)[j]? = some (cA t, FieldType.object r.1) := by
    rcases ht with ⟨rfl, h⟩ | ⟨rfl, h⟩
    · cases hr : vwCl[ci]? with
      | none => rw [hr] at h; cases h
      | some r => rw [hr] at h; exact ⟨4, r, rfl, by rw [show r.1 = _ from Option.some.inj h]; rfl⟩
    · cases hr : vwCl[ci]? with
      | none => rw [hr] at h; cases h
      | some r => rw [hr] at h; exact ⟨5, r, rfl, by rw [show r.1 = _ from Option.some.inj h]; rfl⟩
  obtain ⟨j, r, hr, hj⟩ := hty
  refine va_astq hx hb hE.1 hP kws_D hS idx j x ci hat hj hax hr (inB_in hin) d (fun H1 locs1 hP1 hD1 hS1 => ?_)
  have hset : (kws cA base w n).set idx (base + idx, .inl (cA t, len, .inr (.inr (.inr (.inr (va_up (fun i => hrf base (gR w idx i)) i.toNatClampNeg (some (base + x)))))))) = kws cA base (uR w idx (ix i) x) n := by
    refine kws_set ?_ (fun j hj => kent_congr (fun f => ?_) (fun f => ?_) (fun f => ?_))
    · rw [kent_arrR t htt hk]
      have e : (fun f => hrf base (gR (uR w idx (ix i) x) idx f)) = va_up (fun i => hrf base (gR w idx i)) i.toNatClampNeg (some (base + x)) := by
        funext f
        unfold va_up
        rw [gR_uR]
        by_cases q : f = i.toNatClampNeg
        · rw [if_pos q, if_pos ⟨rfl, q⟩]
          simp [hrf, Nat.ne_of_lt hx']
        · rw [if_neg q, if_neg (fun z => q z.2)]
      rw [e]
    all_goals simp [gI, gL, gR, uR, hj]
  rw [hset] at hP1
  exact k (hF.uR hlt') H1 locs1 ls hP1 hS1 hl
theorem sb_call (C : Cx G cc own nV fr lo) (I : Ci G n0) {mc ms : Nat} (hm : Gk G = (mc, ms)) {y : MethodName} {cy : ByteArray} {ny fr' lo' mc' ms' index a n' : Nat} {w' : HW} {host : String} (hn : n = n0 + cl) (j : Nat) (hw : hnl[j]? = some (own, index, y, host)) (hy : y.name = "<init>") (h1 : Cond.instanceMethod y ∈ hWS) (h2 : Cond.initialized y.cls ∈ hWS) (h3 : Cond.code y cy ny none ∈ hWS) (h4 : y.cls ≠ "java/lang/invoke/MethodHandle" ∧ y.cls ≠ "java/lang/invoke/VarHandle" ∧ (parseMethodDescriptor y.desc).map (fun d => d.parameters.length) = some 0)
    (hR : (Nat.ble (fr' + 1) fr && Nat.ble (8 + (ny + 11) + lo') lo) = true) (hr : (Nat.ble (cl + mc') mc && Nat.ble (sl + ms') ms) = true) (hrest : Nat.ble ((st.map fun v => v.category).sum) 8 = true) (d : decode cc pc = .ok (.invokespecial index, 3))
    (hM : Fh w n → Mb G.1 y cy ny fr' lo' mc' ms' [.ref (hB G + a)] w n w' n') (hF' : Fh w n → Fh w' n') (k : Sb G (pc + 3) lv st w' n' (cl + mc') (sl + ms')) : Sb G pc lv (.ref (hB G + a) :: st) w n cl sl := by
  obtain ⟨⟨l, D, cA, ad, base⟩, p, e, R, s, m, args, below, meth, c, Q, nL, kc, ks⟩ := G
  obtain ⟨hx, hb, hml, hown, hts, hE, hV, hlk, hfr, hlo, hkc, hks, hnV⟩ := C
  obtain ⟨hs0, hAO⟩ := I
  have hkm : kc = mc ∧ ks = ms := by cases hm; exact ⟨rfl, rfl⟩
  obtain ⟨rfl, rfl⟩ := hkm
  rw [Bool.and_eq_true] at hr hR
  have hr1 := Nat.le_of_ble_eq_true hr.1
  have hr2 := Nat.le_of_ble_eq_true hr.2
  have hR1 := Nat.le_of_ble_eq_true hR.1
  have hR2 := Nat.le_of_ble_eq_true hR.2
  intro hF H locs ls hP hS hl
  refine W_bnd (fun hz => ?_)
  have hz2 := kws_size hP (Nat.le_trans (by omega) hS.1)
  have hsz : H.size = base + n := by omega
  exact kcall (D := D) (cA := cA) (base := base) (w' := w') (n' := n') (rest := st) (va_runIN (As := []) ⟨hx, hb, hml, hown, hts⟩ (hM hF) ⟨va_cnB 0 hts (hWS_goodc h3) rfl rfl rfl (hE.2.1 _ (List.mem_of_getElem? hw)) (hts _ h2) h4 ⟨Nat.le_trans hR1 hfr, Nat.le_trans hR2 hlo⟩, hy, hts _ h1⟩ ⟨Pb_blind, fun U hU hW => ⟨rfl, ⟨by rw [hU]; exact hsz, hAO.moved hW.alike⟩, by rw [hU]; exact hP, hEnv.warm hW hE, by rw [hU]; exact (hV.kept (fun x h1 h2 => hS.2.1 x h1 h2)).moved hW.alike⟩⟩ rfl rfl hl.1 rfl (lv_room (Nat.le_of_ble_eq_true hrest)) d ⟨Nat.le_trans hr1 hkc, Nat.le_trans hr2 hks⟩) hS (fun H1 locs1 hP1 hS1 => k (hF' hF) H1 locs1 ls hP1 hS1 hl)
theorem sb_ret (C : Cx G cc own nV fr lo) {mc ms : Nat} (hm : Gk G = (mc, ms)) (E : Rb G w n) (hr : (Nat.ble cl mc && Nat.ble sl ms) = true) (d : decode cc pc = .ok (.return_, 1)) : Sb G pc lv [] w n cl sl := by
  obtain ⟨⟨l, D, cA, ad, base⟩, p, e, R, s, m, args, below, meth, c, Q, nL, kc, ks⟩ := G
  obtain ⟨hx, hb, hml, hown, hts, hE, hV, hlk, hfr, hlo, hkc, hks, hnV⟩ := C
  have hkm : kc = mc ∧ ks = ms := by cases hm; exact ⟨rfl, rfl⟩
  obtain ⟨rfl, rfl⟩ := hkm
  rw [Bool.and_eq_true] at hr
  obtain ⟨E1, E2⟩ := E
  intro hF H locs ls hP hS hl
  refine W.widen (k := kc) (n := ks) (Nat.le_of_ble_eq_true hr.1) (Nat.le_of_ble_eq_true hr.2) ?_
  rw [E2]
  exact W.vret hx hb E1 (fun t ht hW => ⟨rfl, by rw [ht]; exact hP, hS.F ht⟩) hS.2.2 d
end SB2
