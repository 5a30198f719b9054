/-! WHAT HOLDS AT THE LAW'S ENTRY -/
def R_law : String := "SacredHensLaw"
def lw_P (b : Addr) (xs : List Int32) (args : Array Value) (s : State) : Prop := args = #[.ref b] ∧ s.IntsAt b xs ∧ xs.length ≤ 3072 ∧ (Jvm.Cond.and given_1 narrow_1).before args s = true
def lw_Q (_ : Array Value) (s : State) (o : Outcome) (t : State) : Prop := o = .returned (some (.int 1)) ∧ Framed s o t [] 600000 7302250
def lw_Z (below : List Frame) (a : Array Value) (s : State) : State → Prop := fun t => ∃ o, t.status = .running ∧ Ended t below o ∧ lw_Q a s o t
/-- the law's own end, with 1 on the stack, nothing written that was there before, its room as the claim has it -/
theorem lw_ret {p : Program} {l : Launch} {e : Env} {s : State} {m : MethodId} {below : List Frame} {meth : Method} {c : Code} {b : Nat} (hx : p.tables.exec = Jvm.exec) (hb : c.code = code) (hr : meth.sig.returnType = ret) (hlocks : meth.locks = false) {pc : Nat} {H : Heap} {ls : Array Slot} (hdg : decode code pc = .ok (.ireturn, 1)) : W p l e room_1 s m #[Value.ref b] below meth c H [] 600000 7302250 (lw_Z below #[Value.ref b] s) (F0 m pc ls [.int 1]) := by
  intro T hT X
  obtain ⟨fs, hret, hrun, hended, hW, hframe⟩ := X.leave (v := some (.int 1)) (hlocks := hlocks) (fun h => by rw [hr] at h; cases h)
  have hmeth' : T.vm.method? m = some meth := X.method'
  refine ⟨T.setFrames fs, ?_, .returned (some (.int 1)), hrun, hended, rfl, ⟨_, rfl⟩, hW, hframe⟩
  jvm_step X.here [X.here.top, hx, hb, hdg, hmeth', hr, ret, narrow_b1]
  (try refine ⟨rfl, ?_⟩); (try refine ⟨rfl, ?_⟩)
  first | (intro acts; rw [hret _ acts rfl rfl rfl]) | rw [hret _ _ rfl rfl rfl]
  exact Steps.refl _
/-- what holds at the law's entry: the machine, the code, the tables' words (any of lw_tbl by 'hts w (by decide +kernel)'), the script of L ints xs at the cell b, what the Statement gives of the start (any of its parts by flat_of_before) -/
def lw_At (p : Program) (s : State) (m : MethodId) (meth : Method) (c : Code) (b L : Nat) (xs : Nat → Int32) : Prop :=
  p.tables.exec = Jvm.exec ∧ c.code = code ∧ meth.sig.returnType = ret ∧ c.maxLocals = 4 ∧ s.vm.findClass R_law = some m.cls ∧ (∀ w ∈ lw_tbl, w.before #[Value.ref b] s = true) ∧ va_X b L xs s s.heap ∧ b < s.heap.size ∧ meth.locks = false ∧ (Jvm.Cond.and given_1 narrow_1).before #[Value.ref b] s = true
theorem tb_in {w : Cond} (i : Nat) (h : tables_1[i]? = some w) : w ∈ lw_tbl := List.mem_append_right _ (List.mem_of_getElem? h)
def tmS (i : Nat) : Term := Term.string "SacredHens$Reader" ([75, 80, 86, 88, 90, 49, 58, 107, 109, 111, 63, 126, 128].getD i 0)
def tmM (i : Nat) : Term := Term.string "SacredHensModel" ([174, 176, 182, 184, 186, 197, 199, 188, 190, 191, 201, 193, 195].getD i 0)
abbrev gvn : Cond := Jvm.Cond.and given_1 narrow_1
theorem gv_len : ∀ i : Nat, i < 13 → hlen.getD i 0 < 2 ^ 31 := by decide +kernel
theorem gv_ex : ∀ i : Nat, i < 13 → Cond.exactly (tmS i) "java/lang/String" ∈ flatC gvn := by decide +kernel
theorem gv_co : ∀ i : Nat, i < 13 → Cond.eq (.field (tmS i) "java/lang/String" "coder" "B") (.int 0) ∈ flatC gvn := by decide +kernel
theorem gv_ar : ∀ i : Nat, i < 13 → Cond.arrayOf (.field (tmS i) "java/lang/String" "value" "[B") .byte ∈ flatC gvn := by decide +kernel
theorem gv_le : ∀ i : Nat, i < 13 → Cond.eq (.length (.field (tmS i) "java/lang/String" "value" "[B")) (.int (Int32.ofNat (hlen.getD i 0))) ∈ flatC gvn := by decide +kernel
theorem gv_el : ∀ i : Nat, i < 13 → ∀ j : Nat, j < hlen.getD i 0 → Cond.eq (.elem (.field (tmS i) "java/lang/String" "value" "[B") (.int (Int32.ofNat j))) (.int ((hbyt.getD i []).getD j 0)) ∈ flatC gvn := by decide +kernel
theorem gv_eq : ∀ i : Nat, i < 13 → Cond.eq (tmS i) (tmM i) ∈ flatC gvn := by decide +kernel
theorem lw_strs {args : Array Value} {s : State} (hf : ∀ c ∈ flatC gvn, c.before args s = true) {A : Nat → Prop} (hA : ∀ a : Nat, a < s.heap.size → ¬ A a) :
    ∃ ad : Nat → Nat × Nat, ∀ i : Nat, i < 13 → (tmS i).eval args s none [] s = some (.ref (ad i).1) ∧ va_O "java/lang/String" (ad i).1 A s s.heap ∧ va_OF "java/lang/String" "coder" "B" (.int 0) (ad i).1 A s s.heap ∧ va_OF "java/lang/String" "value" "[B" (.ref (ad i).2) (ad i).1 A s s.heap ∧ va_T .byte (ad i).2 (hlen.getD i 0) (fun j => .int ((hbyt.getD i []).getD j 0)) A s s.heap := by
  have h0 : ∀ i : Nat, ∃ q : Nat × Nat, i < 13 → (tmS i).eval args s none [] s = some (.ref q.1) ∧ va_O "java/lang/String" q.1 A s s.heap ∧ va_OF "java/lang/String" "coder" "B" (.int 0) q.1 A s s.heap ∧ va_OF "java/lang/String" "value" "[B" (.ref q.2) q.1 A s s.heap ∧ va_T .byte q.2 (hlen.getD i 0) (fun j => .int ((hbyt.getD i []).getD j 0)) A s s.heap := by
    intro i
    by_cases hi : i < 13
    · obtain ⟨a, c, cA, kA, q1, q2, q3, q4, q5, q6, -⟩ := Cond.exactly_spec (args := args) (first := s) (o := none) (s := s) (idx := []) (t := tmS i) (cls := "java/lang/String") (hf _ (gv_ex i hi))
      obtain ⟨t, ht, hT⟩ := va_Tof (f := fun j => .int ((hbyt.getD i []).getD j 0)) (A := A) (gv_len i hi) (hf _ (gv_ar i hi)) (va_eqt (hf _ (gv_le i hi))) (fun j hj => va_eqt (hf _ (gv_el i hi j hj))) hA
      exact ⟨(a, t), fun _ => ⟨q1, ⟨cA, q3, q5, by rw [q6]; exact q2, hA a (Array.getElem?_eq_some_iff.mp q3).1⟩, vk_OFof q1 (va_eqt (hf _ (gv_co i hi))) hA, vk_OFof q1 ht hA, hT⟩⟩
    · exact ⟨(0, 0), fun h => absurd h hi⟩
  exact Classical.axiomOfChoice h0
theorem lw_hVS {args : Array Value} {s : State} (hf : ∀ c ∈ flatC gvn, c.before args s = true) (hts : ∀ w ∈ lw_tbl, w.before args s = true) {A : Nat → Prop} (hA : ∀ a : Nat, a < s.heap.size → ¬ A a) :
    ∃ ad : Nat → Nat × Nat, hVS 13 hlen hbyt ad A s s.heap ∧ ∀ i : Nat, i < 13 → (tmS i).eval args s none [] s = some (.ref (ad i).1) := by
  obtain ⟨ad, h⟩ := lw_strs hf hA
  refine ⟨ad, ⟨fun i hi => (h i hi).2, ?_, ?_⟩, fun i hi => (h i hi).1⟩
  · exact va_Zof (hts _ (tb_in 433 (by decide +kernel))) (hts _ (tb_in 13 (by decide +kernel))) (va_eqi (hf _ (by decide +kernel))) hA
  · exact va_Zqof (hts _ (tb_in 449 (by decide +kernel))) (hts _ (tb_in 15 (by decide +kernel))) (hf _ (by decide +kernel)) hA
theorem lw_str {args : Array Value} {s : State} (hf : ∀ c ∈ flatC gvn, c.before args s = true) (hts : ∀ w ∈ lw_tbl, w.before args s = true) {ad : Nat → Nat × Nat} (h : ∀ i : Nat, i < 13 → (tmS i).eval args s none [] s = some (.ref (ad i).1)) : ∀ q ∈ hstr, vk_R q.1 q.2.1 q.2.2.1 (ad q.2.2.2).1 s := by
  unfold hstr
  refine List.forall_mem_cons.mpr ⟨vk_R.of (hts _ (tb_in 415 (by decide +kernel))) (h 0 (by decide)), ?_⟩
  refine List.forall_mem_cons.mpr ⟨vk_R.of (hts _ (tb_in 476 (by decide +kernel))) (h 1 (by decide)), ?_⟩
  refine List.forall_mem_cons.mpr ⟨vk_R.of (hts _ (tb_in 481 (by decide +kernel))) (h 2 (by decide)), ?_⟩
  refine List.forall_mem_cons.mpr ⟨vk_R.of (hts _ (tb_in 482 (by decide +kernel))) (h 3 (by decide)), ?_⟩
  refine List.forall_mem_cons.mpr ⟨vk_R.of (hts _ (tb_in 483 (by decide +kernel))) (h 4 (by decide)), ?_⟩
  refine List.forall_mem_cons.mpr ⟨vk_R.of (hts _ (tb_in 484 (by decide +kernel))) (h 5 (by decide)), ?_⟩
  refine List.forall_mem_cons.mpr ⟨vk_R.of (hts _ (tb_in 489 (by decide +kernel))) (h 6 (by decide)), ?_⟩
  refine List.forall_mem_cons.mpr ⟨vk_R.of (hts _ (tb_in 494 (by decide +kernel))) (h 7 (by decide)), ?_⟩
  refine List.forall_mem_cons.mpr ⟨vk_R.of (hts _ (tb_in 495 (by decide +kernel))) (h 8 (by decide)), ?_⟩
  refine List.forall_mem_cons.mpr ⟨vk_R.of (hts _ (tb_in 496 (by decide +kernel))) (h 9 (by decide)), ?_⟩
  refine List.forall_mem_cons.mpr ⟨vk_R.of (hts _ (tb_in 497 (by decide +kernel))) (h 10 (by decide)), ?_⟩
  refine List.forall_mem_cons.mpr ⟨vk_R.of (hts _ (tb_in 502 (by decide +kernel))) (h 11 (by decide)), ?_⟩
  refine List.forall_mem_cons.mpr ⟨vk_R.of (hts _ (tb_in 503 (by decide +kernel))) (h 12 (by decide)), ?_⟩
  refine List.forall_mem_cons.mpr ⟨vk_R.of (hts _ (tb_in 1397 (by decide +kernel))) (va_eqR (hf _ (gv_eq 0 (by decide))) (h 0 (by decide))), ?_⟩
  refine List.forall_mem_cons.mpr ⟨vk_R.of (hts _ (tb_in 1416 (by decide +kernel))) (va_eqR (hf _ (gv_eq 1 (by decide))) (h 1 (by decide))), ?_⟩
  refine List.forall_mem_cons.mpr ⟨vk_R.of (hts _ (tb_in 1425 (by decide +kernel))) (va_eqR (hf _ (gv_eq 2 (by decide))) (h 2 (by decide))), ?_⟩
  refine List.forall_mem_cons.mpr ⟨vk_R.of (hts _ (tb_in 1426 (by decide +kernel))) (va_eqR (hf _ (gv_eq 3 (by decide))) (h 3 (by decide))), ?_⟩
  refine List.forall_mem_cons.mpr ⟨vk_R.of (hts _ (tb_in 1427 (by decide +kernel))) (va_eqR (hf _ (gv_eq 4 (by decide))) (h 4 (by decide))), ?_⟩
  refine List.forall_mem_cons.mpr ⟨vk_R.of (hts _ (tb_in 1432 (by decide +kernel))) (va_eqR (hf _ (gv_eq 5 (by decide))) (h 5 (by decide))), ?_⟩
  refine List.forall_mem_cons.mpr ⟨vk_R.of (hts _ (tb_in 1433 (by decide +kernel))) (va_eqR (hf _ (gv_eq 6 (by decide))) (h 6 (by decide))), ?_⟩
  refine List.forall_mem_cons.mpr ⟨vk_R.of (hts _ (tb_in 1434 (by decide +kernel))) (va_eqR (hf _ (gv_eq 10 (by decide))) (h 10 (by decide))), ?_⟩
  refine List.forall_mem_cons.mpr ⟨vk_R.of (hts _ (tb_in 1439 (by decide +kernel))) (va_eqR (hf _ (gv_eq 7 (by decide))) (h 7 (by decide))), ?_⟩
  refine List.forall_mem_cons.mpr ⟨vk_R.of (hts _ (tb_in 1440 (by decide +kernel))) (va_eqR (hf _ (gv_eq 8 (by decide))) (h 8 (by decide))), ?_⟩
  refine List.forall_mem_cons.mpr ⟨vk_R.of (hts _ (tb_in 1441 (by decide +kernel))) (va_eqR (hf _ (gv_eq 9 (by decide))) (h 9 (by decide))), ?_⟩
  refine List.forall_mem_cons.mpr ⟨vk_R.of (hts _ (tb_in 1446 (by decide +kernel))) (va_eqR (hf _ (gv_eq 11 (by decide))) (h 11 (by decide))), ?_⟩
  refine List.forall_mem_cons.mpr ⟨vk_R.of (hts _ (tb_in 1447 (by decide +kernel))) (va_eqR (hf _ (gv_eq 12 (by decide))) (h 12 (by decide))), ?_⟩
  exact fun _ h => absurd h List.not_mem_nil
theorem lw_nest {args : Array Value} {s : State} (hts : ∀ w ∈ lw_tbl, w.before args s = true) : ∀ q ∈ hnl, va_Nw (.methodLinkNest q.1 q.2.1 q.2.2.1 q.2.2.2) s := by
  unfold hnl
  refine List.forall_mem_cons.mpr ⟨va_Nw.of rfl (hts _ (tb_in 29 (by decide +kernel))), ?_⟩
  refine List.forall_mem_cons.mpr ⟨va_Nw.of rfl (hts _ (tb_in 46 (by decide +kernel))), ?_⟩
  refine List.forall_mem_cons.mpr ⟨va_Nw.of rfl (hts _ (tb_in 79 (by decide +kernel))), ?_⟩
  refine List.forall_mem_cons.mpr ⟨va_Nw.of rfl (hts _ (tb_in 115 (by decide +kernel))), ?_⟩
  refine List.forall_mem_cons.mpr ⟨va_Nw.of rfl (hts _ (tb_in 146 (by decide +kernel))), ?_⟩
  refine List.forall_mem_cons.mpr ⟨va_Nw.of rfl (hts _ (tb_in 158 (by decide +kernel))), ?_⟩
  refine List.forall_mem_cons.mpr ⟨va_Nw.of rfl (hts _ (tb_in 190 (by decide +kernel))), ?_⟩
  refine List.forall_mem_cons.mpr ⟨va_Nw.of rfl (hts _ (tb_in 201 (by decide +kernel))), ?_⟩
  refine List.forall_mem_cons.mpr ⟨va_Nw.of rfl (hts _ (tb_in 310 (by decide +kernel))), ?_⟩
  refine List.forall_mem_cons.mpr ⟨va_Nw.of rfl (hts _ (tb_in 545 (by decide +kernel))), ?_⟩
  refine List.forall_mem_cons.mpr ⟨va_Nw.of rfl (hts _ (tb_in 556 (by decide +kernel))), ?_⟩
  refine List.forall_mem_cons.mpr ⟨va_Nw.of rfl (hts _ (tb_in 618 (by decide +kernel))), ?_⟩
  refine List.forall_mem_cons.mpr ⟨va_Nw.of rfl (hts _ (tb_in 734 (by decide +kernel))), ?_⟩
  refine List.forall_mem_cons.mpr ⟨va_Nw.of rfl (hts _ (tb_in 809 (by decide +kernel))), ?_⟩
  refine List.forall_mem_cons.mpr ⟨va_Nw.of rfl (hts _ (tb_in 1040 (by decide +kernel))), ?_⟩
  exact fun _ h => absurd h List.not_mem_nil
theorem lw_arr {args : Array Value} {s : State} {ty : FieldType} (hn : ∀ C, ty ≠ .object C) (h : (Cond.arrayClass ty).before args s = true) : ∃ cA : ClassId, ArrOfT s cA ty ∧ va_RA s cA ty := by
  obtain ⟨c, k, comp, h1, h2, h3⟩ := Cond.arrayClass_spec h
  refine ⟨c, fun n z => ⟨fun k h => (by cases h), k, h2, comp, h3⟩, ?_⟩
  cases ty with
  | object C => exact absurd rfl (hn C)
  | _ => exact h1
theorem lw_arrO {args : Array Value} {s : State} {C : String} (h : (Cond.arrayOver (.object C)).before args s = true) : ∃ cA : ClassId, ArrOfT s cA (.object C) ∧ va_RA s cA (.object C) := by
  obtain ⟨comp, c, k, h1, -, h3, h4, h5⟩ := Cond.arrayOver_spec h
  exact ⟨c, fun n z => ⟨fun k h => (by cases h), k, h3, comp, h4⟩, k, comp, h3, h4, h1, h5⟩
theorem lw_tys {args : Array Value} {s : State} (hts : ∀ w ∈ lw_tbl, w.before args s = true) : ∃ cA : Nat → ClassId, ∀ (k : Nat) (q : ClassId × FieldType), (htys cA)[k]? = some q → ArrOfT s q.1 q.2 ∧ va_RA s q.1 q.2 := by
  obtain ⟨c1, h1⟩ := lw_arr (ty := .int) (fun _ h => by cases h) (hts _ (tb_in 112 (by decide +kernel)))
  obtain ⟨c2, h2⟩ := lw_arr (ty := .long) (fun _ h => by cases h) (hts _ (tb_in 331 (by decide +kernel)))
  obtain ⟨c3, h3⟩ := lw_arr (ty := .byte) (fun _ h => by cases h) (hts _ (tb_in 43 (by decide +kernel)))
  obtain ⟨c4, h4⟩ := lw_arr (ty := .boolean) (fun _ h => by cases h) (hts _ (tb_in 308 (by decide +kernel)))
  obtain ⟨c5, h5⟩ := lw_arrO (C := "SacredHens$Row") (hts _ (tb_in 155 (by decide +kernel)))
  obtain ⟨c6, h6⟩ := lw_arrO (C := "SacredHens$Camp") (hts _ (tb_in 199 (by decide +kernel)))
  refine ⟨fun t => [0, c1, c2, c3, c4, c5, c6].getD t 0, fun k q hq => ?_⟩
  rcases k with _ | _ | _ | _ | _ | _ | k
  · cases hq; exact h1
  · cases hq; exact h2
  · cases hq; exact h3
  · cases hq; exact h4
  · cases hq; exact h5
  · cases hq; exact h6
  · cases hq
theorem lw_cls {args : Array Value} {s : State} (hts : ∀ w ∈ lw_tbl, w.before args s = true) : ∀ c : Nat, ∃ q : ClassId × (Nat → Nat), ∀ r : vw_C, vwCl[c]? = some r → u_Kn s r.1 r.2.1 r.2.2 q.1 q.2 := by
  have hW : ∀ w ∈ hWS, w.before args s = true := fun w h => hts w (List.mem_filter.mp h).1
  intro c
  rcases c with _ | _ | _ | _ | _ | _ | _ | _ | _ | _ | _ | c
  · obtain ⟨a, b, h⟩ := u_known (C := RX0) (T := TX0) (N := 17) (n := 17) hW inWS0 (hts _ (tb_in 200 (by decide +kernel)))
    exact ⟨(a, b), fun r hr => by cases hr; exact h⟩
  · obtain ⟨a, b, h⟩ := u_known (C := RX1) (T := TX1) (N := 1) (n := 1) hW inWS1 (hts _ (tb_in 145 (by decide +kernel)))
    exact ⟨(a, b), fun r hr => by cases hr; exact h⟩
  · obtain ⟨a, b, h⟩ := u_known (C := RX2) (T := TX2) (N := 7) (n := 7) hW inWS2 (hts _ (tb_in 157 (by decide +kernel)))
    exact ⟨(a, b), fun r hr => by cases hr; exact h⟩
  · obtain ⟨a, b, h⟩ := u_known (C := RX3) (T := TX3) (N := 8) (n := 8) hW inWS3 (hts _ (tb_in 114 (by decide +kernel)))
    exact ⟨(a, b), fun r hr => by cases hr; exact h⟩
  · obtain ⟨a, b, h⟩ := u_known (C := RX4) (T := TX4) (N := 8) (n := 8) hW inWS4 (hts _ (tb_in 45 (by decide +kernel)))
    exact ⟨(a, b), fun r hr => by cases hr; exact h⟩
  · obtain ⟨a, b, h⟩ := u_known (C := RX5) (T := TX5) (N := 3) (n := 3) hW inWS5 (hts _ (tb_in 309 (by decide +kernel)))
    exact ⟨(a, b), fun r hr => by cases hr; exact h⟩
  · obtain ⟨a, b, h⟩ := u_known (C := RX6) (T := TX6) (N := 8) (n := 8) hW inWS6 (hts _ (tb_in 78 (by decide +kernel)))
    exact ⟨(a, b), fun r hr => by cases hr; exact h⟩
  · obtain ⟨a, b, h⟩ := u_known (C := RX7) (T := TX7) (N := 1) (n := 1) hW inWS7 (hts _ (tb_in 189 (by decide +kernel)))
    exact ⟨(a, b), fun r hr => by cases hr; exact h⟩
  · obtain ⟨a, b, h⟩ := u_known (C := RX8) (T := TX8) (N := 2) (n := 2) hW inWS8 (hts _ (tb_in 28 (by decide +kernel)))
    exact ⟨(a, b), fun r hr => by cases hr; exact h⟩
  · obtain ⟨a, b, h⟩ := u_known (C := RX9) (T := TX9) (N := 12) (n := 12) hW inWS9 (hts _ (tb_in 20 (by decide +kernel)))
    exact ⟨(a, b), fun r hr => by cases hr; exact h⟩
  · obtain ⟨a, b, h⟩ := u_known (C := RX10) (T := TX10) (N := 42) (n := 42) hW inWS10 (hts _ (tb_in 1211 (by decide +kernel)))
    exact ⟨(a, b), fun r hr => by cases hr; exact h⟩
  · exact ⟨(0, fun _ => 0), fun r hr => by cases hr⟩
/-- the machine's side of the world, at the law's entry -/
theorem lw_env {args : Array Value} {s : State} (hg : gvn.before args s = true) (hts : ∀ w ∈ lw_tbl, w.before args s = true) : ∃ (D : va_G) (cA : Nat → ClassId) (ad : Nat → Nat × Nat), hEnv D cA ad s ∧ hVS 13 hlen hbyt ad (hAb s.heap.size) s s.heap ∧ AO2 s := by
  have hf := flat_of_before _ hg
  obtain ⟨ad, hV, ha⟩ := lw_hVS (A := hAb s.heap.size) hf hts (fun a h q => Nat.not_le_of_lt h q)
  obtain ⟨cA, hT⟩ := lw_tys hts
  obtain ⟨d, hd⟩ := Classical.axiomOfChoice (lw_cls hts)
  exact ⟨(fun c => (d c).1, fun c => (d c).2), cA, ad, ⟨⟨fun c q hq => hd c q hq, hT⟩, lw_nest hts, lw_str hf hts ha⟩, hV, va_AO.of (hts _ (tb_in 155 (by decide +kernel))), va_AO.of (hts _ (tb_in 199 (by decide +kernel)))⟩
