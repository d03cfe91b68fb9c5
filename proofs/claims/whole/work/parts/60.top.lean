/-! ===== the law's loop ===== -/
theorem INV.up {n : Nat} {M : hM} {x m out : Nat} (J : INV n M x m out) : INV (n + 1) M x m out := by
  obtain ⟨A, σ, w, cO, cF, cI, cS, h, R, I, hn⟩ := J
  exact ⟨A, σ, w, cO, cF, cI, cS, h, R, I, by omega⟩
theorem step_ok {n : Nat} {M : hM} {x m out : Nat} {p0 p1 p2 p3 p4 p5 p6 : Int32} (J : INV n M x m out) (hn : n < 600) : lw_step M x m out p0 p1 p2 p3 p4 p5 p6 (fun M' => INV (n + 1) M' x m out) := by
  unfold lw_step
  by_cases h0 : ((p0 &&& 31) : Int32) = 0
  · rw [if_pos h0]
    exact case_0 J
  rw [if_neg h0]
  by_cases h1 : ((p0 &&& 31) : Int32) = 1
  · rw [if_pos h1]
    exact case_1 J
  rw [if_neg h1]
  by_cases h2 : ((p0 &&& 31) : Int32) = 2
  · rw [if_pos h2]
    exact case_2 J
  rw [if_neg h2]
  by_cases h3 : ((p0 &&& 31) : Int32) = 3
  · rw [if_pos h3]
    exact case_3 J
  rw [if_neg h3]
  by_cases h4 : ((p0 &&& 31) : Int32) = 4
  · rw [if_pos h4]
    exact case_4 J
  rw [if_neg h4]
  by_cases h5 : ((p0 &&& 31) : Int32) = 5
  · rw [if_pos h5]
    exact case_5 J
  rw [if_neg h5]
  by_cases h6 : ((p0 &&& 31) : Int32) = 6
  · rw [if_pos h6]
    exact case_6 J
  rw [if_neg h6]
  by_cases h7 : ((p0 &&& 31) : Int32) = 7
  · rw [if_pos h7]
    exact case_7 J
  rw [if_neg h7]
  by_cases h8 : ((p0 &&& 31) : Int32) = 8
  · rw [if_pos h8]
    exact case_8 J
  rw [if_neg h8]
  by_cases h9 : ((p0 &&& 31) : Int32) = 9
  · rw [if_pos h9]
    exact case_9 J
  rw [if_neg h9]
  by_cases h10 : ((p0 &&& 31) : Int32) = 10
  · rw [if_pos h10]
    exact case_10 J
  rw [if_neg h10]
  by_cases h11 : ((p0 &&& 31) : Int32) = 11
  · rw [if_pos h11]
    exact case_11 J hn
  rw [if_neg h11]
  by_cases h12 : ((p0 &&& 31) : Int32) = 12
  · rw [if_pos h12]
    exact case_12 J hn
  rw [if_neg h12]
  by_cases h13 : ((p0 &&& 31) : Int32) = 13
  · rw [if_pos h13]
    exact case_13 J
  rw [if_neg h13]
  by_cases h14 : ((p0 &&& 31) : Int32) = 14
  · rw [if_pos h14]
    exact case_14 J
  rw [if_neg h14]
  by_cases h15 : ((p0 &&& 31) : Int32) = 15
  · rw [if_pos h15]
    exact case_15 J
  rw [if_neg h15]
  by_cases h16 : ((p0 &&& 31) : Int32) = 16
  · rw [if_pos h16]
    exact case_16 J
  rw [if_neg h16]
  by_cases h17 : ((p0 &&& 31) : Int32) = 17
  · rw [if_pos h17]
    exact case_17 J
  rw [if_neg h17]
  by_cases h18 : ((p0 &&& 31) : Int32) = 18
  · rw [if_pos h18]
    exact case_18 J
  rw [if_neg h18]
  by_cases h19 : ((p0 &&& 31) : Int32) = 19
  · rw [if_pos h19]
    exact case_19 J
  rw [if_neg h19]
  by_cases h20 : ((p0 &&& 31) : Int32) = 20
  · rw [if_pos h20]
    exact case_20 J
  rw [if_neg h20]
  by_cases h21 : ((p0 &&& 31) : Int32) = 21
  · rw [if_pos h21]
    exact case_21 J
  rw [if_neg h21]
  by_cases h22 : ((p0 &&& 31) : Int32) = 22
  · rw [if_pos h22]
    exact case_22 J
  rw [if_neg h22]
  by_cases h23 : ((p0 &&& 31) : Int32) = 23
  · rw [if_pos h23]
    exact case_23 J
  rw [if_neg h23]
  by_cases h24 : ((p0 &&& 31) : Int32) = 24
  · rw [if_pos h24]
    exact case_24 J
  rw [if_neg h24]
  by_cases h25 : ((p0 &&& 31) : Int32) = 25
  · rw [if_pos h25]
    exact case_25 J
  rw [if_neg h25]
  exact J.up
set_option maxRecDepth 100000 in
set_option maxHeartbeats 4000000 in
theorem law_loop {κ : hKx} {sz b L : Nat} {xs : Nat → Int32} (F : Cw κ RL code lw_tbl (fun _ => none) sz) (hR : kR κ = room_1) (hX : va_X b L xs (ks κ) (ks κ).heap) (hb : b < sz) (hL : L ≤ 3584) (hend : ∀ (cells slots : Nat) (M : hM) (lv : List (Option Value)), cells ≤ 601024 → slots ≤ 7293034 → VW κ cells slots M 1982 lv []) : ∀ (n k cells slots : Nat) (M : hM) (x m out : Nat), 512 - k < n → k ≤ 512 → INV k M x m out → cells + 20 * (512 - k) ≤ 601024 → slots + 211 * (512 - k) ≤ 7293034 → VW κ cells slots M 23 [some (va_rf (some b)), some (va_rf (some x)), some (va_rf (some m)), some (va_rf (some out)), some (.int (nI (7 * k))), none, none] [] := by
  intro n
  induction n with
  | zero =>
    intro k cells slots M x m out h1 h2 J hc hs
    omega
  | succ n ih =>
    intro k cells slots M x m out h1 h2 J hc hs
    have C := F.1
    refine v_iload C (pc := 23) (i := 4) dL_law_23 rfl ?_
    refine v_aload_n C (pc := 25) (i := 0) dL_law_25 rfl ?_
    refine v_slen F hX hb (pc := 26) dL_law_26 ?_
    refine v_bipush C (pc := 27) (v := 7) dL_law_27 (by decide) ?_
    refine v_isub C (pc := 29) dL_law_29 ?_
    refine v_icmp_gt C (pc := 30) (tgt := 1982) dL_law_30 (by decide) (fun c => ?_) (fun c => ?_)
    · exact hend _ _ _ _ (by omega) (by omega)
    · have hk : 7 * k + 7 ≤ L := by
        apply Nat.le_of_not_lt
        intro z
        apply c
        show nI L - nI 7 < nI (7 * k)
        rw [Int32.lt_iff_toInt_lt, pk_sub_toInt (by omega) (by omega), nI_toInt (by omega)]
        omega
      have hp : ∀ j, j < 7 → vp_in (nI (7 * k) + nI j) L ∧ xs (nI (7 * k) + nI j).toNatClampNeg = xs (7 * k + j) := fun j hj => by
        rw [nI_add]
        exact ⟨pk_in (7 * k + j) L (by omega) rfl (by omega), by rw [nI_clamp (by omega)]⟩
      have hp0 : vp_in (nI (7 * k)) L ∧ xs (nI (7 * k)).toNatClampNeg = xs (7 * k) := ⟨pk_in (7 * k) L (by omega) rfl (by omega), by rw [nI_clamp (by omega)]⟩
      refine tlw_step F hR hX hb hp0 (hp 1 (by omega)) (hp 2 (by omega)) (hp 3 (by omega)) (hp 4 (by omega)) (hp 5 (by omega)) (hp 6 (by omega)) (by omega) (by omega) (fun M' J' => ?_) (step_ok J (by omega))
      refine v_iinc C (pc := 1976) (i := 4) (w := 7) (lv' := [some (va_rf (some b)), some (va_rf (some x)), some (va_rf (some m)), some (va_rf (some out)), some (.int (nI (7 * (k + 1)))), none, none]) dL_law_1976 rfl (by decide) ?_ ?_
      · have e7 : nI (7 * k) + 7 = nI (7 * (k + 1)) := nI_add (7 * k) 7
        rw [e7]
        rfl
      · refine v_goto C (pc := 1979) (tgt := 23) dL_law_1979 (by decide) ?_
        exact ih (k + 1) (cells + 20) (slots + 211) M' x m out (by omega) (by omega) J' (by omega) (by omega)
def R_law : String := "ChargehouseLaw"
def lw_P (b : Addr) (xs : List Int32) (args : Array Value) (s : State) : Prop := args = #[.ref b] ∧ s.IntsAt b xs ∧ xs.length ≤ 3584 ∧ (Jvm.Cond.and given_1 narrow_1).before args s = true
def lw_Q (_ : Array Value) (s : State) (o : Outcome) (t : State) : Prop := o = .returned (some (.int 1)) ∧ Framed s o t [] 601024 7293034
def lw_Z (below : List Frame) (a : Array Value) (s : State) : State → Prop := fun t => ∃ o, t.status = .running ∧ Ended t below o ∧ lw_Q a s o t
/-- the law's own end, with 1 on the stack, nothing written that was there before, its room as the claim has it -/
theorem lw_ret {p : Program} {l : Launch} {e : Env} {s : State} {m : MethodId} {below : List Frame} {meth : Method} {c : Code} {b : Nat} (hx : p.tables.exec = Jvm.exec) (hb : c.code = code) (hr : meth.sig.returnType = ret) (hlocks : meth.locks = false) {pc : Nat} {H : Heap} {ls : Array Slot} (hdg : decode code pc = .ok (.ireturn, 1)) : W p l e room_1 s m #[Value.ref b] below meth c H [] 601024 7293034 (lw_Z below #[Value.ref b] s) (F0 m pc ls [.int 1]) := by
  intro T hT X
  obtain ⟨fs, hret, hrun, hended, hW, hframe⟩ := X.leave (v := some (.int 1)) (hlocks := hlocks) (fun h => by rw [hr] at h; cases h)
  have hmeth' : T.vm.method? m = some meth := X.method'
  refine ⟨T.setFrames fs, ?_, .returned (some (.int 1)), hrun, hended, rfl, ⟨_, rfl⟩, hW, hframe⟩
  jvm_step X.here [X.here.top, hx, hb, hdg, hmeth', hr, ret, narrow_b1]
  (try refine ⟨rfl, ?_⟩); (try refine ⟨rfl, ?_⟩)
  first | (intro acts; rw [hret _ acts rfl rfl rfl]) | rw [hret _ _ rfl rfl rfl]
  exact Steps.refl _
/-- what holds at the law's entry: the machine, the code, the tables' words (any of lw_tbl by 'hts w (by decide +kernel)'), the script of L ints xs at the cell b, what the Statement gives of the start (any of its parts by flat_of_before) -/
def lw_At (p : Program) (s : State) (m : MethodId) (meth : Method) (c : Code) (b L : Nat) (xs : Nat → Int32) : Prop :=
  p.tables.exec = Jvm.exec ∧ c.code = code ∧ meth.sig.returnType = ret ∧ c.maxLocals = 7 ∧ s.vm.findClass R_law = some m.cls ∧ (∀ w ∈ lw_tbl, w.before #[Value.ref b] s = true) ∧ va_X b L xs s s.heap ∧ b < s.heap.size ∧ meth.locks = false ∧ (Jvm.Cond.and given_1 narrow_1).before #[Value.ref b] s = true
/-! ===== the words of the start ===== -/
theorem arr_prim {s : State} {args : Array Value} {ty : FieldType} (h : (Cond.arrayClass ty).before args s = true) : ∃ c : ClassId, ArrOfT s c ty ∧ s.vm.findClass ("[" ++ ty.toString) = some c := by
  obtain ⟨c, k, comp, h1, h2, h3⟩ := Cond.arrayClass_spec (show (Cond.arrayClass ty).holds args s none s [] = true from h)
  exact ⟨c, fun n z => ⟨fun k h => (by cases h), k, h2, comp, h3⟩, h1⟩
theorem arr_obj {s : State} {args : Array Value} {C : String} (h : (Cond.arrayOver (.object C)).before args s = true) : ∃ c : ClassId, ArrOfT s c (.object C) ∧ va_RA s c (.object C) := by
  obtain ⟨comp, c, k, h1, -, h3, h4, h5⟩ := Cond.arrayOver_spec (show (Cond.arrayOver (.object C)).holds args s none s [] = true from h)
  exact ⟨c, fun n z => ⟨fun k h => (by cases h), k, h3, comp, h4⟩, k, comp, h3, h4, h1, h5⟩
theorem decl_of {s : State} {args : Array Value} {y : MethodName} {bytes : ByteArray} {n : Nat} {ret : Option FieldType} (h1 : (Cond.instanceMethod y).before args s = true) (h2 : (Cond.codeSync y bytes n ret).before args s = true) : (Cond.declares y).before args s = true := by
  obtain ⟨m, meth, hn, hm, hst, -⟩ := Cond.instanceMethod_spec (show (Cond.instanceMethod y).holds args s none s [] = true from h1)
  obtain ⟨meth', c, hm', hc, hb, hl, hr, hlk, -, hsig⟩ := Cond.codeSync_spec hn (show (Cond.codeSync y bytes n ret).holds args s none s [] = true from h2)
  have e : meth = meth' := Option.some.inj (hm.symm.trans hm')
  subst e
  simp [Cond.before, Cond.holds, Cond.value, hn, hm, hst, hsig]
theorem str_of {s : State} {args : Array Value} {own tx : String} {k cur : Nat} (hc : s.vm.findClass own = some cur) (h : (Cond.stringRef own k tx).before args s = true) : ∃ a, vk_R own k tx a s := by
  obtain ⟨-, -, -, a, -, -, -, -, -, he⟩ := Cond.stringRef_spec hc (show (Cond.stringRef own k tx).holds args s none s [] = true from h)
  exact ⟨a, vk_R.of h he⟩
theorem all_nil {α : Type} {p : α → Prop} : ∀ q ∈ ([] : List α), p q := fun _ h => absurd h List.not_mem_nil
set_option maxRecDepth 100000 in
set_option maxHeartbeats 4000000 in
theorem hK_of {s : State} {b : Addr} (hts : ∀ w ∈ lw_tbl, w.before #[Value.ref b] s = true) : ∃ G : hG, hK G s := by
  obtain ⟨c0, i0, k0⟩ := u_known (C := RX0) (T := TX0) (N := 14) (n := 14) hts (fun w h => inX0 w h) (hts _ (List.mem_of_getElem? (i := 335) (by decide +kernel)))
  obtain ⟨c1, i1, k1⟩ := u_known (C := RX1) (T := TX1) (N := 5) (n := 5) hts (fun w h => inX1 w h) (hts _ (List.mem_of_getElem? (i := 306) (by decide +kernel)))
  obtain ⟨c2, i2, k2⟩ := u_known (C := RX2) (T := TX2) (N := 10) (n := 10) hts (fun w h => inX2 w h) (hts _ (List.mem_of_getElem? (i := 412) (by decide +kernel)))
  obtain ⟨c3, i3, k3⟩ := u_known (C := RX3) (T := TX3) (N := 4) (n := 4) hts (fun w h => inX3 w h) (hts _ (List.mem_of_getElem? (i := 210) (by decide +kernel)))
  obtain ⟨c4, i4, k4⟩ := u_known (C := RX4) (T := TX4) (N := 13) (n := 13) hts (fun w h => inX4 w h) (hts _ (List.mem_of_getElem? (i := 57) (by decide +kernel)))
  obtain ⟨c5, i5, k5⟩ := u_known (C := RX5) (T := TX5) (N := 38) (n := 38) hts (fun w h => inX5 w h) (hts _ (List.mem_of_getElem? (i := 753) (by decide +kernel)))
  obtain ⟨a0, x0, y0⟩ := arr_prim (ty := .int) (hts _ (List.mem_of_getElem? (i := 393) (by decide +kernel)))
  obtain ⟨a1, x1, y1⟩ := arr_prim (ty := .boolean) (hts _ (List.mem_of_getElem? (i := 873) (by decide +kernel)))
  obtain ⟨a2, x2, y2⟩ := arr_prim (ty := .long) (hts _ (List.mem_of_getElem? (i := 1064) (by decide +kernel)))
  obtain ⟨a3, x3, y3⟩ := arr_obj (C := RX3) (hts _ (List.mem_of_getElem? (i := 65) (by decide +kernel)))
  obtain ⟨a4, x4, y4⟩ := arr_obj (C := RX1) (hts _ (List.mem_of_getElem? (i := 67) (by decide +kernel)))
  obtain ⟨a5, x5, y5⟩ := arr_obj (C := RX2) (hts _ (List.mem_of_getElem? (i := 69) (by decide +kernel)))
  obtain ⟨a6, x6, y6⟩ := arr_obj (C := RX0) (hts _ (List.mem_of_getElem? (i := 312) (by decide +kernel)))
  refine ⟨((fun k => match k with | 0 => c0 | 1 => c1 | 2 => c2 | 3 => c3 | 4 => c4 | _ => c5, fun k => match k with | 0 => i0 | 1 => i1 | 2 => i2 | 3 => i3 | 4 => i4 | _ => i5), fun k => match k with | 0 => a0 | 1 => a1 | 2 => a2 | 3 => a3 | 4 => a4 | 5 => a5 | _ => a6), ?_, ?_⟩
  · intro k q hq
    match k, hq with
    | 0, hq => cases hq; exact k0
    | 1, hq => cases hq; exact k1
    | 2, hq => cases hq; exact k2
    | 3, hq => cases hq; exact k3
    | 4, hq => cases hq; exact k4
    | 5, hq => cases hq; exact k5
    | k + 6, hq => simp [vwCl] at hq
  · intro k q hq
    match k, hq with
    | 0, hq => cases hq; exact ⟨x0, y0⟩
    | 1, hq => cases hq; exact ⟨x1, y1⟩
    | 2, hq => cases hq; exact ⟨x2, y2⟩
    | 3, hq => cases hq; exact ⟨x3, y3⟩
    | 4, hq => cases hq; exact ⟨x4, y4⟩
    | 5, hq => cases hq; exact ⟨x5, y5⟩
    | 6, hq => cases hq; exact ⟨x6, y6⟩
    | k + 7, hq => simp [hTys] at hq
set_option maxRecDepth 100000 in
set_option maxHeartbeats 4000000 in
theorem hS_of {s : State} {b : Addr} (hts : ∀ w ∈ lw_tbl, w.before #[Value.ref b] s = true) (hgv : (Jvm.Cond.and given_1 narrow_1).before #[Value.ref b] s = true) : hS s := by
  have hf := flat_of_before _ hgv
  obtain ⟨c4, i4, k4⟩ := u_known (C := RX4) (T := TX4) (N := 13) (n := 13) hts (fun w h => inX4 w h) (hts _ (List.mem_of_getElem? (i := 57) (by decide +kernel)))
  have hcur := k4.2.1
  refine ⟨?_, ?_, ?_, ?_, ?_, ?_⟩
  · exact List.forall_mem_cons.mpr ⟨va_Nw.of rfl (hts _ (List.mem_of_getElem? (i := 265) (by decide +kernel))), List.forall_mem_cons.mpr ⟨va_Nw.of rfl (hts _ (List.mem_of_getElem? (i := 293) (by decide +kernel))), List.forall_mem_cons.mpr ⟨va_Nw.of rfl (hts _ (List.mem_of_getElem? (i := 483) (by decide +kernel))), all_nil⟩⟩⟩
  · exact List.forall_mem_cons.mpr ⟨va_Nw.of rfl (hts _ (List.mem_of_getElem? (i := 128) (by decide +kernel))), List.forall_mem_cons.mpr ⟨va_Nw.of rfl (hts _ (List.mem_of_getElem? (i := 196) (by decide +kernel))), List.forall_mem_cons.mpr ⟨va_Nw.of rfl (hts _ (List.mem_of_getElem? (i := 246) (by decide +kernel))), all_nil⟩⟩⟩
  · exact List.forall_mem_cons.mpr ⟨va_Nw.of rfl (hts _ (List.mem_of_getElem? (i := 134) (by decide +kernel))), List.forall_mem_cons.mpr ⟨va_Nw.of rfl (hts _ (List.mem_of_getElem? (i := 132) (by decide +kernel))), List.forall_mem_cons.mpr ⟨va_Nw.of rfl (hts _ (List.mem_of_getElem? (i := 130) (by decide +kernel))), List.forall_mem_cons.mpr ⟨va_Nw.of (A := #[Value.ref b]) rfl (decl_of (bytes := prog_16_method_18_code) (n := 1) (ret := some (.object "java/lang/Throwable")) (hts _ (List.mem_of_getElem? (i := 157) (by decide +kernel))) (hts _ (List.mem_of_getElem? (i := 161) (by decide +kernel)))), all_nil⟩⟩⟩⟩
  · exact List.forall_mem_cons.mpr ⟨va_AO.of (hts _ (List.mem_of_getElem? (i := 65) (by decide +kernel))), List.forall_mem_cons.mpr ⟨va_AO.of (hts _ (List.mem_of_getElem? (i := 67) (by decide +kernel))), List.forall_mem_cons.mpr ⟨va_AO.of (hts _ (List.mem_of_getElem? (i := 69) (by decide +kernel))), List.forall_mem_cons.mpr ⟨va_AO.of (hts _ (List.mem_of_getElem? (i := 312) (by decide +kernel))), all_nil⟩⟩⟩⟩
  · exact List.forall_mem_cons.mpr ⟨va_Nc.of (hf (Cond.not (.castable "java/lang/IllegalStateException" "java/lang/IllegalArgumentException")) (by decide +kernel)), List.forall_mem_cons.mpr ⟨va_Nc.of (hf (Cond.not (.castable "java/lang/IllegalArgumentException" "java/lang/IllegalStateException")) (by decide +kernel)), List.forall_mem_cons.mpr ⟨va_Nc.of (hf (Cond.not (.castable "java/lang/IndexOutOfBoundsException" "java/lang/IllegalArgumentException")) (by decide +kernel)), List.forall_mem_cons.mpr ⟨va_Nc.of (hf (Cond.not (.castable "java/lang/IndexOutOfBoundsException" "java/lang/IllegalStateException")) (by decide +kernel)), List.forall_mem_cons.mpr ⟨va_Nc.of (hf (Cond.not (.castable "java/lang/IllegalArgumentException" "java/lang/IndexOutOfBoundsException")) (by decide +kernel)), List.forall_mem_cons.mpr ⟨va_Nc.of (hf (Cond.not (.castable "java/lang/IllegalStateException" "java/lang/IndexOutOfBoundsException")) (by decide +kernel)), all_nil⟩⟩⟩⟩⟩⟩
  · exact List.forall_mem_cons.mpr ⟨str_of hcur (hts _ (List.mem_of_getElem? (i := 167) (by decide +kernel))), List.forall_mem_cons.mpr ⟨str_of hcur (hts _ (List.mem_of_getElem? (i := 203) (by decide +kernel))), List.forall_mem_cons.mpr ⟨str_of hcur (hts _ (List.mem_of_getElem? (i := 253) (by decide +kernel))), List.forall_mem_cons.mpr ⟨str_of hcur (hts _ (List.mem_of_getElem? (i := 260) (by decide +kernel))), List.forall_mem_cons.mpr ⟨str_of hcur (hts _ (List.mem_of_getElem? (i := 275) (by decide +kernel))), List.forall_mem_cons.mpr ⟨str_of hcur (hts _ (List.mem_of_getElem? (i := 276) (by decide +kernel))), List.forall_mem_cons.mpr ⟨str_of hcur (hts _ (List.mem_of_getElem? (i := 304) (by decide +kernel))), List.forall_mem_cons.mpr ⟨str_of hcur (hts _ (List.mem_of_getElem? (i := 305) (by decide +kernel))), List.forall_mem_cons.mpr ⟨str_of hcur (hts _ (List.mem_of_getElem? (i := 405) (by decide +kernel))), List.forall_mem_cons.mpr ⟨str_of hcur (hts _ (List.mem_of_getElem? (i := 410) (by decide +kernel))), List.forall_mem_cons.mpr ⟨str_of hcur (hts _ (List.mem_of_getElem? (i := 411) (by decide +kernel))), List.forall_mem_cons.mpr ⟨str_of hcur (hts _ (List.mem_of_getElem? (i := 469) (by decide +kernel))), List.forall_mem_cons.mpr ⟨str_of hcur (hts _ (List.mem_of_getElem? (i := 470) (by decide +kernel))), List.forall_mem_cons.mpr ⟨str_of hcur (hts _ (List.mem_of_getElem? (i := 478) (by decide +kernel))), List.forall_mem_cons.mpr ⟨str_of hcur (hts _ (List.mem_of_getElem? (i := 488) (by decide +kernel))), List.forall_mem_cons.mpr ⟨str_of hcur (hts _ (List.mem_of_getElem? (i := 506) (by decide +kernel))), List.forall_mem_cons.mpr ⟨str_of hcur (hts _ (List.mem_of_getElem? (i := 578) (by decide +kernel))), List.forall_mem_cons.mpr ⟨str_of hcur (hts _ (List.mem_of_getElem? (i := 590) (by decide +kernel))), List.forall_mem_cons.mpr ⟨str_of hcur (hts _ (List.mem_of_getElem? (i := 598) (by decide +kernel))), List.forall_mem_cons.mpr ⟨str_of hcur (hts _ (List.mem_of_getElem? (i := 606) (by decide +kernel))), List.forall_mem_cons.mpr ⟨str_of hcur (hts _ (List.mem_of_getElem? (i := 622) (by decide +kernel))), List.forall_mem_cons.mpr ⟨str_of hcur (hts _ (List.mem_of_getElem? (i := 623) (by decide +kernel))), List.forall_mem_cons.mpr ⟨str_of hcur (hts _ (List.mem_of_getElem? (i := 635) (by decide +kernel))), List.forall_mem_cons.mpr ⟨str_of hcur (hts _ (List.mem_of_getElem? (i := 643) (by decide +kernel))), List.forall_mem_cons.mpr ⟨str_of hcur (hts _ (List.mem_of_getElem? (i := 644) (by decide +kernel))), List.forall_mem_cons.mpr ⟨str_of hcur (hts _ (List.mem_of_getElem? (i := 653) (by decide +kernel))), List.forall_mem_cons.mpr ⟨str_of hcur (hts _ (List.mem_of_getElem? (i := 669) (by decide +kernel))), List.forall_mem_cons.mpr ⟨str_of hcur (hts _ (List.mem_of_getElem? (i := 733) (by decide +kernel))), List.forall_mem_cons.mpr ⟨str_of hcur (hts _ (List.mem_of_getElem? (i := 522) (by decide +kernel))), List.forall_mem_cons.mpr ⟨str_of hcur (hts _ (List.mem_of_getElem? (i := 674) (by decide +kernel))), List.forall_mem_cons.mpr ⟨str_of hcur (hts _ (List.mem_of_getElem? (i := 527) (by decide +kernel))), all_nil⟩⟩⟩⟩⟩⟩⟩⟩⟩⟩⟩⟩⟩⟩⟩⟩⟩⟩⟩⟩⟩⟩⟩⟩⟩⟩⟩⟩⟩⟩⟩
theorem hT_of {s : State} {b : Addr} {A : Nat → Prop} (hts : ∀ w ∈ lw_tbl, w.before #[Value.ref b] s = true) (hgv : (Jvm.Cond.and given_1 narrow_1).before #[Value.ref b] s = true) (hA : ∀ a : Nat, a < s.heap.size → ¬ A a) : hT A s := by
  have hf := flat_of_before _ hgv
  exact ⟨vx_Zqof (hts _ (List.mem_of_getElem? (i := 153) (by decide +kernel))) (hts _ (List.mem_of_getElem? (i := 44) (by decide +kernel))) (hf (Cond.isRef (.static "java/lang/Throwable" "UNASSIGNED_STACK" "[Ljava/lang/StackTraceElement;")) (by decide +kernel)) hA, vx_Zqof (hts _ (List.mem_of_getElem? (i := 155) (by decide +kernel))) (hts _ (List.mem_of_getElem? (i := 44) (by decide +kernel))) (hf (Cond.isRef (.static "java/lang/Throwable" "SUPPRESSED_SENTINEL" "Ljava/util/List;")) (by decide +kernel)) hA⟩
set_option maxRecDepth 100000 in
set_option maxHeartbeats 4000000 in
theorem whole_start {p : Program} {e : Env} {s : State} {m : MethodId} {below : List Frame} {meth : Method} {c : Code} (l : Launch) (hflags : l.flags = flags0) {b L : Nat} {xs : Nat → Int32} (hL : L ≤ 3584) (C0 : lw_At p s m meth c b L xs) : W p l e room_1 s m #[Value.ref b] below meth c s.heap [] 0 0 (lw_Z below #[Value.ref b] s) (entryFrame m ([Value.ref b] : List Value).toArray 7) := by
  obtain ⟨hx, hb, hr, hml, hown, hts, hX, hbl, hlocks, hgv⟩ := id C0
  obtain ⟨G, hKs⟩ := hK_of hts
  have hSs := hS_of hts hgv
  have hTs : hT (hAA (fun _ => none) s.heap.size) s := hT_of hts hgv (fun a ha q => q.elim (fun q => q rfl) (fun q => absurd ha (Nat.not_lt.mpr q)))
  have hfl : l.stackTraces = false := by
    unfold Launch.stackTraces
    rw [hflags]
    decide +kernel
  have hl := lw_entry [.ref b] (n := 7) (hcc rfl hc0) (Nat.le_of_ble_eq_true rfl)
  rw [lg_entry_eq]
  have F : Cw ((p, l, e, room_1, s, m, #[Value.ref b], below, meth, c, lw_Z below #[Value.ref b] s, G, hZe (hAA (fun _ => none) s.heap.size) s, 7) : hKx) RL code lw_tbl (fun _ => none) s.heap.size := ⟨⟨hx, hb, hml, hown, hts, hKs, hSs, hlocks⟩, rfl, rfl, hfl, hTs⟩
  have hend : ∀ (cells slots : Nat) (M : hM) (lv : List (Option Value)), cells ≤ 601024 → slots ≤ 7293034 → VW ((p, l, e, room_1, s, m, #[Value.ref b], below, meth, c, lw_Z below #[Value.ref b] s, G, hZe (hAA (fun _ => none) s.heap.size) s, 7) : hKx) cells slots M 1982 lv [] := by
    intro cells slots M lv hc hs H locs ls h1 h2 h3
    have h2' : hZe (hAA (fun _ => none) s.heap.size) s M H locs := h2
    show W p l e room_1 s m #[Value.ref b] below meth c H locs cells slots (lw_Z below #[Value.ref b] s) (F0 m 1982 ls [])
    refine va_forget (fun q hq => (h2'.2.2.2 q hq).elim (fun z => absurd rfl z) (fun z => z)) ?_
    refine W.widen (k := 601024) (n := 7293034) hc hs ?_
    refine lv_iconst (v := 1) hx hb dL_law_1982 (by decide) ?_
    exact lw_ret hx hb hr hlocks dL_law_1983
  have V := tlw_init (k23 := fun M a1 a2 a3 => ∃ x m out : Nat, a1 = some x ∧ a2 = some m ∧ a3 = some out ∧ INV 0 M x m out) F rfl hX hbl (fun M a1 a2 a3 q => by
    obtain ⟨x, m1, out, rfl, rfl, rfl, J⟩ := q
    exact law_loop F rfl hX hbl hL hend 513 0 38 2890 M x m1 out (by omega) (by omega) J (by omega) (by omega)) (law_start (fun M x m1 out J => ⟨x, m1, out, rfl, rfl, rfl, J⟩))
  exact V s.heap [] _ (fun a x h => (by cases h)) ⟨fun a x h => (by cases h), va_S.rf⟩ hl
