def R_law : String := "ChargehouseLaw"
def lw_P (b : Addr) (xs : List Int32) (args : Array Value) (s : State) : Prop := args = #[.ref b] ∧ s.IntsAt b xs ∧ xs.length ≤ 260 ∧ (Jvm.Cond.and given_1 narrow_1).before args s = true
def lw_Q (_ : Array Value) (s : State) (o : Outcome) (t : State) : Prop := o = .returned (some (.int 1)) ∧ Framed s o t [] 600074 7301549
def lw_Z (below : List Frame) (a : Array Value) (s : State) : State → Prop := fun t => ∃ o, t.status = .running ∧ Ended t below o ∧ lw_Q a s o t
/-- the law's own end, with 1 on the stack, nothing written that was there before, its room as the claim has it -/
theorem lw_ret {p : Program} {l : Launch} {e : Env} {s : State} {m : MethodId} {below : List Frame} {meth : Method} {c : Code} {b : Nat} (hx : p.tables.exec = Jvm.exec) (hb : c.code = code) (hr : meth.sig.returnType = ret) (hlocks : meth.locks = false) {pc : Nat} {H : Heap} {ls : Array Slot} (hdg : decode code pc = .ok (.ireturn, 1)) : W p l e room_1 s m #[Value.ref b] below meth c H [] 600074 7301549 (lw_Z below #[Value.ref b] s) (F0 m pc ls [.int 1]) := by
  intro T hT X
  obtain ⟨fs, hret, hrun, hended, hW, hframe⟩ := X.leave (v := some (.int 1)) (hlocks := hlocks) (fun h => by rw [hr] at h; cases h)
  have hmeth' : T.vm.method? m = some meth := X.method'
  refine ⟨T.setFrames fs, ?_, .returned (some (.int 1)), hrun, hended, rfl, ⟨_, rfl⟩, hW, hframe⟩
  jvm_step X.here [X.here.top, hx, hb, hdg, hmeth', hr, ret, narrow_b1]
  (try refine ⟨rfl, ?_⟩); (try refine ⟨rfl, ?_⟩)
  first | (intro acts; rw [hret _ acts rfl rfl rfl]) | rw [hret _ _ rfl rfl rfl]
  exact Steps.refl _
/-- what holds at the law's entry: the machine, the code, the tables' words (any of lw_tbl by 'hts w (by decide +kernel)'), the script of L ints xs at the cell b, what the Statement gives of the start (any of its parts by flat_of_before) -/
def lw_At (p : Program) (s : State) (m : MethodId) (meth : Method) (c : Code) (b L : Nat) (xs : Nat → Int32) : Prop :=
  p.tables.exec = Jvm.exec ∧ c.code = code ∧ meth.sig.returnType = ret ∧ c.maxLocals = 19 ∧ s.vm.findClass R_law = some m.cls ∧ (∀ w ∈ lw_tbl, w.before #[Value.ref b] s = true) ∧ va_X b L xs s s.heap ∧ b < s.heap.size ∧ meth.locks = false ∧ (Jvm.Cond.and given_1 narrow_1).before #[Value.ref b] s = true
/-! ===== the words of the start ===== -/
theorem arr_prim {s : State} {args : Array Value} {ty : FieldType} (h : (Cond.arrayClass ty).before args s = true) : ∃ c : ClassId, ArrOfT s c ty ∧ s.vm.findClass ("[" ++ ty.toString) = some c := by
  obtain ⟨c, k, comp, h1, h2, h3⟩ := Cond.arrayClass_spec (show (Cond.arrayClass ty).holds args s none s [] = true from h)
  exact ⟨c, fun n z => ⟨fun k h => (by cases h), k, h2, comp, h3⟩, h1⟩
theorem arr_obj {s : State} {args : Array Value} {C : String} (h : (Cond.arrayOver (.object C)).before args s = true) : ∃ c : ClassId, ArrOfT s c (.object C) ∧ va_RA s c (.object C) := by
  obtain ⟨comp, c, k, h1, -, h3, h4, h5⟩ := Cond.arrayOver_spec (show (Cond.arrayOver (.object C)).holds args s none s [] = true from h)
  exact ⟨c, fun n z => ⟨fun k h => (by cases h), k, h3, comp, h4⟩, k, comp, h3, h4, h1, h5⟩
theorem decl_of {s : State} {args : Array Value} {y : MethodName} {bytes : ByteArray} {n : Nat} {ret : Option FieldType} (h1 : (Cond.instanceMethod y).before args s = true) (h2 : (Cond.codeSync y bytes n ret).before args s = true) : (Cond.declares y).before args s = true := by
  obtain ⟨m, meth, hn, hm, hst, -⟩ := Cond.instanceMethod_spec (show (Cond.instanceMethod y).holds args s none s [] = true from h1)
  obtain ⟨meth', c, hm', hc, hb, hl, hr, hlk, -, hsig⟩ := Cond.codeSync_spec hn (show (Cond.codeSync y bytes n ret).holds args s none s [] = true from h2)
  have e : meth = meth' := Option.some.inj (hm.symm.trans hm')
  subst e
  simp [Cond.before, Cond.holds, Cond.value, hn, hm, hst, hsig]
theorem str_of {s : State} {args : Array Value} {own tx : String} {k cur : Nat} (hc : s.vm.findClass own = some cur) (h : (Cond.stringRef own k tx).before args s = true) : ∃ a, vk_R own k tx a s := by
  obtain ⟨-, -, -, a, -, -, -, -, -, he⟩ := Cond.stringRef_spec hc (show (Cond.stringRef own k tx).holds args s none s [] = true from h)
  exact ⟨a, vk_R.of h he⟩
theorem all_nil {α : Type} {p : α → Prop} : ∀ q ∈ ([] : List α), p q := fun _ h => absurd h List.not_mem_nil
set_option maxRecDepth 100000 in
set_option maxHeartbeats 4000000 in
theorem hK_of {s : State} {b : Addr} (hts : ∀ w ∈ lw_tbl, w.before #[Value.ref b] s = true) : ∃ G : hG, hK G s := by
  obtain ⟨c0, i0, k0⟩ := u_known (C := RX0) (T := TX0) (N := 14) (n := 14) hts (fun w h => inX0 w h) (hts _ (List.mem_of_getElem? (i := 492) (by decide +kernel)))
  obtain ⟨c1, i1, k1⟩ := u_known (C := RX1) (T := TX1) (N := 5) (n := 5) hts (fun w h => inX1 w h) (hts _ (List.mem_of_getElem? (i := 464) (by decide +kernel)))
  obtain ⟨c2, i2, k2⟩ := u_known (C := RX2) (T := TX2) (N := 10) (n := 10) hts (fun w h => inX2 w h) (hts _ (List.mem_of_getElem? (i := 566) (by decide +kernel)))
  obtain ⟨c3, i3, k3⟩ := u_known (C := RX3) (T := TX3) (N := 4) (n := 4) hts (fun w h => inX3 w h) (hts _ (List.mem_of_getElem? (i := 433) (by decide +kernel)))
  obtain ⟨c4, i4, k4⟩ := u_known (C := RX4) (T := TX4) (N := 13) (n := 13) hts (fun w h => inX4 w h) (hts _ (List.mem_of_getElem? (i := 38) (by decide +kernel)))
  obtain ⟨a0, x0, y0⟩ := arr_prim (ty := .int) (hts _ (List.mem_of_getElem? (i := 550) (by decide +kernel)))
  obtain ⟨a1, x1, y1⟩ := arr_obj (C := RX3) (hts _ (List.mem_of_getElem? (i := 46) (by decide +kernel)))
  obtain ⟨a2, x2, y2⟩ := arr_obj (C := RX1) (hts _ (List.mem_of_getElem? (i := 48) (by decide +kernel)))
  obtain ⟨a3, x3, y3⟩ := arr_obj (C := RX2) (hts _ (List.mem_of_getElem? (i := 50) (by decide +kernel)))
  obtain ⟨a4, x4, y4⟩ := arr_obj (C := RX0) (hts _ (List.mem_of_getElem? (i := 470) (by decide +kernel)))
  refine ⟨((fun k => match k with | 0 => c0 | 1 => c1 | 2 => c2 | 3 => c3 | _ => c4, fun k => match k with | 0 => i0 | 1 => i1 | 2 => i2 | 3 => i3 | _ => i4), fun k => match k with | 0 => a0 | 1 => a0 | 2 => a0 | 3 => a1 | 4 => a2 | 5 => a3 | _ => a4), ?_, ?_⟩
  · intro k q hq
    match k, hq with
    | 0, hq => cases hq; exact k0
    | 1, hq => cases hq; exact k1
    | 2, hq => cases hq; exact k2
    | 3, hq => cases hq; exact k3
    | 4, hq => cases hq; exact k4
    | k + 5, hq => simp [vwCl] at hq
  · intro k q hq
    match k, hq with
    | 0, hq => cases hq; exact ⟨x0, y0⟩
    | 1, hq => cases hq; exact ⟨x0, y0⟩
    | 2, hq => cases hq; exact ⟨x0, y0⟩
    | 3, hq => cases hq; exact ⟨x1, y1⟩
    | 4, hq => cases hq; exact ⟨x2, y2⟩
    | 5, hq => cases hq; exact ⟨x3, y3⟩
    | 6, hq => cases hq; exact ⟨x4, y4⟩
    | k + 7, hq => simp [hTys] at hq
set_option maxRecDepth 100000 in
set_option maxHeartbeats 4000000 in
theorem hS_of {s : State} {b : Addr} (hts : ∀ w ∈ lw_tbl, w.before #[Value.ref b] s = true) (hgv : (Jvm.Cond.and given_1 narrow_1).before #[Value.ref b] s = true) : hS s := by
  have hf := flat_of_before _ hgv
  obtain ⟨c4, i4, k4⟩ := u_known (C := RX4) (T := TX4) (N := 13) (n := 13) hts (fun w h => inX4 w h) (hts _ (List.mem_of_getElem? (i := 38) (by decide +kernel)))
  have hcur := k4.2.1
  refine ⟨?_, ?_, ?_, ?_, ?_, ?_⟩
  · exact List.forall_mem_cons.mpr ⟨va_Nw.of rfl (hts _ (List.mem_of_getElem? (i := 369) (by decide +kernel))), List.forall_mem_cons.mpr ⟨va_Nw.of rfl (hts _ (List.mem_of_getElem? (i := 674) (by decide +kernel))), List.forall_mem_cons.mpr ⟨va_Nw.of rfl (hts _ (List.mem_of_getElem? (i := 310) (by decide +kernel))), all_nil⟩⟩⟩
  · exact List.forall_mem_cons.mpr ⟨va_Nw.of rfl (hts _ (List.mem_of_getElem? (i := 120) (by decide +kernel))), List.forall_mem_cons.mpr ⟨va_Nw.of rfl (hts _ (List.mem_of_getElem? (i := 419) (by decide +kernel))), List.forall_mem_cons.mpr ⟨va_Nw.of rfl (hts _ (List.mem_of_getElem? (i := 209) (by decide +kernel))), all_nil⟩⟩⟩
  · exact List.forall_mem_cons.mpr ⟨va_Nw.of rfl (hts _ (List.mem_of_getElem? (i := 126) (by decide +kernel))), List.forall_mem_cons.mpr ⟨va_Nw.of rfl (hts _ (List.mem_of_getElem? (i := 124) (by decide +kernel))), List.forall_mem_cons.mpr ⟨va_Nw.of rfl (hts _ (List.mem_of_getElem? (i := 122) (by decide +kernel))), List.forall_mem_cons.mpr ⟨va_Nw.of (A := #[Value.ref b]) rfl (decl_of (bytes := prog_16_method_18_code) (n := 1) (ret := some (.object "java/lang/Throwable")) (hts _ (List.mem_of_getElem? (i := 149) (by decide +kernel))) (hts _ (List.mem_of_getElem? (i := 153) (by decide +kernel)))), all_nil⟩⟩⟩⟩
  · exact List.forall_mem_cons.mpr ⟨va_AO.of (hts _ (List.mem_of_getElem? (i := 46) (by decide +kernel))), List.forall_mem_cons.mpr ⟨va_AO.of (hts _ (List.mem_of_getElem? (i := 48) (by decide +kernel))), List.forall_mem_cons.mpr ⟨va_AO.of (hts _ (List.mem_of_getElem? (i := 50) (by decide +kernel))), List.forall_mem_cons.mpr ⟨va_AO.of (hts _ (List.mem_of_getElem? (i := 470) (by decide +kernel))), all_nil⟩⟩⟩⟩
  · exact List.forall_mem_cons.mpr ⟨va_Nc.of (hf (Cond.not (.castable "java/lang/IllegalStateException" "java/lang/IllegalArgumentException")) (by decide +kernel)), List.forall_mem_cons.mpr ⟨va_Nc.of (hf (Cond.not (.castable "java/lang/IllegalArgumentException" "java/lang/IllegalStateException")) (by decide +kernel)), List.forall_mem_cons.mpr ⟨va_Nc.of (hf (Cond.not (.castable "java/lang/IndexOutOfBoundsException" "java/lang/IllegalArgumentException")) (by decide +kernel)), List.forall_mem_cons.mpr ⟨va_Nc.of (hf (Cond.not (.castable "java/lang/IndexOutOfBoundsException" "java/lang/IllegalStateException")) (by decide +kernel)), List.forall_mem_cons.mpr ⟨va_Nc.of (hf (Cond.not (.castable "java/lang/IllegalArgumentException" "java/lang/IndexOutOfBoundsException")) (by decide +kernel)), List.forall_mem_cons.mpr ⟨va_Nc.of (hf (Cond.not (.castable "java/lang/IllegalStateException" "java/lang/IndexOutOfBoundsException")) (by decide +kernel)), all_nil⟩⟩⟩⟩⟩⟩
  · exact List.forall_mem_cons.mpr ⟨str_of hcur (hts _ (List.mem_of_getElem? (i := 416) (by decide +kernel))), List.forall_mem_cons.mpr ⟨str_of hcur (hts _ (List.mem_of_getElem? (i := 426) (by decide +kernel))), List.forall_mem_cons.mpr ⟨str_of hcur (hts _ (List.mem_of_getElem? (i := 271) (by decide +kernel))), List.forall_mem_cons.mpr ⟨str_of hcur (hts _ (List.mem_of_getElem? (i := 619) (by decide +kernel))), List.forall_mem_cons.mpr ⟨str_of hcur (hts _ (List.mem_of_getElem? (i := 768) (by decide +kernel))), List.forall_mem_cons.mpr ⟨str_of hcur (hts _ (List.mem_of_getElem? (i := 769) (by decide +kernel))), List.forall_mem_cons.mpr ⟨str_of hcur (hts _ (List.mem_of_getElem? (i := 462) (by decide +kernel))), List.forall_mem_cons.mpr ⟨str_of hcur (hts _ (List.mem_of_getElem? (i := 463) (by decide +kernel))), List.forall_mem_cons.mpr ⟨str_of hcur (hts _ (List.mem_of_getElem? (i := 559) (by decide +kernel))), List.forall_mem_cons.mpr ⟨str_of hcur (hts _ (List.mem_of_getElem? (i := 564) (by decide +kernel))), List.forall_mem_cons.mpr ⟨str_of hcur (hts _ (List.mem_of_getElem? (i := 565) (by decide +kernel))), List.forall_mem_cons.mpr ⟨str_of hcur (hts _ (List.mem_of_getElem? (i := 255) (by decide +kernel))), List.forall_mem_cons.mpr ⟨str_of hcur (hts _ (List.mem_of_getElem? (i := 627) (by decide +kernel))), List.forall_mem_cons.mpr ⟨str_of hcur (hts _ (List.mem_of_getElem? (i := 635) (by decide +kernel))), List.forall_mem_cons.mpr ⟨str_of hcur (hts _ (List.mem_of_getElem? (i := 640) (by decide +kernel))), List.forall_mem_cons.mpr ⟨str_of hcur (hts _ (List.mem_of_getElem? (i := 658) (by decide +kernel))), List.forall_mem_cons.mpr ⟨str_of hcur (hts _ (List.mem_of_getElem? (i := 725) (by decide +kernel))), List.forall_mem_cons.mpr ⟨str_of hcur (hts _ (List.mem_of_getElem? (i := 701) (by decide +kernel))), List.forall_mem_cons.mpr ⟨str_of hcur (hts _ (List.mem_of_getElem? (i := 709) (by decide +kernel))), List.forall_mem_cons.mpr ⟨str_of hcur (hts _ (List.mem_of_getElem? (i := 740) (by decide +kernel))), List.forall_mem_cons.mpr ⟨str_of hcur (hts _ (List.mem_of_getElem? (i := 756) (by decide +kernel))), List.forall_mem_cons.mpr ⟨str_of hcur (hts _ (List.mem_of_getElem? (i := 757) (by decide +kernel))), List.forall_mem_cons.mpr ⟨str_of hcur (hts _ (List.mem_of_getElem? (i := 675) (by decide +kernel))), List.forall_mem_cons.mpr ⟨str_of hcur (hts _ (List.mem_of_getElem? (i := 683) (by decide +kernel))), List.forall_mem_cons.mpr ⟨str_of hcur (hts _ (List.mem_of_getElem? (i := 684) (by decide +kernel))), List.forall_mem_cons.mpr ⟨str_of hcur (hts _ (List.mem_of_getElem? (i := 693) (by decide +kernel))), List.forall_mem_cons.mpr ⟨str_of hcur (hts _ (List.mem_of_getElem? (i := 322) (by decide +kernel))), List.forall_mem_cons.mpr ⟨str_of hcur (hts _ (List.mem_of_getElem? (i := 159) (by decide +kernel))), List.forall_mem_cons.mpr ⟨str_of hcur (hts _ (List.mem_of_getElem? (i := 216) (by decide +kernel))), List.forall_mem_cons.mpr ⟨str_of hcur (hts _ (List.mem_of_getElem? (i := 290) (by decide +kernel))), List.forall_mem_cons.mpr ⟨str_of hcur (hts _ (List.mem_of_getElem? (i := 724) (by decide +kernel))), all_nil⟩⟩⟩⟩⟩⟩⟩⟩⟩⟩⟩⟩⟩⟩⟩⟩⟩⟩⟩⟩⟩⟩⟩⟩⟩⟩⟩⟩⟩⟩⟩
theorem hT_of {s : State} {b : Addr} {A : Nat → Prop} (hts : ∀ w ∈ lw_tbl, w.before #[Value.ref b] s = true) (hgv : (Jvm.Cond.and given_1 narrow_1).before #[Value.ref b] s = true) (hA : ∀ a : Nat, a < s.heap.size → ¬ A a) : hT A s := by
  have hf := flat_of_before _ hgv
  exact ⟨vx_Zqof (hts _ (List.mem_of_getElem? (i := 145) (by decide +kernel))) (hts _ (List.mem_of_getElem? (i := 25) (by decide +kernel))) (hf (Cond.isRef (.static "java/lang/Throwable" "UNASSIGNED_STACK" "[Ljava/lang/StackTraceElement;")) (by decide +kernel)) hA, vx_Zqof (hts _ (List.mem_of_getElem? (i := 147) (by decide +kernel))) (hts _ (List.mem_of_getElem? (i := 25) (by decide +kernel))) (hf (Cond.isRef (.static "java/lang/Throwable" "SUPPRESSED_SENTINEL" "Ljava/util/List;")) (by decide +kernel)) hA⟩
set_option maxRecDepth 100000 in
set_option maxHeartbeats 4000000 in
theorem whole_start {p : Program} {e : Env} {s : State} {m : MethodId} {below : List Frame} {meth : Method} {c : Code} (l : Launch) (hflags : l.flags = flags0) {b L : Nat} {xs : Nat → Int32} (hL : L ≤ 260) (C0 : lw_At p s m meth c b L xs) : W p l e room_1 s m #[Value.ref b] below meth c s.heap [] 0 0 (lw_Z below #[Value.ref b] s) (entryFrame m ([Value.ref b] : List Value).toArray 19) := by
  obtain ⟨hx, hb, hr, hml, hown, hts, hX, hbl, hlocks, hgv⟩ := id C0
  obtain ⟨G, hKs⟩ := hK_of hts
  have hSs := hS_of hts hgv
  have hTs : hT (hAA (fun _ => none) s.heap.size) s := hT_of hts hgv (fun a ha q => q.elim (fun q => q rfl) (fun q => absurd ha (Nat.not_lt.mpr q)))
  have hfl : l.stackTraces = false := by
    unfold Launch.stackTraces
    rw [hflags]
    decide +kernel
  have hl := lw_entry [.ref b] (n := 19) (hcc rfl hc0) (Nat.le_of_ble_eq_true rfl)
  rw [lg_entry_eq]
  have F : Cw ((p, l, e, room_1, s, m, #[Value.ref b], below, meth, c, lw_Z below #[Value.ref b] s, G, hZe (hAA (fun _ => none) s.heap.size) s, 19) : hKx) RL code lw_tbl (fun _ => none) s.heap.size := ⟨⟨hx, hb, hml, hown, hts, hKs, hSs, hlocks⟩, rfl, rfl, hfl, hTs⟩
  have hend : ∀ (cells slots : Nat) (M : hM) (lv : List (Option Value)), cells ≤ 600074 → slots ≤ 7301549 → VW ((p, l, e, room_1, s, m, #[Value.ref b], below, meth, c, lw_Z below #[Value.ref b] s, G, hZe (hAA (fun _ => none) s.heap.size) s, 19) : hKx) cells slots M 346 lv [.int 1] := by
    intro cells slots M lv hc hs H locs ls h1 h2 h3
    have h2' : hZe (hAA (fun _ => none) s.heap.size) s M H locs := h2
    show W p l e room_1 s m #[Value.ref b] below meth c H locs cells slots (lw_Z below #[Value.ref b] s) (F0 m 346 ls [.int 1])
    refine va_forget (fun q hq => (h2'.2.2.2 q hq).elim (fun z => absurd rfl z) (fun z => z)) ?_
    refine W.widen (k := 600074) (n := 7301549) hc hs ?_
    exact lw_ret hx hb hr hlocks dL_law_346
  have V := law_all F rfl hX hbl hend (fun _ => none)
  exact V s.heap [] _ (fun a x h => (by cases h)) ⟨fun a x h => (by cases h), va_S.rf⟩ hl
