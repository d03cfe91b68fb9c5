/-! ===== reading methods with a table of their own, with long answers, with none; writing ones without a table; the script ===== -/
/-- a contract that never throws, nothing being written, as the kit's plain one -/
theorem hX_met {l : Launch} {y : MethodName} {ws : List Cond} {rm : Room} {Pc : Array Value → State → Prop} {Qc : Array Value → State → Outcome → State → Prop} {mc ms : Nat} {free : Addr → Prop} (h : vx_Met l y ws rm Pc Qc (fun _ _ _ => False) mc ms free) : Met l y ws rm Pc Qc mc ms free := by
  intro p e ha hc hk s m args below hf happ hP hK
  obtain ⟨n, o, q1, q2, q3, q4⟩ := h p e ha hc hk s m args below hf happ hP hK
  refine ⟨n, o, q1, q2, q3, ?_⟩
  rcases q4 with q4 | ⟨q, -, E, ce, L, hx, -⟩
  · exact q4
  · exact hx.elim
theorem hp_entryH {l : Launch} {y : MethodName} {own : String} {ws ws' : List Cond} {rm : Room} {av : List Value} {G : hG} {M : hM} {v : Option Value} {cc : ByteArray} {maxL : Nat} {ret : Option FieldType} {hh : List (Nat × Nat × Nat × Nat)} {lv : List (Option Value)}
    (hy : plainName y.cls = true) (hyo : y.cls = own) (hw : ws = Cond.codeWith y cc maxL ret hh :: ws') (hcat : ∀ w ∈ av, w.category = 1) (hlen : av.length ≤ maxL) (hlv : av.map some ++ List.replicate (maxL - av.length) none = lv)
    (body : ∀ κ : hKx, kG κ = G → kl κ = l → kR κ = rm → Cp κ own cc ws ret v → VW κ 0 0 M 0 lv []) : hPMet l y ws rm av G M v := by
  refine hX_met (vx_ofWH (cc := cc) (maxL := maxL) (ret := ret) (hh := hh) hy hw ?_)
  intro p e s m args below meth c s₁ B hml hv
  obtain ⟨rfl, hPm, hKs, hSs⟩ := hv
  have hown : s.vm.findClass own = some m.cls := by rw [← hyo]; exact findClass_of_methodNamed B.named
  have hl := lw_entry av hcat hlen
  rw [hlv] at hl
  rw [lg_entry_eq]
  refine vx_ret ?_
  exact body (p, l, e, rm, s, m, av.toArray, below, meth, c, MQ below (hQp v) av.toArray s 0 0 (fun _ => False), G, hZp s, maxL) rfl rfl rfl
    ⟨⟨B.exec, B.bytes, hml, hown, atoms_spec (ws := ws) B.pre, hKs, hSs, B.notSynchronized⟩, rfl, B.returns, rfl⟩ s.heap [] _ hPm ⟨rfl, rfl⟩ hl
/-- the script's reader -/
def hPMx (l : Launch) (y : MethodName) (ws : List Cond) (rm : Room) (av : List Value) (G : hG) (b L : Nat) (xs : Nat → Int32) (v : Option Value) : Prop :=
  Met l y ws rm (va_Pc av (fun U => va_X b L xs U U.heap ∧ hK G U ∧ hS U)) (hQp v) 0 0 (fun _ => False)
theorem hp_entryX {l : Launch} {y : MethodName} {own : String} {ws ws' : List Cond} {rm : Room} {av : List Value} {G : hG} {b L : Nat} {xs : Nat → Int32} {v : Option Value} {cc : ByteArray} {maxL : Nat} {ret : Option FieldType} {lv : List (Option Value)}
    (hy : plainName y.cls = true) (hyo : y.cls = own) (hw : ws = Cond.code y cc maxL ret :: ws') (hcat : ∀ w ∈ av, w.category = 1) (hlen : av.length ≤ maxL) (hlv : av.map some ++ List.replicate (maxL - av.length) none = lv)
    (body : ∀ κ : hKx, kG κ = G → kl κ = l → kR κ = rm → Cp κ own cc ws ret v → va_X b L xs (ks κ) (ks κ).heap → VW κ 0 0 (fun _ => none) 0 lv []) : hPMx l y ws rm av G b L xs v := by
  refine Met.ofW (cc := cc) (maxL := maxL) (ret := ret) hy hw ?_
  intro p e s m args below meth c s₁ B hml hv
  obtain ⟨rfl, hX, hKs, hSs⟩ := hv
  have hown : s.vm.findClass own = some m.cls := by rw [← hyo]; exact findClass_of_methodNamed B.named
  have hl := lw_entry av hcat hlen
  rw [hlv] at hl
  rw [lg_entry_eq]
  exact body (p, l, e, rm, s, m, av.toArray, below, meth, c, MQ below (hQp v) av.toArray s 0 0 (fun _ => False), G, hZp s, maxL) rfl rfl rfl
    ⟨⟨B.exec, B.bytes, hml, hown, atoms_spec (ws := ws) B.pre, hKs, hSs, B.notSynchronized⟩, rfl, B.returns, rfl⟩ hX s.heap [] _ (fun _ _ h => by cases h) ⟨rfl, rfl⟩ hl
section HMORE
variable {κ : hKx} {own : String} {cc : ByteArray} {ws : List Cond} {cells slots pc : Nat} {M : hM} {lv : List (Option Value)} {st st0 : List Value}
variable {M0 : hM} {sz : Nat} {rt : Option FieldType} {rv : Option Value}
/-! ends -/
theorem v_pretJ (P : Cp κ own cc ws rt rv) {x : Int64} (hr : rt = some .long) (hv : rv = some (.long x)) (d : decode cc pc = .ok (.lreturn, 1)) : VW κ 0 0 M pc lv [.long x] := by
  intro H locs ls h1 h2 h3
  obtain ⟨C, hZ, hrt, hQ⟩ := P
  rw [hZ] at h2
  obtain ⟨rfl, rfl⟩ := h2
  show W _ _ _ _ _ _ _ _ _ _ _ _ _ _ (kQ κ) _
  rw [hQ]
  exact W.lret C.1 C.2.1 (by rw [hrt, hr]) (fun t ht hW => ⟨by rw [hv], ht⟩) (fun q h => by cases h) d C.2.2.2.2.2.2.2
theorem v_pretV (P : Cp κ own cc ws rt rv) (hr : rt = none) (hv : rv = none) (d : decode cc pc = .ok (.return_, 1)) : VW κ 0 0 M pc lv [] := by
  intro H locs ls h1 h2 h3
  obtain ⟨C, hZ, hrt, hQ⟩ := P
  rw [hZ] at h2
  obtain ⟨rfl, rfl⟩ := h2
  show W _ _ _ _ _ _ _ _ _ _ _ _ _ _ (kQ κ) _
  rw [hQ]
  exact W.vret C.1 C.2.1 (by rw [hrt, hr]) (fun t ht hW => ⟨by rw [hv], ht⟩) (fun q h => by cases h) d C.2.2.2.2.2.2.2
/-! the script's rows where nothing is written -/
theorem v_sldP (P : Cp κ own cc ws rt rv) {b L : Nat} {xs : Nat → Int32} (hX : va_X b L xs (ks κ) (ks κ).heap) {i : Int32} (hp : vp_in i L) (d : decode cc pc = .ok (.iaload, 1)) (k : VW κ cells slots M (pc + 1) lv (.int (xs i.toNatClampNeg) :: st)) : VW κ cells slots M pc lv (.int i :: va_rf (some b) :: st) := by
  intro H locs ls h1 h2 h3
  obtain ⟨C, hZ, -⟩ := P
  have h2' : hZp (ks κ) M H locs := by rw [← hZ]; exact h2
  have hbl : b < (ks κ).heap.size := by
    obtain ⟨scr, hs, -⟩ := hX
    exact (Array.getElem?_eq_some_iff.mp hs).1
  have hS : va_S (fun _ => False) (ks κ).heap H locs := by
    rw [h2'.1, h2'.2]
    exact va_S.rf
  exact va_sld C.1 C.2.1 hX hbl (fun q => q) hS hp d (k H locs ls h1 h2 h3)
theorem v_slenP (P : Cp κ own cc ws rt rv) {b L : Nat} {xs : Nat → Int32} (hX : va_X b L xs (ks κ) (ks κ).heap) (d : decode cc pc = .ok (.arraylength, 1)) (k : VW κ cells slots M (pc + 1) lv (.int (Int32.ofNat L) :: st)) : VW κ cells slots M pc lv (va_rf (some b) :: st) := by
  intro H locs ls h1 h2 h3
  obtain ⟨C, hZ, -⟩ := P
  have h2' : hZp (ks κ) M H locs := by rw [← hZ]; exact h2
  have hbl : b < (ks κ).heap.size := by
    obtain ⟨scr, hs, -⟩ := hX
    exact (Array.getElem?_eq_some_iff.mp hs).1
  have hS : va_S (fun _ => False) (ks κ).heap H locs := by
    rw [h2'.1, h2'.2]
    exact va_S.rf
  exact va_slen C.1 C.2.1 hX hbl (fun q => q) hS d (k H locs ls h1 h2 h3)
/-! calls -/
theorem v_pcallV {a : Array Value}
    (hr : ∀ (H : Heap) (locs : List Loc) (ls : Array Slot), hP (kG κ) M H → kZ κ M H locs → lw_has ls (kn κ) lv → va_Run (kp κ) (kl κ) (ke κ) (kR κ) (ks κ) (km κ) (ka κ) (kb κ) (kM κ) (kc κ) H locs cells slots 0 0 (F0 (km κ) pc ls st0) st (hQp none a) (fun _ => False))
    (k : VW κ cells slots M (pc + 3) lv st) : VW κ cells slots M pc lv st0 := by
  intro H locs ls h1 h2 h3 T hT X
  obtain ⟨v', st₀, t, T', L, h0, X', hL, e1, e2, ⟨hv, hh⟩, go⟩ := hr H locs ls h1 h2 h3 T hT X
  cases hv
  have hL0 : L = [] := by
    cases L with
    | nil => rfl
    | cons q L => exact (hL q List.mem_cons_self).elim
  subst hL0
  rw [List.append_nil] at X'
  obtain ⟨t2, a1, b1⟩ := k H locs ls h1 h2 h3 T' (by rw [e1, hh, h0]) X'
  exact ⟨t2, go t2 a1, b1⟩
theorem v_pVv (C : Cx κ own cc ws) {y : MethodName} {bytes : ByteArray} {maxL : Nat} {ret : Option FieldType} {wsC ws' : List Cond} {rm : Room} {Cn : String} {T : u_T} {N ci idx a : Nat} {fs : List Value} (As : List Value) (n : Nat)
    (hMt : hPMet (kl κ) y wsC rm (.ref a :: As) (kG κ) M none) (hm : M a = some (.inr (ci, fs))) (hc : vwCl[ci]? = some (Cn, T, N)) (g : GoodIn ws (wsV own idx Cn y wsC)) (hw : wsC = Cond.code y bytes maxL ret :: ws')
    (hd : y.cls = Cn ∧ y.cls ≠ "java/lang/invoke/MethodHandle" ∧ y.cls ≠ "java/lang/invoke/VarHandle" ∧ (parseMethodDescriptor y.desc).map (fun d => d.parameters.length) = some n) (hn : As.length = n) (hrc : rm.cells = 0) (hrs : rm.slots = 0) (hR : rm.frames + 1 ≤ (kR κ).frames ∧ 8 + (maxL + 11) + rm.locals ≤ (kR κ).locals) (hro : cells + 0 ≤ (kR κ).cells ∧ slots + 0 ≤ (kR κ).slots) (hcat : st.length ≤ 4)
    (hst : st0 = As.reverse ++ .ref a :: st) (d : decode cc pc = .ok (.invokevirtual idx, 3)) (k : VW κ cells slots M (pc + 3) lv st) : VW κ cells slots M pc lv st0 := by
  refine v_pcallV (a := (Value.ref a :: As).toArray) (fun H locs ls h1 h2 h3 => ?_) k
  obtain ⟨hexec, hb, hml, hown, hts, hKs, hSt, hlk⟩ := C
  obtain ⟨r', hr', cell, g1, g2, g3, -⟩ := h1 a _ hm
  have hcls := (hKs.1 ci _ hc).2.1
  exact va_runV (rest := st) (g := F0 (km κ) pc ls st0) ⟨hexec, hb, hml, hown, hts⟩ hMt (cwV n hts g hw hrc hrs hd hR) ⟨hp_blind, ⟨cell, g1, by rw [g3]; rfl, by rw [g2]; exact hcls⟩, hp_pre h1 hKs hSt⟩ rfl hn h3.1.1 hst (lv_room (pc := pc) (m := km κ) (ls := ls) (rest := st0) (hcat_of hcat)) d hro
/-- a static reading method with a table of its own -/
theorem v_pSH (C : Cx κ own cc ws) {y : MethodName} {bytes : ByteArray} {maxL : Nat} {ret : Option FieldType} {hh : List (Nat × Nat × Nat × Nat)} {wsC ws' : List Cond} {rm : Room} {idx : Nat} {v : Value} (As : List Value) (n : Nat)
    (hMt : hPMet (kl κ) y wsC rm As (kG κ) M (some v)) (g : GoodIn ws (va_wsS own idx y wsC)) (hw : wsC = Cond.codeWith y bytes maxL ret hh :: ws')
    (hd : y.cls ≠ "java/lang/invoke/MethodHandle" ∧ y.cls ≠ "java/lang/invoke/VarHandle" ∧ (parseMethodDescriptor y.desc).map (fun d => d.parameters.length) = some n) (hn : As.length = n) (hrc : rm.cells = 0) (hrs : rm.slots = 0) (hR : rm.frames + 1 ≤ (kR κ).frames ∧ 8 + (maxL + 11) + rm.locals ≤ (kR κ).locals) (hro : cells + 0 ≤ (kR κ).cells ∧ slots + 0 ≤ (kR κ).slots) (hcat : st.length ≤ 4)
    (hst : st0 = As.reverse ++ st) (d : decode cc pc = .ok (.invokestatic idx, 3)) (k : VW κ cells slots M (pc + 3) lv (v :: st)) : VW κ cells slots M pc lv st0 := by
  refine v_pcall (a := As.toArray) (fun H locs ls h1 h2 h3 => ?_) k
  obtain ⟨hexec, hb, hml, hown, hts, hKs, hSt, hlk⟩ := C
  exact vx_runSW (rest := st) (g := F0 (km κ) pc ls st0) ⟨hexec, hb, hml, hown, hts⟩ hMt (vx_cwSW n hts g hw hrc hrs hd hR) ⟨hp_blind, hp_pre h1 hKs hSt⟩ rfl hn h3.1.1 hst (lv_room (pc := pc) (m := km κ) (ls := ls) (rest := st0) (hcat_of hcat)) d hro
/-- the script's reader is called -/
theorem v_pSX (F : Cw κ own cc ws (fun _ => none) sz) {b L : Nat} {xs : Nat → Int32} (hX : va_X b L xs (ks κ) (ks κ).heap) (hbs : b < sz) {y : MethodName} {bytes : ByteArray} {maxL : Nat} {ret : Option FieldType} {wsC ws' : List Cond} {rm : Room} {idx : Nat} {v : Value} (As : List Value) (n : Nat)
    (hMt : hPMx (kl κ) y wsC rm As (kG κ) b L xs (some v)) (g : GoodIn ws (va_wsS own idx y wsC)) (hw : wsC = Cond.code y bytes maxL ret :: ws')
    (hd : y.cls ≠ "java/lang/invoke/MethodHandle" ∧ y.cls ≠ "java/lang/invoke/VarHandle" ∧ (parseMethodDescriptor y.desc).map (fun d => d.parameters.length) = some n) (hn : As.length = n) (hrc : rm.cells = 0) (hrs : rm.slots = 0) (hR : rm.frames + 1 ≤ (kR κ).frames ∧ 8 + (maxL + 11) + rm.locals ≤ (kR κ).locals) (hro : cells + 0 ≤ (kR κ).cells ∧ slots + 0 ≤ (kR κ).slots) (hcat : st.length ≤ 4)
    (hst : st0 = As.reverse ++ st) (d : decode cc pc = .ok (.invokestatic idx, 3)) (k : VW κ cells slots M (pc + 3) lv (v :: st)) : VW κ cells slots M pc lv st0 := by
  refine v_pcall (a := As.toArray) (fun H locs ls h1 h2 h3 => ?_) k
  obtain ⟨C, hZ, hsz, -⟩ := F
  obtain ⟨hexec, hb, hml, hown, hts, hKs, hSt, hlk⟩ := C
  rw [hZ] at h2
  have hq : H[b]? = (ks κ).heap[b]? := h2.2.2.1 b (by rw [hsz]; exact hbs) (fun q => q.elim (fun q => q rfl) (fun q => absurd hbs (Nat.not_lt.mpr q)))
  exact va_runS (rest := st) (g := F0 (km κ) pc ls st0) ⟨hexec, hb, hml, hown, hts⟩ hMt (va_cwS n hts g hw hrc hrs hd hR) ⟨fun a U g' mk q => ⟨q.1, va_X.moved (u := U) (U := U.calling g' mk a) (Vm.Alike.refl U.vm) q.2.1, hK.moved (u := U) (U := U.calling g' mk a) (Vm.Alike.refl U.vm) q.2.2.1, q.2.2.2.call g' mk a⟩, fun U hU hW => ⟨rfl, by rw [hU]; exact va_X.moved hW.alike (hX.kept hq), hK.moved hW.alike hKs, hSt.warm hW⟩⟩ rfl hn h3.1.1 hst (lv_room (pc := pc) (m := km κ) (ls := ls) (rest := st0) (hcat_of hcat)) d hro
/-- a static method without a table, that lets nothing out -/
theorem v_nSC (F : Cw κ own cc ws M0 sz) {y : MethodName} {bytes : ByteArray} {maxL mc ms : Nat} {ret : Option FieldType} {wsC ws' : List Cond} {rm : Room} {idx : Nat} {Qg : hM → Option Value → Prop} (As : List Value) (n : Nat)
    (hMt : hEMet (kl κ) y wsC rm As (kG κ) M Qg (fun _ _ => False) mc ms) (g : GoodIn ws (va_wsS own idx y wsC)) (hw : wsC = Cond.code y bytes maxL ret :: ws')
    (hd : y.cls ≠ "java/lang/invoke/MethodHandle" ∧ y.cls ≠ "java/lang/invoke/VarHandle" ∧ (parseMethodDescriptor y.desc).map (fun d => d.parameters.length) = some n) (hn : As.length = n) (hrc : rm.cells = mc) (hrs : rm.slots = ms) (hR : rm.frames + 1 ≤ (kR κ).frames ∧ 8 + (maxL + 11) + rm.locals ≤ (kR κ).locals) (hro : cells + mc ≤ (kR κ).cells ∧ slots + ms ≤ (kR κ).slots) (hcat : st.length ≤ 4)
    (hst : st0 = As.reverse ++ st) (d : decode cc pc = .ok (.invokestatic idx, 3))
    (k : ∀ (M1 : hM) (v : Option Value), Qg M1 v → VW κ (cells + mc) (slots + ms) M1 (pc + 3) lv (v.toList ++ st)) : VW κ cells slots M pc lv st0 := by
  refine v_ncall F (a := As.toArray) (fun H locs ls h1 h2 h3 => ?_) k
  obtain ⟨C, hZ, hsz, hfl, hTs⟩ := F
  obtain ⟨hexec, hb, hml, hown, hts, hKs, hSt, hlk⟩ := C
  rw [hZ] at h2
  exact va_runS (rest := st) (g := F0 (km κ) pc ls st0) ⟨hexec, hb, hml, hown, hts⟩ (hE_met hMt H.size) (va_cwS n hts g hw hrc hrs hd hR) ⟨he_blind, he_pre hsz h1 h2 hKs hSt hTs⟩ rfl hn h3.1.1 hst (lv_room (pc := pc) (m := km κ) (ls := ls) (rest := st0) (hcat_of hcat)) d hro
end HMORE
/-! divisions by what isn't written down -/
def dvI (x y : Int32) : Option Int32 := if y = 0 then none else some (x / y)
def rmI (x y : Int32) : Option Int32 := if y = 0 then none else some (x - x / y * y)
theorem dvI_inv {x y z : Int32} (h : dvI x y = some z) : ¬ y = 0 ∧ z = x / y := by
  unfold dvI at h
  split at h
  · cases h
  · rename_i hy
    cases h
    exact ⟨hy, rfl⟩
theorem rmI_inv {x y z : Int32} (h : rmI x y = some z) : ¬ y = 0 ∧ z = x - x / y * y := by
  unfold rmI at h
  split at h
  · cases h
  · rename_i hy
    cases h
    exact ⟨hy, rfl⟩
def hL3 : List Cond := [.classLink RL 13 "java/lang/IllegalArgumentException", .classLink RL 16 "java/lang/IllegalStateException", .classLink RL 23 "java/lang/IndexOutOfBoundsException"]
theorem good_l {big ws ex : List Cond} (h : GoodIn big ws) : GoodIn (big ++ ex) ws := fun w hw => ⟨List.mem_append_left _ (h w hw).1, (h w hw).2⟩
theorem hL3_good : GoodIn hL3 hL3 := goodIn_r (big := hL3) hL3 [0, 1, 2] (by decide +kernel) (by decide +kernel)
theorem good_l3 {big ws : List Cond} (h : GoodIn big ws) : GoodIn (big ++ hL3) (ws ++ hL3) := fun w hw => (List.mem_append.mp hw).elim (fun q => ⟨List.mem_append_left _ (h w q).1, (h w q).2⟩) (fun q => ⟨List.mem_append_right _ q, (hL3_good w q).2⟩)
