/-! ===== calls ===== -/
abbrev hPcP (G : hG) (M : hM) (av : List Value) : Array Value → State → Prop := va_Pc av (fun U => hP G M U.heap ∧ hK G U ∧ hS U)
abbrev hPcE (G : hG) (M : hM) (sz : Nat) (av : List Value) : Array Value → State → Prop := va_Pc av (fun U => U.heap.size = sz ∧ hP G M U.heap ∧ hK G U ∧ hS U ∧ hT (hAA M sz) U)
theorem hp_blind {G : hG} {M : hM} {av : List Value} : FrameBlind (hPcP G M av) := fun a U g mk q => ⟨q.1, q.2.1, hK.moved (u := U) (U := U.calling g mk a) (Vm.Alike.refl U.vm) q.2.2.1, q.2.2.2.call g mk a⟩
theorem hp_pre {G : hG} {M : hM} {av : List Value} {s : State} {H : Heap} (h1 : hP G M H) (hk : hK G s) (hs : hS s) : ∀ U : State, U.heap = H → s.WarmedH U.vm → hPcP G M av av.toArray U := fun U hU hW => ⟨rfl, by rw [hU]; exact h1, hK.moved hW.alike hk, hs.warm hW⟩
theorem he_blind {G : hG} {M : hM} {sz : Nat} {av : List Value} : FrameBlind (hPcE G M sz av) := fun a U g mk q =>
  ⟨q.1, q.2.1, q.2.2.1, hK.moved (u := U) (U := U.calling g mk a) (Vm.Alike.refl U.vm) q.2.2.2.1, q.2.2.2.2.1.call g mk a, vx_Zq.moved (u := U) (U := U.calling g mk a) (Vm.Alike.refl U.vm) q.2.2.2.2.2.1, vx_Zq.moved (u := U) (U := U.calling g mk a) (Vm.Alike.refl U.vm) q.2.2.2.2.2.2⟩
theorem hAA_sub {M0 M : hM} {sz : Nat} {s : State} {H : Heap} {locs : List Loc} (hsz : s.heap.size = sz) (h : hZe (hAA M0 sz) s M H locs) : ∀ q, hAA M H.size q → hAA M0 sz q := by
  intro q hq
  rcases hq with hq | hq
  · cases hm : M q with
    | none => exact absurd hm hq
    | some x => exact h.1 q x hm
  · right
    rw [← hsz]
    exact Nat.le_trans h.2.1 hq
theorem he_pre {G : hG} {M0 M : hM} {sz : Nat} {av : List Value} {s : State} {H : Heap} {locs : List Loc} (hsz : s.heap.size = sz) (h1 : hP G M H) (h2 : hZe (hAA M0 sz) s M H locs) (hk : hK G s) (hs : hS s) (ht : hT (hAA M0 sz) s) : ∀ U : State, U.heap = H → s.WarmedH U.vm → hPcE G M H.size av av.toArray U := by
  intro U hU hW
  have hz : ∀ {C n d : String}, vx_Zq C n d (hAA M0 sz) s s.heap → vx_Zq C n d (hAA M H.size) U U.heap := fun hq => by
    rw [hU]
    exact vx_Zq.moved hW.alike ((hq.kept h2.2.2.1).narrow (hAA_sub hsz h2))
  exact ⟨rfl, by rw [hU], by rw [hU]; exact h1, hK.moved hW.alike hk, hs.warm hW, hz ht.1, hz ht.2⟩
/-- a contract that never throws, as the kit's plain one -/
theorem hE_met {l : Launch} {y : MethodName} {ws : List Cond} {rm : Room} {av : List Value} {G : hG} {M : hM} {Qf : hM → Option Value → Prop} {mc ms : Nat} (h : hEMet l y ws rm av G M Qf (fun _ _ => False) mc ms) (sz : Nat) : Met l y ws rm (hPcE G M sz av) (hEQ G M sz Qf) mc ms (hAA M sz) := by
  intro p e ha hc hk s m args below hf happ hP hK
  obtain ⟨n, o, q1, q2, q3, q4⟩ := h sz p e ha hc hk s m args below hf happ hP hK
  refine ⟨n, o, q1, q2, q3, ?_⟩
  rcases q4 with q4 | ⟨q, -, E, ce, L, ⟨⟨M1, hx, -⟩, -⟩, -⟩
  · exact q4
  · exact hx.elim
section HCALL
variable {κ : hKx} {own : String} {cc : ByteArray} {ws : List Cond} {cells slots pc : Nat} {M : hM} {lv : List (Option Value)} {st st0 : List Value}
variable {M0 : hM} {sz : Nat}
theorem v_pcall {v : Value} {a : Array Value}
    (hr : ∀ (H : Heap) (locs : List Loc) (ls : Array Slot), hP (kG κ) M H → kZ κ M H locs → lw_has ls (kn κ) lv → va_Run (kp κ) (kl κ) (ke κ) (kR κ) (ks κ) (km κ) (ka κ) (kb κ) (kM κ) (kc κ) H locs cells slots 0 0 (F0 (km κ) pc ls st0) st (hQp (some v) a) (fun _ => False))
    (k : VW κ cells slots M (pc + 3) lv (v :: st)) : VW κ cells slots M pc lv st0 := by
  intro H locs ls h1 h2 h3 T hT X
  obtain ⟨v', st₀, t, T', L, h0, X', hL, e1, e2, ⟨hv, hh⟩, go⟩ := hr H locs ls h1 h2 h3 T hT X
  cases hv
  have hL0 : L = [] := by
    cases L with
    | nil => rfl
    | cons q L => exact (hL q List.mem_cons_self).elim
  subst hL0
  rw [List.append_nil] at X'
  obtain ⟨t2, a1, b1⟩ := k H locs ls h1 h2 h3 T' (by rw [e1, hh, h0]) X'
  exact ⟨t2, go t2 a1, b1⟩
theorem v_pV (C : Cx κ own cc ws) {y : MethodName} {bytes : ByteArray} {maxL : Nat} {ret : Option FieldType} {wsC ws' : List Cond} {rm : Room} {Cn : String} {T : u_T} {N ci idx a : Nat} {fs : List Value} {v : Value} (As : List Value) (n : Nat)
    (hMt : hPMet (kl κ) y wsC rm (.ref a :: As) (kG κ) M (some v)) (hm : M a = some (.inr (ci, fs))) (hc : vwCl[ci]? = some (Cn, T, N)) (g : GoodIn ws (wsV own idx Cn y wsC)) (hw : wsC = Cond.code y bytes maxL ret :: ws')
    (hd : y.cls = Cn ∧ y.cls ≠ "java/lang/invoke/MethodHandle" ∧ y.cls ≠ "java/lang/invoke/VarHandle" ∧ (parseMethodDescriptor y.desc).map (fun d => d.parameters.length) = some n) (hn : As.length = n) (hrc : rm.cells = 0) (hrs : rm.slots = 0) (hR : rm.frames + 1 ≤ (kR κ).frames ∧ 8 + (maxL + 11) + rm.locals ≤ (kR κ).locals) (hro : cells + 0 ≤ (kR κ).cells ∧ slots + 0 ≤ (kR κ).slots) (hcat : st.length ≤ 4)
    (hst : st0 = As.reverse ++ .ref a :: st) (d : decode cc pc = .ok (.invokevirtual idx, 3)) (k : VW κ cells slots M (pc + 3) lv (v :: st)) : VW κ cells slots M pc lv st0 := by
  refine v_pcall (a := (Value.ref a :: As).toArray) (fun H locs ls h1 h2 h3 => ?_) k
  obtain ⟨hexec, hb, hml, hown, hts, hKs, hSt, hlk⟩ := C
  obtain ⟨r', hr', cell, g1, g2, g3, -⟩ := h1 a _ hm
  have hcls := (hKs.1 ci _ hc).2.1
  exact va_runV (rest := st) (g := F0 (km κ) pc ls st0) ⟨hexec, hb, hml, hown, hts⟩ hMt (cwV n hts g hw hrc hrs hd hR) ⟨hp_blind, ⟨cell, g1, by rw [g3]; rfl, by rw [g2]; exact hcls⟩, hp_pre h1 hKs hSt⟩ rfl hn h3.1.1 hst (lv_room (pc := pc) (m := km κ) (ls := ls) (rest := st0) (hcat_of hcat)) d hro
theorem v_pS (C : Cx κ own cc ws) {y : MethodName} {bytes : ByteArray} {maxL : Nat} {ret : Option FieldType} {wsC ws' : List Cond} {rm : Room} {idx : Nat} {v : Value} (As : List Value) (n : Nat)
    (hMt : hPMet (kl κ) y wsC rm As (kG κ) M (some v)) (g : GoodIn ws (va_wsS own idx y wsC)) (hw : wsC = Cond.code y bytes maxL ret :: ws')
    (hd : y.cls ≠ "java/lang/invoke/MethodHandle" ∧ y.cls ≠ "java/lang/invoke/VarHandle" ∧ (parseMethodDescriptor y.desc).map (fun d => d.parameters.length) = some n) (hn : As.length = n) (hrc : rm.cells = 0) (hrs : rm.slots = 0) (hR : rm.frames + 1 ≤ (kR κ).frames ∧ 8 + (maxL + 11) + rm.locals ≤ (kR κ).locals) (hro : cells + 0 ≤ (kR κ).cells ∧ slots + 0 ≤ (kR κ).slots) (hcat : st.length ≤ 4)
    (hst : st0 = As.reverse ++ st) (d : decode cc pc = .ok (.invokestatic idx, 3)) (k : VW κ cells slots M (pc + 3) lv (v :: st)) : VW κ cells slots M pc lv st0 := by
  refine v_pcall (a := As.toArray) (fun H locs ls h1 h2 h3 => ?_) k
  obtain ⟨hexec, hb, hml, hown, hts, hKs, hSt, hlk⟩ := C
  exact va_runS (rest := st) (g := F0 (km κ) pc ls st0) ⟨hexec, hb, hml, hown, hts⟩ hMt (va_cwS n hts g hw hrc hrs hd hR) ⟨hp_blind, hp_pre h1 hKs hSt⟩ rfl hn h3.1.1 hst (lv_room (pc := pc) (m := km κ) (ls := ls) (rest := st0) (hcat_of hcat)) d hro
/-- a private static method of a nest mate -/
theorem v_pN (C : Cx κ own cc ws) {y : MethodName} {bytes : ByteArray} {maxL : Nat} {ret : Option FieldType} {wsC ws' : List Cond} {rm : Room} {idx : Nat} {host : String} {v : Value} (As : List Value) (n : Nat)
    (hMt : hPMet (kl κ) y wsC rm As (kG κ) M (some v)) (hne : (own, idx, y, host) ∈ hNest) (g : GoodIn ws wsC) (hw : wsC = Cond.code y bytes maxL ret :: ws') (hstat : Cond.static y ∈ ws) (hini : Cond.initialized y.cls ∈ ws)
    (hd : y.cls ≠ "java/lang/invoke/MethodHandle" ∧ y.cls ≠ "java/lang/invoke/VarHandle" ∧ (parseMethodDescriptor y.desc).map (fun d => d.parameters.length) = some n) (hn : As.length = n) (hrc : rm.cells = 0) (hrs : rm.slots = 0) (hR : rm.frames + 1 ≤ (kR κ).frames ∧ 8 + (maxL + 11) + rm.locals ≤ (kR κ).locals) (hro : cells + 0 ≤ (kR κ).cells ∧ slots + 0 ≤ (kR κ).slots) (hcat : st.length ≤ 4)
    (hst : st0 = As.reverse ++ st) (d : decode cc pc = .ok (.invokestatic idx, 3)) (k : VW κ cells slots M (pc + 3) lv (v :: st)) : VW κ cells slots M pc lv st0 := by
  refine v_pcall (a := As.toArray) (fun H locs ls h1 h2 h3 => ?_) k
  obtain ⟨hexec, hb, hml, hown, hts, hKs, hSt, hlk⟩ := C
  exact va_runSN (rest := st) (g := F0 (km κ) pc ls st0) ⟨hexec, hb, hml, hown, hts⟩ hMt ⟨va_cnB n hts g hw hrc hrs (hSt.1 _ hne) (hts _ hini) hd hR, hts _ hstat, trivial⟩ ⟨hp_blind, hp_pre h1 hKs hSt⟩ rfl hn h3.1.1 hst (lv_room (pc := pc) (m := km κ) (ls := ls) (rest := st0) (hcat_of hcat)) d hro
/-- behind a call that may have written: no exception -/
theorem v_ncall (F : Cw κ own cc ws M0 sz) {mc ms : Nat} {Qg : hM → Option Value → Prop} {a : Array Value}
    (hr : ∀ (H : Heap) (locs : List Loc) (ls : Array Slot), hP (kG κ) M H → kZ κ M H locs → lw_has ls (kn κ) lv → va_Run (kp κ) (kl κ) (ke κ) (kR κ) (ks κ) (km κ) (ka κ) (kb κ) (kM κ) (kc κ) H locs cells slots mc ms (F0 (km κ) pc ls st0) st (hEQ (kG κ) M H.size Qg a) (hAA M H.size))
    (k : ∀ (M1 : hM) (v : Option Value), Qg M1 v → VW κ (cells + mc) (slots + ms) M1 (pc + 3) lv (v.toList ++ st)) : VW κ cells slots M pc lv st0 := by
  intro H locs ls h1 h2 h3 T hT X
  obtain ⟨v, st₀, t, T', L, h0, X', hL, e1, e2, ⟨⟨v', M1, hv, hq, hp1, hd1⟩, hF⟩, go⟩ := hr H locs ls h1 h2 h3 T hT X
  cases hv
  obtain ⟨C, hZ, hsz, -⟩ := F
  rw [hZ] at h2
  have hsub := hAA_sub hsz h2
  obtain ⟨k1, k2, k3⟩ := vx_keep h0 e1 h2.2 (fun q _ h => hsub q h) (fun q h => hsub q h) hL hF
  obtain ⟨t2, a1, b1⟩ := k M1 v hq T'.heap (locs ++ L) ls (by rw [e1]; exact hp1) (by rw [hZ]; exact ⟨fun q x hx => hsub q (hd1 q x hx), k3⟩) h3 T' rfl X'
  exact ⟨t2, go t2 a1, b1⟩
/-- .. or with one -/
theorem v_xcall (F : Cw κ own cc ws M0 sz) {mc ms : Nat} {Qg : hM → Option Value → Prop} {Xg : String → hM → Prop} {a : Array Value}
    (hr : ∀ (H : Heap) (locs : List Loc) (ls : Array Slot), hP (kG κ) M H → kZ κ M H locs → lw_has ls (kn κ) lv → vx_Run (kp κ) (kl κ) (ke κ) (kR κ) (ks κ) (km κ) (ka κ) (kb κ) (kM κ) (kc κ) H locs cells slots mc ms (F0 (km κ) pc ls st0) st (hEQ (kG κ) M H.size Qg a) (hEX (kG κ) M H.size Xg) (hAA M H.size))
    (kx : ∀ (Ex : String) (M1 : hM), Xg Ex M1 → VX κ (cells + mc) (slots + ms) M1 pc lv st Ex)
    (k : ∀ (M1 : hM) (v : Option Value), Qg M1 v → VW κ (cells + mc) (slots + ms) M1 (pc + 3) lv (v.toList ++ st)) : VW κ cells slots M pc lv st0 := by
  intro H locs ls h1 h2 h3 T hT X
  obtain ⟨C, hZ, hsz, -⟩ := F
  have h2' := h2
  rw [hZ] at h2
  have hsub := hAA_sub hsz h2
  rcases hr H locs ls h1 h2' h3 T hT X with ⟨v, st₀, t, T', L, h0, X', hL, e1, e2, ⟨⟨v', M1, hv, hq, hp1, hd1⟩, hF⟩, go⟩ | ⟨q, st₀, t, T', L, Ex, ce, h0, X', hL, e1, e2, ⟨⟨M1, hx, hp1, hd1⟩, hF⟩, hce, hcv, hcl, go⟩
  · cases hv
    obtain ⟨k1, k2, k3⟩ := vx_keep h0 e1 h2.2 (fun q _ h => hsub q h) (fun q h => hsub q h) hL hF
    obtain ⟨t2, a1, b1⟩ := k M1 v hq T'.heap (locs ++ L) ls (by rw [e1]; exact hp1) (by rw [hZ]; exact ⟨fun q x hx => hsub q (hd1 q x hx), k3⟩) h3 T' rfl X'
    exact ⟨t2, go t2 a1, b1⟩
  · obtain ⟨k1, k2, k3⟩ := vx_keep h0 e1 h2.2 (fun q _ h => hsub q h) (fun q h => hsub q h) hL hF
    obtain ⟨t2, a1, b1⟩ := kx Ex M1 hx T'.heap (locs ++ L) ls q ce (by rw [e1]; exact hp1) (by rw [hZ]; exact ⟨fun q x hx => hsub q (hd1 q x hx), k3⟩) h3 (by rw [e1]; exact hce) hcv hcl T' rfl X'
    exact ⟨t2, go.trans a1, b1⟩
theorem v_nV (F : Cw κ own cc ws M0 sz) {y : MethodName} {bytes : ByteArray} {maxL mc ms : Nat} {ret : Option FieldType} {wsC ws' : List Cond} {rm : Room} {Cn : String} {T : u_T} {N ci idx a : Nat} {fs : List Value} {Qg : hM → Option Value → Prop} (As : List Value) (n : Nat)
    (hMt : hEMet (kl κ) y wsC rm (.ref a :: As) (kG κ) M Qg (fun _ _ => False) mc ms) (hm : M a = some (.inr (ci, fs))) (hc : vwCl[ci]? = some (Cn, T, N)) (g : GoodIn ws (wsV own idx Cn y wsC)) (hw : wsC = Cond.code y bytes maxL ret :: ws')
    (hd : y.cls = Cn ∧ y.cls ≠ "java/lang/invoke/MethodHandle" ∧ y.cls ≠ "java/lang/invoke/VarHandle" ∧ (parseMethodDescriptor y.desc).map (fun d => d.parameters.length) = some n) (hn : As.length = n) (hrc : rm.cells = mc) (hrs : rm.slots = ms) (hR : rm.frames + 1 ≤ (kR κ).frames ∧ 8 + (maxL + 11) + rm.locals ≤ (kR κ).locals) (hro : cells + mc ≤ (kR κ).cells ∧ slots + ms ≤ (kR κ).slots) (hcat : st.length ≤ 4)
    (hst : st0 = As.reverse ++ .ref a :: st) (d : decode cc pc = .ok (.invokevirtual idx, 3))
    (k : ∀ (M1 : hM) (v : Option Value), Qg M1 v → VW κ (cells + mc) (slots + ms) M1 (pc + 3) lv (v.toList ++ st)) : VW κ cells slots M pc lv st0 := by
  refine v_ncall F (a := (Value.ref a :: As).toArray) (fun H locs ls h1 h2 h3 => ?_) k
  obtain ⟨C, hZ, hsz, hfl, hTs⟩ := F
  obtain ⟨hexec, hb, hml, hown, hts, hKs, hSt, hlk⟩ := C
  rw [hZ] at h2
  obtain ⟨r', hr', cell, g1, g2, g3, -⟩ := h1 a _ hm
  have hcls := (hKs.1 ci _ hc).2.1
  exact va_runV (rest := st) (g := F0 (km κ) pc ls st0) ⟨hexec, hb, hml, hown, hts⟩ (hE_met hMt H.size) (cwV n hts g hw hrc hrs hd hR) ⟨he_blind, ⟨cell, g1, by rw [g3]; rfl, by rw [g2]; exact hcls⟩, he_pre hsz h1 h2 hKs hSt hTs⟩ rfl hn h3.1.1 hst (lv_room (pc := pc) (m := km κ) (ls := ls) (rest := st0) (hcat_of hcat)) d hro
theorem v_nI (F : Cw κ own cc ws M0 sz) {y : MethodName} {bytes : ByteArray} {maxL mc ms : Nat} {wsC ws' : List Cond} {rm : Room} {idx a : Nat} {Qg : hM → Option Value → Prop} (As : List Value) (n : Nat)
    (hMt : hEMet (kl κ) y wsC rm (.ref a :: As) (kG κ) M Qg (fun _ _ => False) mc ms) (g : GoodIn ws wsC) (hw : wsC = Cond.code y bytes maxL none :: ws') (hyn : y.name = "<init>") (hini : Cond.initialized y.cls ∈ ws) (hl : Cond.methodLink own idx y ∈ ws) (hinst : Cond.instanceMethod y ∈ ws)
    (hd : y.cls ≠ "java/lang/invoke/MethodHandle" ∧ y.cls ≠ "java/lang/invoke/VarHandle" ∧ (parseMethodDescriptor y.desc).map (fun d => d.parameters.length) = some n) (hn : As.length = n) (hrc : rm.cells = mc) (hrs : rm.slots = ms) (hR : rm.frames + 1 ≤ (kR κ).frames ∧ 8 + (maxL + 11) + rm.locals ≤ (kR κ).locals) (hro : cells + mc ≤ (kR κ).cells ∧ slots + ms ≤ (kR κ).slots) (hcat : st.length ≤ 4)
    (hst : st0 = As.reverse ++ .ref a :: st) (d : decode cc pc = .ok (.invokespecial idx, 3))
    (k : ∀ (M1 : hM) (v : Option Value), Qg M1 v → VW κ (cells + mc) (slots + ms) M1 (pc + 3) lv (v.toList ++ st)) : VW κ cells slots M pc lv st0 := by
  refine v_ncall F (a := (Value.ref a :: As).toArray) (fun H locs ls h1 h2 h3 => ?_) k
  obtain ⟨C, hZ, hsz, hfl, hTs⟩ := F
  obtain ⟨hexec, hb, hml, hown, hts, hKs, hSt, hlk⟩ := C
  rw [hZ] at h2
  exact va_runI (rest := st) (g := F0 (km κ) pc ls st0) ⟨hexec, hb, hml, hown, hts⟩ (hE_met hMt H.size) ⟨callB_of n hts g hw hrc hrs (hts _ hini) (hts _ hl) hd hR, hyn, hts _ hinst⟩ ⟨he_blind, he_pre hsz h1 h2 hKs hSt hTs⟩ rfl hn h3.1.1 hst (lv_room (pc := pc) (m := km κ) (ls := ls) (rest := st0) (hcat_of hcat)) d hro
theorem v_xV (F : Cw κ own cc ws M0 sz) {y : MethodName} {bytes : ByteArray} {maxL mc ms : Nat} {ret : Option FieldType} {wsC ws' : List Cond} {rm : Room} {Cn : String} {T : u_T} {N ci idx a : Nat} {fs : List Value} {Qg : hM → Option Value → Prop} {Xg : String → hM → Prop} (As : List Value) (n : Nat)
    (hMt : hEMet (kl κ) y wsC rm (.ref a :: As) (kG κ) M Qg Xg mc ms) (hm : M a = some (.inr (ci, fs))) (hc : vwCl[ci]? = some (Cn, T, N)) (g : GoodIn ws (wsV own idx Cn y wsC)) (hw : wsC = Cond.code y bytes maxL ret :: ws')
    (hd : y.cls = Cn ∧ y.cls ≠ "java/lang/invoke/MethodHandle" ∧ y.cls ≠ "java/lang/invoke/VarHandle" ∧ (parseMethodDescriptor y.desc).map (fun d => d.parameters.length) = some n) (hn : As.length = n) (hrc : rm.cells = mc) (hrs : rm.slots = ms) (hR : rm.frames + 1 ≤ (kR κ).frames ∧ 8 + (maxL + 11) + rm.locals ≤ (kR κ).locals) (hro : cells + mc ≤ (kR κ).cells ∧ slots + ms ≤ (kR κ).slots) (hcat : st.length ≤ 4)
    (hst : st0 = As.reverse ++ .ref a :: st) (d : decode cc pc = .ok (.invokevirtual idx, 3))
    (kx : ∀ (Ex : String) (M1 : hM), Xg Ex M1 → VX κ (cells + mc) (slots + ms) M1 pc lv st Ex)
    (k : ∀ (M1 : hM) (v : Option Value), Qg M1 v → VW κ (cells + mc) (slots + ms) M1 (pc + 3) lv (v.toList ++ st)) : VW κ cells slots M pc lv st0 := by
  refine v_xcall F (a := (Value.ref a :: As).toArray) (fun H locs ls h1 h2 h3 => ?_) kx k
  obtain ⟨C, hZ, hsz, hfl, hTs⟩ := F
  obtain ⟨hexec, hb, hml, hown, hts, hKs, hSt, hlk⟩ := C
  rw [hZ] at h2
  obtain ⟨r', hr', cell, g1, g2, g3, -⟩ := h1 a _ hm
  have hcls := (hKs.1 ci _ hc).2.1
  exact vx_runV (rest := st) (g := F0 (km κ) pc ls st0) ⟨hexec, hb, hml, hown, hts⟩ (hMt H.size) (cwV n hts g hw hrc hrs hd hR) ⟨he_blind, ⟨cell, g1, by rw [g3]; rfl, by rw [g2]; exact hcls⟩, he_pre hsz h1 h2 hKs hSt hTs⟩ rfl hn h3.1.1 hst (lv_room (pc := pc) (m := km κ) (ls := ls) (rest := st0) (hcat_of hcat)) d hro
/-- a static method with a table of its own, that lets nothing out -/
theorem v_nS (F : Cw κ own cc ws M0 sz) {y : MethodName} {bytes : ByteArray} {maxL mc ms : Nat} {ret : Option FieldType} {hh : List (Nat × Nat × Nat × Nat)} {wsC ws' : List Cond} {rm : Room} {idx : Nat} {Qg : hM → Option Value → Prop} (As : List Value) (n : Nat)
    (hMt : hEMet (kl κ) y wsC rm As (kG κ) M Qg (fun _ _ => False) mc ms) (g : GoodIn ws (va_wsS own idx y wsC)) (hw : wsC = Cond.codeWith y bytes maxL ret hh :: ws')
    (hd : y.cls ≠ "java/lang/invoke/MethodHandle" ∧ y.cls ≠ "java/lang/invoke/VarHandle" ∧ (parseMethodDescriptor y.desc).map (fun d => d.parameters.length) = some n) (hn : As.length = n) (hrc : rm.cells = mc) (hrs : rm.slots = ms) (hR : rm.frames + 1 ≤ (kR κ).frames ∧ 8 + (maxL + 11) + rm.locals ≤ (kR κ).locals) (hro : cells + mc ≤ (kR κ).cells ∧ slots + ms ≤ (kR κ).slots) (hcat : st.length ≤ 4)
    (hst : st0 = As.reverse ++ st) (d : decode cc pc = .ok (.invokestatic idx, 3))
    (k : ∀ (M1 : hM) (v : Option Value), Qg M1 v → VW κ (cells + mc) (slots + ms) M1 (pc + 3) lv (v.toList ++ st)) : VW κ cells slots M pc lv st0 := by
  refine v_ncall F (a := As.toArray) (fun H locs ls h1 h2 h3 => ?_) k
  obtain ⟨C, hZ, hsz, hfl, hTs⟩ := F
  obtain ⟨hexec, hb, hml, hown, hts, hKs, hSt, hlk⟩ := C
  rw [hZ] at h2
  exact vx_runSW (rest := st) (g := F0 (km κ) pc ls st0) ⟨hexec, hb, hml, hown, hts⟩ (hE_met hMt H.size) (vx_cwSW n hts g hw hrc hrs hd hR) ⟨he_blind, he_pre hsz h1 h2 hKs hSt hTs⟩ rfl hn h3.1.1 hst (lv_room (pc := pc) (m := km κ) (ls := ls) (rest := st0) (hcat_of hcat)) d hro
/-- caught here -/
theorem v_catch (F : Cw κ own cc ws M0 sz) {hh : List (Nat × Nat × Nat × Nat)} (ht : (kc κ).exceptionTable.toList = tableOf hh) {Ex name : String} (pre : List ExceptionTableEntry) (x : ExceptionTableEntry) (suf : List ExceptionTableEntry) (hsplit : tableOf hh = pre ++ x :: suf)
    (hpass : ∀ z ∈ pre, covers z pc = false ∨ (z.catchType ≠ 0 ∧ ∃ nm : String, Cond.classLink own z.catchType nm ∈ ws ∧ (Ex, nm) ∈ hNot)) (hx : covers x pc = true) (h0 : x.catchType ≠ 0) (hlink : Cond.classLink own x.catchType name ∈ ws) (hcast : (Ex, name) ∈ hCast)
    (kk : ∀ q : Nat, VW κ cells slots M x.handlerPc lv [va_rf (some q)]) : VX κ cells slots M pc lv st Ex := by
  intro H locs ls q ce h1 h2 h3 hce hcv hcl
  obtain ⟨C, hZ, hsz, hfl, hTs⟩ := F
  obtain ⟨hexec, hb, hml, hown, hts, hKs, hSt, hlk⟩ := C
  refine vx_catch hown pre x suf (by rw [ht]; exact hsplit) (fun z hz => ?_) hx h0 (hts _ hlink) (va_Nw.use rfl (hSt.2.1 _ hcast)) hce hcv hcl (kk q H locs ls h1 h2 h3)
  rcases hpass z hz with h | ⟨hz0, nm, hl1, hn1⟩
  · exact Or.inl h
  · exact Or.inr ⟨hz0, nm, hts _ hl1, hSt.2.2.2.2.1 _ hn1⟩
end HCALL
