/-! ===== rows that write, make, call, throw and end ===== -/
theorem hcat_of {st : List Value} (h : st.length ≤ 4) : (st.map fun v => v.category).sum ≤ 8 := by
  have key : ∀ l : List Value, (l.map fun v => v.category).sum ≤ 2 * l.length := by
    intro l
    induction l with
    | nil => exact Nat.le_refl _
    | cons v t ih =>
      have hv : v.category ≤ 2 := by rcases lv_cat v with h | h <;> omega
      simp only [List.map_cons, List.sum_cons, List.length_cons]
      omega
  have := key st
  omega
section HEFF
variable {κ : hKx} {own : String} {cc : ByteArray} {ws : List Cond} {cells slots pc : Nat} {M : hM} {lv lv' : List (Option Value)} {st st0 : List Value}
variable {rt : Option FieldType} {M0 : hM} {sz mc ms : Nat} {Qf : hM → Option Value → Prop} {Xf : String → hM → Prop} {rv : Option Value}
theorem hZe_put {A : Nat → Prop} {s : State} {M : hM} {H H1 : Heap} {locs : List Loc} {a k : Nat} {x0 x : hE} (h : hZe A s M H locs) (hm : M a = some x0) (z : H1.size = H.size) (oq : ∀ q : Nat, q ≠ a → H1[q]? = H[q]?) : hZe A s (hst M a x) H1 (locs ++ [⟨a, k⟩]) := by
  refine ⟨fun q y hy => ?_, h.2.put z oq (h.1 a x0 hm)⟩
  by_cases hq : q = a
  · subst hq
    exact h.1 q x0 hm
  · rw [hst_n _ _ hq] at hy
    exact h.1 q y hy
theorem hZe_new {M0 : hM} {sz : Nat} {s : State} {M : hM} {H H1 : Heap} {locs : List Loc} {x : hE} (hsz : s.heap.size = sz) (h : hZe (hAA M0 sz) s M H locs) (z : H1.size = H.size + 1) (oq : ∀ q : Nat, q < H.size → H1[q]? = H[q]?) : hZe (hAA M0 sz) s (hst M H.size x) H1 locs := by
  refine ⟨fun q y hy => ?_, ?_⟩
  · by_cases hq : q = H.size
    · subst hq
      right
      rw [← hsz]
      exact h.2.1
    · rw [hst_n _ _ hq] at hy
      exact h.1 q y hy
  · exact ⟨Nat.le_trans h.2.1 (by omega), fun q h1 h2 => (oq q (Nat.lt_of_lt_of_le h1 h.2.1)).trans (h.2.2.1 q h1 h2), h.2.2.2⟩
theorem nar_bool {x : Int32} (h : x = 0 ∨ x = 1) : narrow .boolean (.int x) = .int x := by
  rcases h with rfl | rfl <;> decide +kernel
theorem fit_bool {x : Int32} (h : x = 0 ∨ x = 1) : fits .boolean (.int x) = true := by
  rcases h with rfl | rfl <;> decide +kernel
theorem vnar_bool {x : Int32} (h : x = 0 ∨ x = 1) : vp_nar .boolean x = x := by
  rcases h with rfl | rfl <;> decide +kernel
theorem nar_int (x : Int32) : narrow .int (.int x) = .int x := rfl
theorem fit_int (x : Int32) : fits .int (.int x) = true := rfl
/-- a field that may change -/
theorem v_put (F : Cw κ own cc ws M0 sz) {Cn : String} {T : u_T} {N ci index : Nat} {r : Option Nat} {v : Value} {ty : FieldType} {M' : hM} (k : Nat) (hin : ∀ w ∈ u_ws Cn T N, w ∈ ws) (ty0 : Nat → FieldType) (hty : ∀ k, k < N → parseFieldDescriptor (T k).2.2.1 = some (ty0 k)) (hnm : ∀ a, a < N → ∀ b, b < N → a ≠ b → (T a).2.1 ≠ (T b).2.1) (hc : vwCl[ci]? = some (Cn, T, N)) (hk : k < N) (hl : Cond.fieldLink own index (T k).1 (T k).2.1 (T k).2.2.1 ∈ ws) (hfin : (T k).2.2.2 = false) (hd : ty0 k = ty) (hn : narrow ty v = v) (hfit : fits ty v = true) (hx : pV M ci k r v = some M') (d : decode cc pc = .ok (.putfield index, 3)) (kk : VW κ cells slots M' (pc + 3) lv st) : VW κ cells slots M pc lv (v :: va_rf r :: st) := by
  intro H locs ls h1 h2 h3
  obtain ⟨C, hZ, hsz, -⟩ := F
  obtain ⟨hexec, hb, hml, hown, hts, hK, -⟩ := C
  obtain ⟨a, fs, rfl, hm, hlen, rfl⟩ := pV_inv hx
  have hap := va_apart (own := own) hts hin ty0 hty hnm hK hc
  obtain ⟨r', hr1, cell, q1, q2, q3, q4⟩ := h1 a _ hm
  have hr : r' = (Cn, T, N) := Option.some.inj (hr1.symm.trans hc)
  subst hr
  obtain ⟨hS, hfc, kC, hkC, hkind⟩ := hK.1 ci _ hc
  obtain ⟨cf, kf, fi, f, hi, hsl⟩ := hS k hk
  have hlay := hts _ (hin _ (u_in_lay hk))
  unfold u_lay at hlay
  rw [if_neg (by rw [hfin]; decide)] at hlay
  have hst := (u_facts hfc hkC (u_lays hts hin hk) hi).1
  have h6 := u_store hfc hkC hkind hlay hi (by rw [hty k hk, hd]) hn hfit
  refine W.putK hexec hb (f := f) ⟨hown, hts _ hl, ⟨_, _, _, hi⟩, hst⟩ (by rw [q2]; exact h6) q1 q3 (by rw [hsl]; exact k2_hasslot (q4 k hk)) rfl rfl d fun H' e1 e2 e3 => ?_
  rw [hsl] at e1 ⊢
  rw [hZ] at h2
  exact kk H' _ ls (h1.set ⟨_, hc, t_OB.to (V := updV (vp_V fs) k v) ⟨_, e1, q2, q3, t_set q4 hap hk v⟩ (fun j _ => vp_updV_set hlen v j)⟩ e3) (by rw [hZ]; exact hZe_put h2 hm e2 e3) h3
/-- a final one, in a constructor -/
theorem v_putF (F : Cw κ own cc ws M0 sz) {Cn : String} {T : u_T} {N ci index : Nat} {r : Option Nat} {v : Value} {ty : FieldType} {M' : hM} (k : Nat) (hin : ∀ w ∈ u_ws Cn T N, w ∈ ws) (ty0 : Nat → FieldType) (hty : ∀ k, k < N → parseFieldDescriptor (T k).2.2.1 = some (ty0 k)) (hnm : ∀ a, a < N → ∀ b, b < N → a ≠ b → (T a).2.1 ≠ (T b).2.1) (hc : vwCl[ci]? = some (Cn, T, N)) (hk : k < N) (hl : Cond.fieldLink own index (T k).1 (T k).2.1 (T k).2.2.1 ∈ ws) (hfin : (T k).2.2.2 = true) (hin2 : (kM κ).name = "<init>") (hdecl : (T k).1 = own) (hd : ty0 k = ty) (hn : narrow ty v = v) (hfit : fits ty v = true) (hx : pV M ci k r v = some M') (d : decode cc pc = .ok (.putfield index, 3)) (kk : VW κ cells slots M' (pc + 3) lv st) : VW κ cells slots M pc lv (v :: va_rf r :: st) := by
  intro H locs ls h1 h2 h3
  obtain ⟨C, hZ, hsz, -⟩ := F
  obtain ⟨hexec, hb, hml, hown, hts, hK, -⟩ := C
  obtain ⟨a, fs, rfl, hm, hlen, rfl⟩ := pV_inv hx
  have hap := va_apart (own := own) hts hin ty0 hty hnm hK hc
  obtain ⟨r', hr1, cell, q1, q2, q3, q4⟩ := h1 a _ hm
  have hr : r' = (Cn, T, N) := Option.some.inj (hr1.symm.trans hc)
  subst hr
  obtain ⟨hS, hfc, kC, hkC, hkind⟩ := hK.1 ci _ hc
  obtain ⟨cf, kf, fi, f, hi, hsl⟩ := hS k hk
  have hlay := hts _ (hin _ (u_in_lay hk))
  unfold u_lay at hlay
  rw [if_pos hfin] at hlay
  have hst := (u_facts hfc hkC (u_lays hts hin hk) hi).1
  have hcf : (km κ).cls = cf := by
    obtain ⟨_, _, c', _, _, _, -, -, hf', -, -, -, hown2, -⟩ := Cond.laysFinal_spec hlay
    have e1 : c' = cf := by have := hi.symm.trans hf'; simp at this; exact this.1.symm
    rw [hdecl] at hown2
    rw [← e1]; exact Option.some.inj (hown.symm.trans hown2)
  have h6 := u_fits hfc hkC hkind (Or.inr hlay) hi (by rw [hty k hk, hd]) hn hfit
  refine W.putFinK hexec hb hown (hts _ hl) hi hst hcf hin2 (by rw [q2]; exact h6) q1 q3 (by rw [hsl]; exact k2_hasslot (q4 k hk)) rfl rfl d fun H' e1 e2 e3 => ?_
  rw [hsl] at e1 ⊢
  rw [hZ] at h2
  exact kk H' _ ls (h1.set ⟨_, hc, t_OB.to (V := updV (vp_V fs) k v) ⟨_, e1, q2, q3, t_set q4 hap hk v⟩ (fun j _ => vp_updV_set hlen v j)⟩ e3) (by rw [hZ]; exact hZe_put h2 hm e2 e3) h3
theorem v_iast (F : Cw κ own cc ws M0 sz) {r : Option Nat} {i x : Int32} {M' : hM} (hx : sI M 0 r i x = some M') (d : decode cc pc = .ok (.iastore, 1)) (kk : VW κ cells slots M' (pc + 1) lv st) : VW κ cells slots M pc lv (.int x :: .int i :: va_rf r :: st) := by
  intro H locs ls h1 h2 h3
  obtain ⟨C, hZ, hsz, -⟩ := F
  obtain ⟨a, n, f, rfl, hm, hi, rfl⟩ := sI_inv hx
  have hc : H[a]? = some (vp_cell ((kG κ).2 0) (n, .inl f)) := h1 a _ hm
  rw [hZ] at h2
  refine W.iast C.1 C.2.1 hc ((C.2.2.2.2.2.1.2 0 _ rfl).1 n (fun j => .int (f j))) (fun q => by cases q) (by show ¬ (i < 0 ∨ (arrV _ _ _).slots.size ≤ _); rw [arrV_size]; exact hi) rfl rfl d fun H1 e z oq => ?_
  refine kk H1 _ ls (h1.set ?_ oq) (by rw [hZ]; exact hZe_put h2 hm z oq) h3
  show H1[a]? = some (vp_cell _ _)
  rw [e]
  show some ((vp_cell _ _).setSlot _ _) = some (vp_cell _ _)
  rw [vp_cell_i, vp_cell_i, arrV_store]
  congr 2
  funext q
  by_cases hq : q = i.toNatClampNeg
  · subst hq
    simp [updV, upd]
  · simp [updV, upd, hq]
theorem v_aast (F : Cw κ own cc ws M0 sz) (kd : Nat) {Cn : String} {T : u_T} {N ci : Nat} (ht : (hTys (kG κ))[kd]? = some ((kG κ).2 kd, .object Cn)) (hcl : vwCl[ci]? = some (Cn, T, N)) {r v : Option Nat} {i : Int32} {M' : hM} (hx : sR M kd r i ci v = some M') (d : decode cc pc = .ok (.aastore, 1)) (kk : VW κ cells slots M' (pc + 1) lv st) : VW κ cells slots M pc lv (va_rf v :: .int i :: va_rf r :: st) := by
  intro H locs ls h1 h2 h3
  obtain ⟨C, hZ, hsz, -⟩ := F
  obtain ⟨a, n, f, b, fs, rfl, hm, hi, rfl, hmb, rfl⟩ := sR_inv hx
  have hlt : i.toNatClampNeg < n := Nat.not_le.mp fun q => hi (Or.inr q)
  have h0 : ¬ i < 0 := fun q => hi (Or.inl q)
  have hc : H[a]? = some (vp_cell ((kG κ).2 kd) (n, .inr (.inr (.inr (.inr f))))) := h1 a _ hm
  obtain ⟨r', hr', cellV, g1, g2, g3, -⟩ := h1 b _ hmb
  have hK := C.2.2.2.2.2.1
  have hcls := (hK.1 ci _ hcl).2
  obtain ⟨kA, comp, k1, k2, k3, -⟩ := (hK.2 kd _ ht).2
  have hcomp : comp = (kG κ).1.1 ci := Option.some.inj (k3.symm.trans hcls.1)
  subst hcomp
  obtain ⟨kC, hkC, -⟩ := hcls.2
  rw [hZ] at h2
  refine W.aast C.1 C.2.1 hc (fun q h => by cases h) (fun h => by cases h) k1 k2 rfl hkC ⟨h0, by show _ < (arrV _ _ _).slots.size; rw [arrV_size]; exact hlt⟩ g1 (fun q h => by rw [g3] at h; cases h) (by rw [g2]; exact hkC) (by rw [g2]; exact va_assign hcls) rfl rfl d fun H1 e z oq => ?_
  refine kk H1 _ ls (h1.set ?_ oq) (by rw [hZ]; exact hZe_put h2 hm z oq) h3
  show H1[a]? = some (vp_cell _ _)
  rw [e]
  show some ((vp_cell _ _).setSlot _ _) = some (vp_cell _ _)
  rw [vp_cell_q, vp_cell_q, arrV_store]
  congr 2
  funext q
  by_cases hq : q = i.toNatClampNeg
  · subst hq
    simp [updV, va_up, va_rf]
  · simp [updV, va_up, hq]
/-- a new object -/
theorem v_new (F : Cw κ own cc ws M0 sz) {Cn : String} {T : u_T} {N ci index : Nat} (hin : ∀ w ∈ u_ws Cn T N, w ∈ ws) (ty : Nat → FieldType) (hty : ∀ k, k < N → parseFieldDescriptor (T k).2.2.1 = some (ty k)) (hcl : Cond.classLink own index Cn ∈ ws) (hinst : Cond.instantiable Cn N ∈ ws) (hini : Cond.initialized Cn ∈ ws) (hc : vwCl[ci]? = some (Cn, T, N)) {fs : List Value} (hfs : ∀ j, j < N → defaultValue (ty j) = vp_V fs j) (hcells : cells + 1 ≤ (kR κ).cells) (hslots : slots + N ≤ (kR κ).slots) (d : decode cc pc = .ok (.new index, 3))
    (kk : ∀ a : Nat, M a = none → VW κ (cells + 1) (slots + N) (hst M a (.inr (ci, fs))) (pc + 3) lv (va_rf (some a) :: st)) : VW κ cells slots M pc lv st := by
  intro H locs ls h1 h2 h3
  obtain ⟨C, hZ, hsz, -⟩ := F
  obtain ⟨hexec, hb, hml, hown, hts, hK, -⟩ := C
  have hKn := hK.1 ci _ hc
  rw [hZ] at h2
  refine W.newcK hexec hb hown (hts _ hcl) (hts _ hinst) (hts _ hini) rfl d hcells hslots hKn.2.1 rfl fun H1 kC hkC e1 z1 o1 => ?_
  exact kk H.size h1.fresh H1 locs ls (h1.new ⟨_, hc, (u_born ty hts hin hKn hkC e1 hty).to hfs⟩ o1) (by rw [hZ]; exact hZe_new hsz h2 z1 o1) h3
theorem v_newa (F : Cw κ own cc ws M0 sz) (kd : Nat) {atype : ArrayType} {ty : FieldType} (hat : newarray.typeOf atype = ty) (hw : Cond.arrayClass ty ∈ ws) (ht : (hTys (kG κ))[kd]? = some ((kG κ).2 kd, ty)) (hfc : va_RA (ks κ) ((kG κ).2 kd) ty → (ks κ).vm.findClass ("[" ++ ty.toString) = some ((kG κ).2 kd)) {n : Int32} {N : Nat} {x : vp_A} (hx : ∀ cA : ClassId, vp_cell cA x = arrV cA N (fun _ => defaultValue ty)) (hn : ¬ n < 0) (hN : n.toNatClampNeg = N) (hbytes : N * componentBytes ty ≤ 536870912) (hcells : cells + 1 ≤ (kR κ).cells) (hslots : slots + N ≤ (kR κ).slots) (d : decode cc pc = .ok (.newarray atype, 2))
    (kk : ∀ a : Nat, M a = none → VW κ (cells + 1) (slots + N) (hst M a (.inl (kd, x))) (pc + 2) lv (va_rf (some a) :: st)) : VW κ cells slots M pc lv (.int n :: st) := by
  subst hat
  intro H locs ls h1 h2 h3
  obtain ⟨C, hZ, hsz, -⟩ := F
  obtain ⟨hexec, hb, hml, hown, hts, hK, -⟩ := C
  rw [hZ] at h2
  refine va_newaK hexec hb (hts _ hw) rfl d rfl hn hN hbytes hcells hslots rfl fun H1 cA e1 z1 o1 hAr hNm => ?_
  have hcA : cA = (kG κ).2 kd := Option.some.inj (hNm.symm.trans (hfc (hK.2 kd _ ht).2))
  refine kk H.size h1.fresh H1 locs ls (h1.new ?_ o1) (by rw [hZ]; exact hZe_new hsz h2 z1 o1) h3
  show H1[H.size]? = some (vp_cell _ _)
  rw [hx, ← hcA]
  exact e1
theorem v_anewa (F : Cw κ own cc ws M0 sz) (kd : Nat) {Cn : String} {index : Nat} (hcl : Cond.classLink own index Cn ∈ ws) (hov : Cn ∈ hOver) (ht : (hTys (kG κ))[kd]? = some ((kG κ).2 kd, .object Cn)) {n : Int32} {N : Nat} (hn : ¬ n < 0) (hN : n.toNatClampNeg = N) (hbytes : N * 4 ≤ 536870912) (hcells : cells + 1 ≤ (kR κ).cells) (hslots : slots + N ≤ (kR κ).slots) (d : decode cc pc = .ok (.anewarray index, 3))
    (kk : ∀ a : Nat, M a = none → VW κ (cells + 1) (slots + N) (hst M a (.inl (kd, N, .inr (.inr (.inr (.inr (fun _ => none))))))) (pc + 3) lv (va_rf (some a) :: st)) : VW κ cells slots M pc lv (.int n :: st) := by
  subst hN
  intro H locs ls h1 h2 h3
  obtain ⟨C, hZ, hsz, -⟩ := F
  obtain ⟨hexec, hb, hml, hown, hts, hK, hSt, -⟩ := C
  rw [hZ] at h2
  refine W.anew hexec hb hown (hts _ hcl) (va_AO.use (hSt.2.2.2.1 _ hov)) rfl d rfl hn hbytes hcells hslots fun cA kA comp f1 f2 f3 f4 => ?_
  obtain ⟨kA', comp', -, -, -, g4⟩ := (hK.2 kd _ ht).2
  have hcA : cA = (kG κ).2 kd := Option.some.inj (f1.symm.trans g4)
  generalize hH1 : H.push ({ cls := cA, slots := Array.replicate n.toNatClampNeg .null, vm := .none } : Cell) = H1
  have z1 : H1.size = H.size + 1 := by rw [← hH1, Array.size_push]
  have e1 : H1[H.size]? = some (arrV cA n.toNatClampNeg (fun _ => .null)) := by rw [← hH1, Array.getElem?_push_size, ← arrV_new]
  have o1 : ∀ q : Nat, q < H.size → H1[q]? = H[q]? := fun q hq => by rw [← hH1, Array.getElem?_push, if_neg (Nat.ne_of_lt hq)]
  refine kk H.size h1.fresh H1 locs ls (h1.new ?_ o1) (by rw [hZ]; exact hZe_new hsz h2 z1 o1) h3
  show H1[H.size]? = some (vp_cell _ _)
  rw [vp_cell_q, ← hcA]
  exact e1
theorem v_objInit (C : Cx κ own cc ws) {idx : Nat} {r : Option Nat} {a : Nat} (hr : r = some a) (h1 : Cond.methodLink own idx objectInit ∈ ws) (h2 : Cond.instanceMethod objectInit ∈ ws) (h3 : Cond.code objectInit ⟨#[0xb1]⟩ 1 none ∈ ws) (hf : 1 ≤ (kR κ).frames) (hl : 2 * st.length + 12 ≤ (kR κ).locals) (d : decode cc pc = .ok (.invokespecial idx, 3)) (kk : VW κ cells slots M (pc + 3) lv st) : VW κ cells slots M pc lv (va_rf r :: st) := by
  subst hr
  intro H locs ls q1 q2 q3
  obtain ⟨hexec, hb, hml, hown, hts, hK, -⟩ := C
  have key : ∀ l : List Value, (l.map fun v => v.category).sum ≤ 2 * l.length := by
    intro l
    induction l with
    | nil => exact Nat.le_refl _
    | cons v t ih =>
      have hv : v.category ≤ 2 := by rcases lv_cat v with h | h <;> omega
      simp only [List.map_cons, List.sum_cons, List.length_cons]
      omega
  have hk := key st
  exact W.objInit hexec hb hown (hts _ h1) (hts _ h2) (hts _ h3) rfl (by rw [hml]; exact q3.1.1) rfl d hf (by show 2 * 0 + _ + 12 ≤ _; omega) (kk H locs ls q1 q2 q3)
theorem v_min (C : Cx κ own cc ws) {idx : Nat} {x y : Int32} (h1 : Cond.methodLink own idx Lib.Math.min.name ∈ ws) (h2 : Cond.static Lib.Math.min.name ∈ ws) (h3 : Cond.initialized "java/lang/Math" ∈ ws) (h4 : Cond.code Lib.Math.min.name Lib.Math.min.code 2 (some .int) ∈ ws) (hf : 1 ≤ (kR κ).frames) (hl : 2 * st.length + 13 ≤ (kR κ).locals) (hc : cells ≤ (kR κ).cells) (hs : slots ≤ (kR κ).slots) (d : decode cc pc = .ok (.invokestatic idx, 3)) (kk : VW κ cells slots M (pc + 3) lv (.int (if y < x then y else x) :: st)) : VW κ cells slots M pc lv (.int y :: .int x :: st) := by
  intro H locs ls q1 q2 q3
  obtain ⟨hexec, hb, hml, hown, hts, hK, -⟩ := C
  have key : ∀ l : List Value, (l.map fun v => v.category).sum ≤ 2 * l.length := by
    intro l
    induction l with
    | nil => exact Nat.le_refl _
    | cons v t ih =>
      have hv : v.category ≤ 2 := by rcases lv_cat v with h | h <;> omega
      simp only [List.map_cons, List.sum_cons, List.length_cons]
      omega
  have hk := key st
  exact va_mmin hexec hb (by rw [hml]; exact q3.1.1.symm) hown (hts _ h1) (hts _ h2) (hts _ h3) (hts _ h4) hf (by omega) hc hs d (kk H locs ls q1 q2 q3)
/-! ends where nothing was written -/
theorem v_pret (P : Cp κ own cc ws rt rv) {x : Int32} {ty : FieldType} (hr : rt = some ty) (hv : rv = some (.int x)) (hn : narrow ty (.int x) = .int x) (d : decode cc pc = .ok (.ireturn, 1)) : VW κ 0 0 M pc lv [.int x] := by
  intro H locs ls h1 h2 h3
  obtain ⟨C, hZ, hrt, hQ⟩ := P
  rw [hZ] at h2
  obtain ⟨rfl, rfl⟩ := h2
  show W _ _ _ _ _ _ _ _ _ _ _ _ _ _ (kQ κ) _
  rw [hQ]
  exact W.zret C.1 C.2.1 (by rw [hrt, hr]) hn (fun t ht hW => ⟨by rw [hv], ht⟩) (fun q h => by cases h) d C.2.2.2.2.2.2.2
theorem v_pretR (P : Cp κ own cc ws rt rv) {r : Option Nat} {n : String} (hr : rt = some (.object n)) (hv : rv = some (va_rf r)) (d : decode cc pc = .ok (.areturn, 1)) : VW κ 0 0 M pc lv [va_rf r] := by
  intro H locs ls h1 h2 h3
  obtain ⟨C, hZ, hrt, hQ⟩ := P
  rw [hZ] at h2
  obtain ⟨rfl, rfl⟩ := h2
  show W _ _ _ _ _ _ _ _ _ _ _ _ _ _ (kQ κ) _
  rw [hQ]
  exact W.aret C.1 C.2.1 (by rw [hrt, hr]) (Or.inl ⟨_, rfl⟩) (va_rf_or r) (fun t ht hW => ⟨by rw [hv], ht⟩) (fun q h => by cases h) d C.2.2.2.2.2.2.2
/-! ends where something was -/
theorem v_eret (E : Ce κ own cc ws rt M0 sz Qf Xf mc ms) {x : Int32} {ty : FieldType} (hr : rt = some ty) (hn : narrow ty (.int x) = .int x) (hq : Qf M (some (.int x))) (hc : cells ≤ mc) (hs : slots ≤ ms) (d : decode cc pc = .ok (.ireturn, 1)) : VW κ cells slots M pc lv [.int x] := by
  intro H locs ls h1 h2 h3
  obtain ⟨⟨C, hZ, hsz, hfl, hTs⟩, hrt, hQ⟩ := E
  rw [hZ] at h2
  show W _ _ _ _ _ _ _ _ _ _ _ _ _ _ (kQ κ) _
  rw [hQ]
  refine vx_ret ?_
  refine W.widen hc hs ?_
  exact W.zret C.1 C.2.1 (by rw [hrt, hr]) hn (fun t ht hW => ⟨⟨_, M, rfl, hq, by rw [ht]; exact h1, h2.1⟩, h2.2.F ht⟩) h2.2.2.2 d C.2.2.2.2.2.2.2
theorem v_eretR (E : Ce κ own cc ws rt M0 sz Qf Xf mc ms) {r : Option Nat} {n : String} (hr : rt = some (.object n)) (hq : Qf M (some (va_rf r))) (hc : cells ≤ mc) (hs : slots ≤ ms) (d : decode cc pc = .ok (.areturn, 1)) : VW κ cells slots M pc lv [va_rf r] := by
  intro H locs ls h1 h2 h3
  obtain ⟨⟨C, hZ, hsz, hfl, hTs⟩, hrt, hQ⟩ := E
  rw [hZ] at h2
  show W _ _ _ _ _ _ _ _ _ _ _ _ _ _ (kQ κ) _
  rw [hQ]
  refine vx_ret ?_
  refine W.widen hc hs ?_
  exact W.aret C.1 C.2.1 (by rw [hrt, hr]) (Or.inl ⟨_, rfl⟩) (va_rf_or r) (fun t ht hW => ⟨⟨_, M, rfl, hq, by rw [ht]; exact h1, h2.1⟩, h2.2.F ht⟩) h2.2.2.2 d C.2.2.2.2.2.2.2
theorem v_eretV (E : Ce κ own cc ws rt M0 sz Qf Xf mc ms) (hr : rt = none) (hq : Qf M none) (hc : cells ≤ mc) (hs : slots ≤ ms) (d : decode cc pc = .ok (.return_, 1)) : VW κ cells slots M pc lv [] := by
  intro H locs ls h1 h2 h3
  obtain ⟨⟨C, hZ, hsz, hfl, hTs⟩, hrt, hQ⟩ := E
  rw [hZ] at h2
  show W _ _ _ _ _ _ _ _ _ _ _ _ _ _ (kQ κ) _
  rw [hQ]
  refine vx_ret ?_
  refine W.widen hc hs ?_
  exact W.vret C.1 C.2.1 (by rw [hrt, hr]) (fun t ht hW => ⟨⟨_, M, rfl, hq, by rw [ht]; exact h1, h2.1⟩, h2.2.F ht⟩) h2.2.2.2 d C.2.2.2.2.2.2.2
/-- an exception of the callee's goes on to the caller -/
theorem v_out (E : Ce κ own cc ws rt M0 sz Qf Xf mc ms) (ht : ∀ x ∈ (kc κ).exceptionTable.toList, False) {Ex : String} (hx : Xf Ex M) (hc : cells ≤ mc) (hs : slots ≤ ms) : VX κ cells slots M pc lv st Ex := by
  intro H locs ls q ce h1 h2 h3 hce hcv hcl
  obtain ⟨⟨C, hZ, hsz, hfl, hTs⟩, hrt, hQ⟩ := E
  rw [hZ] at h2
  show vx_W _ _ _ _ _ _ _ _ _ _ _ _ _ _ (kQ κ) _ _
  rw [hQ]
  exact vx_out (fun x h => (ht x h).elim) C.2.2.2.2.2.2.2 hce hcv hcl (fun t ht _ => ⟨⟨M, hx, by rw [ht]; exact h1, h2.1⟩, h2.2.F ht⟩) h2.2.2.2 hc hs
def hSW : List Cond := hCast.map (fun q => Cond.castable q.1 q.2) ++ hDecl.map (fun x => Cond.declares x)
theorem hS.words {A : Array Value} {U : State} (h : hS U) : ∀ w ∈ hSW, w.before A U = true := by
  intro w hw
  rcases List.mem_append.mp hw with h1 | h1
  · obtain ⟨q, hq, rfl⟩ := List.mem_map.mp h1
    exact va_Nw.use rfl (h.2.1 q hq)
  · obtain ⟨x, hx, rfl⟩ := List.mem_map.mp h1
    exact va_Nw.use rfl (h.2.2.1 x hx)
abbrev hUp : List String := ["java/lang/RuntimeException", "java/lang/Exception"]
theorem v_throw (E : Ce κ own cc ws rt M0 sz Qf Xf mc ms) (ht : ∀ x ∈ (kc κ).exceptionTable.toList, False) {cls text : String} {ik is ic : Nat} (ho : own = RX4) (hcls : Bundle.fit cls = true) (hk : Cond.classLink own ik cls ∈ ws) (hini : Cond.initialized cls ∈ ws) (hstr : (is, text) ∈ hStr) (hat : ∀ w ∈ (vx_atS own ic cls hUp).filter goodWord, w ∈ ws) (hnt : ∀ w ∈ (vx_atS own ic cls hUp).filter (fun w => !goodWord w), w ∈ hSW) (hgood : ∀ w ∈ Cond.classLink own ik cls :: Cond.initialized cls :: vx_atS own ic cls hUp, vx_ot w = true)
    (hx : Xf cls M) (hRf : 5 < (kR κ).frames) (hRl : 2 * st.length + 82 ≤ (kR κ).locals) (hRc : cells + 1 ≤ (kR κ).cells) (hRs : slots + 6 ≤ (kR κ).slots) (hc : cells + 1 ≤ mc) (hs : slots + 6 ≤ ms)
    (d0 : decode cc pc = .ok (.new ik, 3)) (d3 : decode cc (pc + 3) = .ok (.dup, 1)) (d4 : decode cc (pc + 4) = .ok (.ldc is, 2)) (d6 : decode cc (pc + 6) = .ok (.invokespecial ic, 3)) (d9 : decode cc (pc + 9) = .ok (.athrow, 1)) : VW κ cells slots M pc lv st := by
  intro H locs ls h1 h2 h3
  obtain ⟨⟨C, hZ, hsz, hfl, hTs⟩, hrt, hQ⟩ := E
  obtain ⟨hexec, hb, hml, hown, hts, hK, hSt, hlk⟩ := C
  rw [hZ] at h2
  obtain ⟨sa, hsa⟩ := hSt.2.2.2.2.2 _ hstr
  have key : ∀ l : List Value, (l.map fun v => v.category).sum ≤ 2 * l.length := by
    intro l
    induction l with
    | nil => exact Nat.le_refl _
    | cons v t ih =>
      have hv : v.category ≤ 2 := by rcases lv_cat v with h | h <;> omega
      simp only [List.map_cons, List.sum_cons, List.length_cons]
      omega
  have hk8 := key st
  show W _ _ _ _ _ _ _ _ _ _ _ _ _ _ (kQ κ) _
  rw [hQ]
  refine vx_throwS (names := hUp) (text := text) (sa := sa) hexec hb hfl hown hcls (by decide +kernel) (hts _ hk) (hts _ hini) (by rw [ho]; exact hsa) (vx_hat (fun w hw => hts _ (hat w hw)) hnt hSt.words) hgood hTs.1 hTs.2 h2.2 (by rw [hml]; exact h3.1.1) d0 d3 d4 d6 d9 (fun x h => (ht x h).elim) hRf (by show _ + (13 * (2 + 1) + 43) ≤ _; omega) hRc hRs hlk (fun t hal hsz1 hq => ?_) h2.2.2.2 hc hs
  exact ⟨⟨M, hx, h1.kept (fun a x hm => hq a (h1.lt hm)), h2.1⟩, Nat.le_trans h2.2.1 hsz1, fun q q1 q2 => (hq q (Nat.lt_of_lt_of_le q1 h2.2.1)).trans (h2.2.2.1 q q1 q2)⟩
theorem v_throwW (E : Ce κ own cc ws rt M0 sz Qf Xf mc ms) (ht : ∀ x ∈ (kc κ).exceptionTable.toList, False) {cls text : String} {ik is ic : Nat} (ho : own = RX4) (hcls : Bundle.fit cls = true) (hk : Cond.classLink own ik cls ∈ ws) (hini : Cond.initialized cls ∈ ws) (hstr : (is, text) ∈ hStr) (hat : ∀ w ∈ (vx_atS own ic cls hUp).filter goodWord, w ∈ ws) (hnt : ∀ w ∈ (vx_atS own ic cls hUp).filter (fun w => !goodWord w), w ∈ hSW) (hgood : ∀ w ∈ Cond.classLink own ik cls :: Cond.initialized cls :: vx_atS own ic cls hUp, vx_ot w = true)
    (hx : Xf cls M) (hRf : 5 < (kR κ).frames) (hRl : 2 * st.length + 82 ≤ (kR κ).locals) (hRc : cells + 1 ≤ (kR κ).cells) (hRs : slots + 6 ≤ (kR κ).slots) (hc : cells + 1 ≤ mc) (hs : slots + 6 ≤ ms)
    (d0 : decode cc pc = .ok (.new ik, 3)) (d3 : decode cc (pc + 3) = .ok (.dup, 1)) (d4 : decode cc (pc + 4) = .ok (.ldc_w is, 3)) (d7 : decode cc (pc + 7) = .ok (.invokespecial ic, 3)) (d10 : decode cc (pc + 10) = .ok (.athrow, 1)) : VW κ cells slots M pc lv st := by
  intro H locs ls h1 h2 h3
  obtain ⟨⟨C, hZ, hsz, hfl, hTs⟩, hrt, hQ⟩ := E
  obtain ⟨hexec, hb, hml, hown, hts, hK, hSt, hlk⟩ := C
  rw [hZ] at h2
  obtain ⟨sa, hsa⟩ := hSt.2.2.2.2.2 _ hstr
  have key : ∀ l : List Value, (l.map fun v => v.category).sum ≤ 2 * l.length := by
    intro l
    induction l with
    | nil => exact Nat.le_refl _
    | cons v t ih =>
      have hv : v.category ≤ 2 := by rcases lv_cat v with h | h <;> omega
      simp only [List.map_cons, List.sum_cons, List.length_cons]
      omega
  have hk8 := key st
  show W _ _ _ _ _ _ _ _ _ _ _ _ _ _ (kQ κ) _
  rw [hQ]
  refine vx_throwSW (names := hUp) (text := text) (sa := sa) hexec hb hfl hown hcls (by decide +kernel) (hts _ hk) (hts _ hini) (by rw [ho]; exact hsa) (vx_hat (fun w hw => hts _ (hat w hw)) hnt hSt.words) hgood hTs.1 hTs.2 h2.2 (by rw [hml]; exact h3.1.1) d0 d3 d4 d7 d10 (fun x h => (ht x h).elim) hRf (by show _ + (13 * (2 + 1) + 43) ≤ _; omega) hRc hRs hlk (fun t hal hsz1 hq => ?_) h2.2.2.2 hc hs
  exact ⟨⟨M, hx, h1.kept (fun a x hm => hq a (h1.lt hm)), h2.1⟩, Nat.le_trans h2.2.1 hsz1, fun q q1 q2 => (hq q (Nat.lt_of_lt_of_le q1 h2.2.1)).trans (h2.2.2.1 q q1 q2)⟩
end HEFF
