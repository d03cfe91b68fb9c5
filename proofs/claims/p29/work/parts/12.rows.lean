/-! ===== rows of the judgement ===== -/
section HROWS
variable {κ : hKx} {own : String} {cc : ByteArray} {ws : List Cond} {cells slots pc : Nat} {M : hM} {lv lv' : List (Option Value)} {st : List Value}
theorem v_iconst (C : Cx κ own cc ws) {n : Int} {v : Int32} (d : decode cc pc = .ok (.iconst n, 1)) (hv : Int32.ofInt n = v) (k : VW κ cells slots M (pc + 1) lv (.int v :: st)) : VW κ cells slots M pc lv (st) := fun H locs ls h1 h2 h3 => lv_iconst C.1 C.2.1 d hv (k H locs ls h1 h2 h3)
theorem v_bipush (C : Cx κ own cc ws) {n : Int} {v : Int32} (d : decode cc pc = .ok (.bipush n, 2)) (hv : (Int8.ofInt n).toInt32 = v) (k : VW κ cells slots M (pc + 2) lv (.int v :: st)) : VW κ cells slots M pc lv (st) := fun H locs ls h1 h2 h3 => lv_bipush C.1 C.2.1 d hv (k H locs ls h1 h2 h3)
theorem v_sipush (C : Cx κ own cc ws) {n : Int} {v : Int32} (d : decode cc pc = .ok (.sipush n, 3)) (hv : (Int16.ofInt n).toInt32 = v) (k : VW κ cells slots M (pc + 3) lv (.int v :: st)) : VW κ cells slots M pc lv (st) := fun H locs ls h1 h2 h3 => lv_sipush C.1 C.2.1 d hv (k H locs ls h1 h2 h3)
theorem v_lconst (C : Cx κ own cc ws) {n : Fin 2} {v : Int64} (d : decode cc pc = .ok (.lconst n, 1)) (hv : Int64.ofNat (n : Nat) = v) (k : VW κ cells slots M (pc + 1) lv (.long v :: st)) : VW κ cells slots M pc lv (st) := fun H locs ls h1 h2 h3 => lv_lconst C.1 C.2.1 d hv (k H locs ls h1 h2 h3)
theorem v_null (C : Cx κ own cc ws) (d : decode cc pc = .ok (.aconst_null, 1)) (k : VW κ cells slots M (pc + 1) lv (va_rf none :: st)) : VW κ cells slots M pc lv (st) := fun H locs ls h1 h2 h3 => lv_null C.1 C.2.1 d (k H locs ls h1 h2 h3)
theorem v_iadd (C : Cx κ own cc ws) {x y : Int32} (d : decode cc pc = .ok (.iadd, 1)) (k : VW κ cells slots M (pc + 1) lv (.int (x + y) :: st)) : VW κ cells slots M pc lv (.int y :: .int x :: st) := fun H locs ls h1 h2 h3 => lv_iadd C.1 C.2.1 d (k H locs ls h1 h2 h3)
theorem v_isub (C : Cx κ own cc ws) {x y : Int32} (d : decode cc pc = .ok (.isub, 1)) (k : VW κ cells slots M (pc + 1) lv (.int (x - y) :: st)) : VW κ cells slots M pc lv (.int y :: .int x :: st) := fun H locs ls h1 h2 h3 => lv_isub C.1 C.2.1 d (k H locs ls h1 h2 h3)
theorem v_imul (C : Cx κ own cc ws) {x y : Int32} (d : decode cc pc = .ok (.imul, 1)) (k : VW κ cells slots M (pc + 1) lv (.int (x * y) :: st)) : VW κ cells slots M pc lv (.int y :: .int x :: st) := fun H locs ls h1 h2 h3 => lv_imul C.1 C.2.1 d (k H locs ls h1 h2 h3)
theorem v_iand (C : Cx κ own cc ws) {x y : Int32} (d : decode cc pc = .ok (.iand, 1)) (k : VW κ cells slots M (pc + 1) lv (.int (x &&& y) :: st)) : VW κ cells slots M pc lv (.int y :: .int x :: st) := fun H locs ls h1 h2 h3 => lv_iand C.1 C.2.1 d (k H locs ls h1 h2 h3)
theorem v_ior (C : Cx κ own cc ws) {x y : Int32} (d : decode cc pc = .ok (.ior, 1)) (k : VW κ cells slots M (pc + 1) lv (.int (x ||| y) :: st)) : VW κ cells slots M pc lv (.int y :: .int x :: st) := fun H locs ls h1 h2 h3 => lv_ior C.1 C.2.1 d (k H locs ls h1 h2 h3)
theorem v_ixor (C : Cx κ own cc ws) {x y : Int32} (d : decode cc pc = .ok (.ixor, 1)) (k : VW κ cells slots M (pc + 1) lv (.int (x ^^^ y) :: st)) : VW κ cells slots M pc lv (.int y :: .int x :: st) := fun H locs ls h1 h2 h3 => lv_ixor C.1 C.2.1 d (k H locs ls h1 h2 h3)
theorem v_ishl (C : Cx κ own cc ws) {x y : Int32} (d : decode cc pc = .ok (.ishl, 1)) (k : VW κ cells slots M (pc + 1) lv (.int (x <<< (y &&& 31)) :: st)) : VW κ cells slots M pc lv (.int y :: .int x :: st) := fun H locs ls h1 h2 h3 => lv_ishl C.1 C.2.1 d (k H locs ls h1 h2 h3)
theorem v_ishr (C : Cx κ own cc ws) {x y : Int32} (d : decode cc pc = .ok (.ishr, 1)) (k : VW κ cells slots M (pc + 1) lv (.int (x >>> (y &&& 31)) :: st)) : VW κ cells slots M pc lv (.int y :: .int x :: st) := fun H locs ls h1 h2 h3 => lv_ishr C.1 C.2.1 d (k H locs ls h1 h2 h3)
theorem v_ineg (C : Cx κ own cc ws) {x : Int32} (d : decode cc pc = .ok (.ineg, 1)) (k : VW κ cells slots M (pc + 1) lv (.int (-x) :: st)) : VW κ cells slots M pc lv (.int x :: st) := fun H locs ls h1 h2 h3 => lv_ineg C.1 C.2.1 d (k H locs ls h1 h2 h3)
theorem v_idiv (C : Cx κ own cc ws) {x y : Int32} (d : decode cc pc = .ok (.idiv, 1)) (hy : ¬ y = 0) (k : VW κ cells slots M (pc + 1) lv (.int (x / y) :: st)) : VW κ cells slots M pc lv (.int y :: .int x :: st) := fun H locs ls h1 h2 h3 => lv_idiv C.1 C.2.1 d hy (k H locs ls h1 h2 h3)
theorem v_irem (C : Cx κ own cc ws) {x y : Int32} (d : decode cc pc = .ok (.irem, 1)) (hy : ¬ y = 0) (k : VW κ cells slots M (pc + 1) lv (.int (x - x / y * y) :: st)) : VW κ cells slots M pc lv (.int y :: .int x :: st) := fun H locs ls h1 h2 h3 => lv_irem C.1 C.2.1 d hy (k H locs ls h1 h2 h3)
theorem v_iushr (C : Cx κ own cc ws) {x y : Int32} (d : decode cc pc = .ok (.iushr, 1)) (k : VW κ cells slots M (pc + 1) lv (.int ((x.toUInt32 >>> (y.toUInt32 &&& Int32.toUInt32 31)).toInt32) :: st)) : VW κ cells slots M pc lv (.int y :: .int x :: st) := fun H locs ls h1 h2 h3 => lv_iushr C.1 C.2.1 d rfl (k H locs ls h1 h2 h3)
theorem v_i2l (C : Cx κ own cc ws) {x : Int32} (d : decode cc pc = .ok (.i2l, 1)) (k : VW κ cells slots M (pc + 1) lv (.long x.toInt64 :: st)) : VW κ cells slots M pc lv (.int x :: st) := fun H locs ls h1 h2 h3 => lv_i2l C.1 C.2.1 d rfl (k H locs ls h1 h2 h3)
theorem v_lcmp (C : Cx κ own cc ws) {x y : Int64} (d : decode cc pc = .ok (.lcmp, 1)) (k : VW κ cells slots M (pc + 1) lv (.int (lg_cmp x y) :: st)) : VW κ cells slots M pc lv (.long y :: .long x :: st) := fun H locs ls h1 h2 h3 => W.lcmp C.1 C.2.1 d (k H locs ls h1 h2 h3)
theorem v_dup (C : Cx κ own cc ws) {v : Value} (d : decode cc pc = .ok (.dup, 1)) (hv : v.category = 1) (k : VW κ cells slots M (pc + 1) lv (v :: v :: st)) : VW κ cells slots M pc lv (v :: st) := fun H locs ls h1 h2 h3 => lv_dup C.1 C.2.1 d hv (k H locs ls h1 h2 h3)
theorem v_dup2 (C : Cx κ own cc ws) {v w : Value} (d : decode cc pc = .ok (.dup2, 1)) (hv : v.category = 1) (hw : w.category = 1) (k : VW κ cells slots M (pc + 1) lv (v :: w :: v :: w :: st)) : VW κ cells slots M pc lv (v :: w :: st) := fun H locs ls h1 h2 h3 => lv_dup2_11 C.1 C.2.1 d hv hw (k H locs ls h1 h2 h3)
theorem v_pop (C : Cx κ own cc ws) {v : Value} (d : decode cc pc = .ok (.pop, 1)) (hv : v.category = 1) (k : VW κ cells slots M (pc + 1) lv (st)) : VW κ cells slots M pc lv (v :: st) := fun H locs ls h1 h2 h3 => lv_pop C.1 C.2.1 d hv (k H locs ls h1 h2 h3)
theorem v_iload_n (C : Cx κ own cc ws) {i : Fin 4} {x : Int32} (d : decode cc pc = .ok (.iload_n i, 1)) (hi : lv[(i : Nat)]? = some (some (.int x))) (k : VW κ cells slots M (pc + 1) lv (.int x :: st)) : VW κ cells slots M pc lv (st) := fun H locs ls h1 h2 h3 => lv_iload_n C.1 C.2.1 d rfl (lw_at h3 hi) (k H locs ls h1 h2 h3)
theorem v_iload (C : Cx κ own cc ws) {i : Nat} {x : Int32} (d : decode cc pc = .ok (.iload i, 2)) (hi : lv[i]? = some (some (.int x))) (k : VW κ cells slots M (pc + 2) lv (.int x :: st)) : VW κ cells slots M pc lv (st) := fun H locs ls h1 h2 h3 => lv_iload C.1 C.2.1 d (lw_at h3 hi) (k H locs ls h1 h2 h3)
theorem v_aload_n (C : Cx κ own cc ws) {i : Fin 4} {r : Option Nat} (d : decode cc pc = .ok (.aload_n i, 1)) (hi : lv[(i : Nat)]? = some (some (va_rf r))) (k : VW κ cells slots M (pc + 1) lv (va_rf r :: st)) : VW κ cells slots M pc lv st := by
  intro H locs ls h1 h2 h3
  have h4 := lw_at h3 hi
  have k9 := k H locs ls h1 h2 h3
  cases r with
  | none => exact lv_aload_nN C.1 C.2.1 d rfl h4 k9
  | some x => exact lv_aload_n C.1 C.2.1 d rfl h4 k9
theorem v_aload (C : Cx κ own cc ws) {i : Nat} {r : Option Nat} (d : decode cc pc = .ok (.aload i, 2)) (hi : lv[i]? = some (some (va_rf r))) (k : VW κ cells slots M (pc + 2) lv (va_rf r :: st)) : VW κ cells slots M pc lv st := by
  intro H locs ls h1 h2 h3
  have h4 := lw_at h3 hi
  have k9 := k H locs ls h1 h2 h3
  cases r with
  | none => exact lv_aloadN C.1 C.2.1 d h4 k9
  | some x => exact lv_aload C.1 C.2.1 d h4 k9
theorem v_istore_n (C : Cx κ own cc ws) {i : Fin 4} {x : Int32} {z : Option Value} (d : decode cc pc = .ok (.istore_n i, 1)) (hz : lv[(i : Nat)]? = some z) (hb : lw_nb lv (i : Nat)) (hs : lv.set (i : Nat) (some (.int x)) = lv') (k : VW κ cells slots M (pc + 1) lv' st) : VW κ cells slots M pc lv (.int x :: st) := by
  intro H locs ls h1 h2 h3
  have hi := (List.getElem?_eq_some_iff.mp hz).1
  exact lv_istore_n C.1 C.2.1 d rfl h3.1 (by rw [← h3.2.1]; exact hi) rfl (fun ls' h' => k H locs ls' h1 h2 (hs ▸ lw_set h3 hi rfl hb h'))
theorem v_istore (C : Cx κ own cc ws) {i : Nat} {x : Int32} {z : Option Value} (d : decode cc pc = .ok (.istore i, 2)) (hz : lv[i]? = some z) (hb : lw_nb lv i) (hs : lv.set i (some (.int x)) = lv') (k : VW κ cells slots M (pc + 2) lv' st) : VW κ cells slots M pc lv (.int x :: st) := by
  intro H locs ls h1 h2 h3
  have hi := (List.getElem?_eq_some_iff.mp hz).1
  exact lv_istore C.1 C.2.1 d h3.1 (by rw [← h3.2.1]; exact hi) rfl (fun ls' h' => k H locs ls' h1 h2 (hs ▸ lw_set h3 hi rfl hb h'))
theorem v_astore_n (C : Cx κ own cc ws) {i : Fin 4} {r : Option Nat} {z : Option Value} (d : decode cc pc = .ok (.astore_n i, 1)) (hz : lv[(i : Nat)]? = some z) (hb : lw_nb lv (i : Nat)) (hs : lv.set (i : Nat) (some (va_rf r)) = lv') (k : VW κ cells slots M (pc + 1) lv' st) : VW κ cells slots M pc lv (va_rf r :: st) := by
  intro H locs ls h1 h2 h3
  have hi := (List.getElem?_eq_some_iff.mp hz).1
  subst hs
  have k9 := fun ls' h' => k H locs ls' h1 h2 h'
  cases r with
  | none => exact lv_astore_nN C.1 C.2.1 d rfl h3.1 (by rw [← h3.2.1]; exact hi) rfl (fun ls' h' => k9 ls' (lw_set h3 hi rfl hb h'))
  | some x => exact lv_astore_n C.1 C.2.1 d rfl h3.1 (by rw [← h3.2.1]; exact hi) rfl (fun ls' h' => k9 ls' (lw_set h3 hi rfl hb h'))
theorem v_astore (C : Cx κ own cc ws) {i : Nat} {r : Option Nat} {z : Option Value} (d : decode cc pc = .ok (.astore i, 2)) (hz : lv[i]? = some z) (hb : lw_nb lv i) (hs : lv.set i (some (va_rf r)) = lv') (k : VW κ cells slots M (pc + 2) lv' st) : VW κ cells slots M pc lv (va_rf r :: st) := by
  intro H locs ls h1 h2 h3
  have hi := (List.getElem?_eq_some_iff.mp hz).1
  subst hs
  have k9 := fun ls' h' => k H locs ls' h1 h2 h'
  cases r with
  | none => exact lv_astoreN C.1 C.2.1 d h3.1 (by rw [← h3.2.1]; exact hi) rfl (fun ls' h' => k9 ls' (lw_set h3 hi rfl hb h'))
  | some x => exact lv_astore C.1 C.2.1 d h3.1 (by rw [← h3.2.1]; exact hi) rfl (fun ls' h' => k9 ls' (lw_set h3 hi rfl hb h'))
theorem v_iinc (C : Cx κ own cc ws) {i : Nat} {n : Int} {x w : Int32} (d : decode cc pc = .ok (.iinc i n, 3)) (hx : lv[i]? = some (some (.int x))) (hw : Int32.ofInt n = w) (hs : lv.set i (some (.int (x + w))) = lv') (k : VW κ cells slots M (pc + 3) lv' st) : VW κ cells slots M pc lv st := by
  intro H locs ls h1 h2 h3
  have hi := (List.getElem?_eq_some_iff.mp hx).1
  have hm : (i, Value.int x) ∈ lw_as 0 lv := (lw_as_mem lv 0 (i, .int x)).mpr ⟨Nat.zero_le _, hx⟩
  obtain ⟨j, hj⟩ := List.getElem?_of_mem hm
  exact lv_iinc (v := x + w) C.1 C.2.1 d h3.1 (k := j) hj (by rw [hw]) (by rw [← h3.2.1]; exact hi) rfl (fun ls' h' => k H locs ls' h1 h2 (hs ▸ lw_set h3 hi rfl (lw_bs h3 hx) h'))
theorem v_lload_n (C : Cx κ own cc ws) {i : Fin 4} {x : Int64} (d : decode cc pc = .ok (.lload_n i, 1)) (hi : lv[(i : Nat)]? = some (some (.long x))) (k : VW κ cells slots M (pc + 1) lv (.long x :: st)) : VW κ cells slots M pc lv st := fun H locs ls h1 h2 h3 => lv_lload_n C.1 C.2.1 d rfl (lw_at h3 hi) (k H locs ls h1 h2 h3)
theorem v_lload (C : Cx κ own cc ws) {i : Nat} {x : Int64} (d : decode cc pc = .ok (.lload i, 2)) (hi : lv[i]? = some (some (.long x))) (k : VW κ cells slots M (pc + 2) lv (.long x :: st)) : VW κ cells slots M pc lv st := fun H locs ls h1 h2 h3 => lv_lload C.1 C.2.1 d (lw_at h3 hi) (k H locs ls h1 h2 h3)
theorem v_lstore_n (C : Cx κ own cc ws) {i : Fin 4} {x : Int64} {z : Option Value} (d : decode cc pc = .ok (.lstore_n i, 1)) (hz : lv[(i : Nat) + 1]? = some z) (hb : lw_nb lv (i : Nat)) (hs : (lv.set (i : Nat) (some (.long x))).set ((i : Nat) + 1) none = lv') (k : VW κ cells slots M (pc + 1) lv' st) : VW κ cells slots M pc lv (.long x :: st) := by
  intro H locs ls h1 h2 h3
  have hi := (List.getElem?_eq_some_iff.mp hz).1
  exact lv_lstore_n C.1 C.2.1 d rfl h3.1 (by rw [← h3.2.1]; exact hi) rfl (fun ls' h' => k H locs ls' h1 h2 (hs ▸ lw_setL h3 hi hb h'))
theorem v_lstore (C : Cx κ own cc ws) {i : Nat} {x : Int64} {z : Option Value} (d : decode cc pc = .ok (.lstore i, 2)) (hz : lv[i + 1]? = some z) (hb : lw_nb lv i) (hs : (lv.set i (some (.long x))).set (i + 1) none = lv') (k : VW κ cells slots M (pc + 2) lv' st) : VW κ cells slots M pc lv (.long x :: st) := by
  intro H locs ls h1 h2 h3
  have hi := (List.getElem?_eq_some_iff.mp hz).1
  exact lv_lstore C.1 C.2.1 d h3.1 (by rw [← h3.2.1]; exact hi) rfl (fun ls' h' => k H locs ls' h1 h2 (hs ▸ lw_setL h3 hi hb h'))
theorem v_ladd (C : Cx κ own cc ws) {x y : Int64} (d : decode cc pc = .ok (.ladd, 1)) (k : VW κ cells slots M (pc + 1) lv (.long (x + y) :: st)) : VW κ cells slots M pc lv (.long y :: .long x :: st) := fun H locs ls h1 h2 h3 => lv_ladd C.1 C.2.1 d (k H locs ls h1 h2 h3)
theorem v_lmul (C : Cx κ own cc ws) {x y : Int64} (d : decode cc pc = .ok (.lmul, 1)) (k : VW κ cells slots M (pc + 1) lv (.long (x * y) :: st)) : VW κ cells slots M pc lv (.long y :: .long x :: st) := fun H locs ls h1 h2 h3 => lv_lmul C.1 C.2.1 d (k H locs ls h1 h2 h3)
theorem v_ldc2 (C : Cx κ own cc ws) {index : Nat} {v : Int64} (hw : Cond.constantLong own index v ∈ ws) (d : decode cc pc = .ok (.ldc2_w index, 3)) (k : VW κ cells slots M (pc + 3) lv (.long v :: st)) : VW κ cells slots M pc lv st := fun H locs ls h1 h2 h3 => lv_ldc2 C.1 C.2.1 C.2.2.2.1 (C.2.2.2.2.1 _ hw) d (k H locs ls h1 h2 h3)
theorem v_if_eq (C : Cx κ own cc ws) {x : Int32} {off : Int} {tgt : Nat} (d : decode cc pc = .ok (.ifCond .eq off, 3)) (ht : (pc : Int) + off = (tgt : Int)) (kt : x = 0 → VW κ cells slots M tgt lv st) (kf : ¬ x = 0 → VW κ cells slots M (pc + 3) lv st) : VW κ cells slots M pc lv (.int x :: st) := fun H locs ls h1 h2 h3 => lv_if_eq C.1 C.2.1 d ht (fun q => kt q H locs ls h1 h2 h3) (fun q => kf q H locs ls h1 h2 h3)
theorem v_if_ne (C : Cx κ own cc ws) {x : Int32} {off : Int} {tgt : Nat} (d : decode cc pc = .ok (.ifCond .ne off, 3)) (ht : (pc : Int) + off = (tgt : Int)) (kt : ¬ x = 0 → VW κ cells slots M tgt lv st) (kf : x = 0 → VW κ cells slots M (pc + 3) lv st) : VW κ cells slots M pc lv (.int x :: st) := fun H locs ls h1 h2 h3 => lv_if_ne C.1 C.2.1 d ht (fun q => kt q H locs ls h1 h2 h3) (fun q => kf q H locs ls h1 h2 h3)
theorem v_if_lt (C : Cx κ own cc ws) {x : Int32} {off : Int} {tgt : Nat} (d : decode cc pc = .ok (.ifCond .lt off, 3)) (ht : (pc : Int) + off = (tgt : Int)) (kt : x < 0 → VW κ cells slots M tgt lv st) (kf : ¬ x < 0 → VW κ cells slots M (pc + 3) lv st) : VW κ cells slots M pc lv (.int x :: st) := fun H locs ls h1 h2 h3 => lv_if_lt C.1 C.2.1 d ht (fun q => kt q H locs ls h1 h2 h3) (fun q => kf q H locs ls h1 h2 h3)
theorem v_if_ge (C : Cx κ own cc ws) {x : Int32} {off : Int} {tgt : Nat} (d : decode cc pc = .ok (.ifCond .ge off, 3)) (ht : (pc : Int) + off = (tgt : Int)) (kt : 0 ≤ x → VW κ cells slots M tgt lv st) (kf : ¬ 0 ≤ x → VW κ cells slots M (pc + 3) lv st) : VW κ cells slots M pc lv (.int x :: st) := fun H locs ls h1 h2 h3 => lv_if_ge C.1 C.2.1 d ht (fun q => kt q H locs ls h1 h2 h3) (fun q => kf q H locs ls h1 h2 h3)
theorem v_if_gt (C : Cx κ own cc ws) {x : Int32} {off : Int} {tgt : Nat} (d : decode cc pc = .ok (.ifCond .gt off, 3)) (ht : (pc : Int) + off = (tgt : Int)) (kt : 0 < x → VW κ cells slots M tgt lv st) (kf : ¬ 0 < x → VW κ cells slots M (pc + 3) lv st) : VW κ cells slots M pc lv (.int x :: st) := fun H locs ls h1 h2 h3 => lv_if_gt C.1 C.2.1 d ht (fun q => kt q H locs ls h1 h2 h3) (fun q => kf q H locs ls h1 h2 h3)
theorem v_if_le (C : Cx κ own cc ws) {x : Int32} {off : Int} {tgt : Nat} (d : decode cc pc = .ok (.ifCond .le off, 3)) (ht : (pc : Int) + off = (tgt : Int)) (kt : x ≤ 0 → VW κ cells slots M tgt lv st) (kf : ¬ x ≤ 0 → VW κ cells slots M (pc + 3) lv st) : VW κ cells slots M pc lv (.int x :: st) := fun H locs ls h1 h2 h3 => lv_if_le C.1 C.2.1 d ht (fun q => kt q H locs ls h1 h2 h3) (fun q => kf q H locs ls h1 h2 h3)
theorem v_icmp_eq (C : Cx κ own cc ws) {x y : Int32} {off : Int} {tgt : Nat} (d : decode cc pc = .ok (.if_icmp .eq off, 3)) (ht : (pc : Int) + off = (tgt : Int)) (kt : x = y → VW κ cells slots M tgt lv st) (kf : ¬ x = y → VW κ cells slots M (pc + 3) lv st) : VW κ cells slots M pc lv (.int y :: .int x :: st) := fun H locs ls h1 h2 h3 => lv_icmp_eq C.1 C.2.1 d ht (fun q => kt q H locs ls h1 h2 h3) (fun q => kf q H locs ls h1 h2 h3)
theorem v_icmp_ne (C : Cx κ own cc ws) {x y : Int32} {off : Int} {tgt : Nat} (d : decode cc pc = .ok (.if_icmp .ne off, 3)) (ht : (pc : Int) + off = (tgt : Int)) (kt : ¬ x = y → VW κ cells slots M tgt lv st) (kf : x = y → VW κ cells slots M (pc + 3) lv st) : VW κ cells slots M pc lv (.int y :: .int x :: st) := fun H locs ls h1 h2 h3 => lv_icmp_ne C.1 C.2.1 d ht (fun q => kt q H locs ls h1 h2 h3) (fun q => kf q H locs ls h1 h2 h3)
theorem v_icmp_lt (C : Cx κ own cc ws) {x y : Int32} {off : Int} {tgt : Nat} (d : decode cc pc = .ok (.if_icmp .lt off, 3)) (ht : (pc : Int) + off = (tgt : Int)) (kt : x < y → VW κ cells slots M tgt lv st) (kf : ¬ x < y → VW κ cells slots M (pc + 3) lv st) : VW κ cells slots M pc lv (.int y :: .int x :: st) := fun H locs ls h1 h2 h3 => lv_icmp_lt C.1 C.2.1 d ht (fun q => kt q H locs ls h1 h2 h3) (fun q => kf q H locs ls h1 h2 h3)
theorem v_icmp_ge (C : Cx κ own cc ws) {x y : Int32} {off : Int} {tgt : Nat} (d : decode cc pc = .ok (.if_icmp .ge off, 3)) (ht : (pc : Int) + off = (tgt : Int)) (kt : y ≤ x → VW κ cells slots M tgt lv st) (kf : ¬ y ≤ x → VW κ cells slots M (pc + 3) lv st) : VW κ cells slots M pc lv (.int y :: .int x :: st) := fun H locs ls h1 h2 h3 => lv_icmp_ge C.1 C.2.1 d ht (fun q => kt q H locs ls h1 h2 h3) (fun q => kf q H locs ls h1 h2 h3)
theorem v_icmp_gt (C : Cx κ own cc ws) {x y : Int32} {off : Int} {tgt : Nat} (d : decode cc pc = .ok (.if_icmp .gt off, 3)) (ht : (pc : Int) + off = (tgt : Int)) (kt : y < x → VW κ cells slots M tgt lv st) (kf : ¬ y < x → VW κ cells slots M (pc + 3) lv st) : VW κ cells slots M pc lv (.int y :: .int x :: st) := fun H locs ls h1 h2 h3 => lv_icmp_gt C.1 C.2.1 d ht (fun q => kt q H locs ls h1 h2 h3) (fun q => kf q H locs ls h1 h2 h3)
theorem v_icmp_le (C : Cx κ own cc ws) {x y : Int32} {off : Int} {tgt : Nat} (d : decode cc pc = .ok (.if_icmp .le off, 3)) (ht : (pc : Int) + off = (tgt : Int)) (kt : x ≤ y → VW κ cells slots M tgt lv st) (kf : ¬ x ≤ y → VW κ cells slots M (pc + 3) lv st) : VW κ cells slots M pc lv (.int y :: .int x :: st) := fun H locs ls h1 h2 h3 => lv_icmp_le C.1 C.2.1 d ht (fun q => kt q H locs ls h1 h2 h3) (fun q => kf q H locs ls h1 h2 h3)
theorem v_goto (C : Cx κ own cc ws) {off : Int} {tgt : Nat} (d : decode cc pc = .ok (.goto off, 3)) (ht : (pc : Int) + off = (tgt : Int)) (k : VW κ cells slots M tgt lv st) : VW κ cells slots M pc lv st := fun H locs ls h1 h2 h3 => lv_goto C.1 C.2.1 d ht (k H locs ls h1 h2 h3)
theorem v_ifnull (C : Cx κ own cc ws) {r : Option Nat} {off : Int} {tgt : Nat} (d : decode cc pc = .ok (.ifnull off, 3)) (ht : (pc : Int) + off = (tgt : Int)) (kt : r = none → VW κ cells slots M tgt lv st) (kf : ¬ r = none → VW κ cells slots M (pc + 3) lv st) : VW κ cells slots M pc lv (va_rf r :: st) := by
  intro H locs ls h1 h2 h3
  cases r with
  | none => exact lv_ifnullN C.1 C.2.1 d ht (kt rfl H locs ls h1 h2 h3)
  | some x => exact lv_ifnull C.1 C.2.1 d (kf (fun h => by cases h) H locs ls h1 h2 h3)
theorem v_ifnonnull (C : Cx κ own cc ws) {r : Option Nat} {off : Int} {tgt : Nat} (d : decode cc pc = .ok (.ifnonnull off, 3)) (ht : (pc : Int) + off = (tgt : Int)) (kt : ¬ r = none → VW κ cells slots M tgt lv st) (kf : r = none → VW κ cells slots M (pc + 3) lv st) : VW κ cells slots M pc lv (va_rf r :: st) := by
  intro H locs ls h1 h2 h3
  cases r with
  | none => exact lv_ifnonnullN C.1 C.2.1 d (kf rfl H locs ls h1 h2 h3)
  | some x => exact lv_ifnonnull C.1 C.2.1 d ht (kt (fun h => by cases h) H locs ls h1 h2 h3)
theorem v_tabIn (C : Cx κ own cc ws) {dflt lo hi : Int} {offs : Array Int} {len : Nat} {x v : Int32} {off : Int} {tgt : Nat} (d : decode cc pc = .ok (.tableswitch dflt lo hi offs, len)) (hx : x = v) (h1 : ¬ v.toInt < lo) (h2 : ¬ hi < v.toInt) (ho : offs[(v.toInt - lo).toNat]? = some off) (ht : (pc : Int) + off = (tgt : Int)) (k : VW κ cells slots M tgt lv st) : VW κ cells slots M pc lv (.int x :: st) := by
  subst hx
  exact fun H locs ls q1 q2 q3 => lv_tableIn C.1 C.2.1 d h1 h2 ho ht (k H locs ls q1 q2 q3)
theorem v_tabOut (C : Cx κ own cc ws) {dflt hi : Int} {offs : Array Int} {len n : Nat} {x : Int32} {tgt : Nat} (d : decode cc pc = .ok (.tableswitch dflt 0 hi offs, len)) (hx : ∀ k, k < n → ¬ x = nI k) (hn : hi + 1 = (n : Int)) (h31 : n < 2 ^ 31) (ht : (pc : Int) + dflt = (tgt : Int)) (k : VW κ cells slots M tgt lv st) : VW κ cells slots M pc lv (.int x :: st) := by
  have h : x.toInt < 0 ∨ hi < x.toInt := by
    by_cases h0 : x.toInt < 0
    · exact Or.inl h0
    · right
      by_cases h9 : hi < x.toInt
      · exact h9
      · exfalso
        have hlt : x.toInt.toNat < n := by omega
        refine hx x.toInt.toNat hlt (Int32.toInt_inj.mp ?_)
        rw [nI_toInt (by omega)]
        omega
  exact fun H locs ls q1 q2 q3 => lv_tableOut C.1 C.2.1 d h ht (k H locs ls q1 q2 q3)
theorem v_sub (hn : lv'.length = lv.length) (hs : ∀ (i : Nat) (v : Value), lv'[i]? = some (some v) → lv[i]? = some (some v)) (k : VW κ cells slots M pc lv' st) : VW κ cells slots M pc lv st := fun H locs ls h1 h2 h3 => k H locs ls h1 h2 (lw_sub h3 hn hs)
def lw_mask (bs : List Bool) (l : List (Option Value)) : List (Option Value) := List.zipWith (fun b o => if b then o else none) bs l
theorem v_mask (bs : List Bool) (hb : bs.length = lv.length) (hs : lw_mask bs lv = lv') (k : VW κ cells slots M pc lv' st) : VW κ cells slots M pc lv st := by
  subst hs
  refine v_sub (by simp [lw_mask, hb]) (fun i v h => ?_) k
  unfold lw_mask at h
  rw [List.getElem?_zipWith] at h
  cases hbi : bs[i]? with
  | none => rw [hbi] at h; cases h
  | some b =>
    cases hli : lv[i]? with
    | none => rw [hbi, hli] at h; cases h
    | some o =>
      rw [hbi, hli] at h
      cases b
      · cases h
      · exact h
theorem v_widen {k n : Nat} (h1 : cells ≤ k) (h2 : slots ≤ n) (kk : VW κ k n M pc lv st) : VW κ cells slots M pc lv st := fun H locs ls q1 q2 q3 => W.widen h1 h2 (kk H locs ls q1 q2 q3)
theorem v_ldc (C : Cx κ own cc ws) {index : Nat} {v : Int32} (hw : Cond.constant own index v ∈ ws) (d : decode cc pc = .ok (.ldc index, 2)) (k : VW κ cells slots M (pc + 2) lv (.int v :: st)) : VW κ cells slots M pc lv st := fun H locs ls h1 h2 h3 => lv_ldc C.1 C.2.1 C.2.2.2.1 (C.2.2.2.2.1 _ hw) d (k H locs ls h1 h2 h3)
theorem v_ldcw (C : Cx κ own cc ws) {index : Nat} {v : Int32} (hw : Cond.constant own index v ∈ ws) (d : decode cc pc = .ok (.ldc_w index, 3)) (k : VW κ cells slots M (pc + 3) lv (.int v :: st)) : VW κ cells slots M pc lv st := fun H locs ls h1 h2 h3 => lv_ldcw C.1 C.2.1 C.2.2.2.1 (C.2.2.2.2.1 _ hw) d (k H locs ls h1 h2 h3)
/-! reads -/
theorem v_getI (C : Cx κ own cc ws) {Cn : String} {T : u_T} {N ci index : Nat} {r : Option Nat} {x : Int32} (k : Nat) (hin : ∀ w ∈ u_ws Cn T N, w ∈ ws) (hc : vwCl[ci]? = some (Cn, T, N)) (hk : k < N) (hl : Cond.fieldLink own index (T k).1 (T k).2.1 (T k).2.2.1 ∈ ws) (hx : gI M ci k r = some x) (d : decode cc pc = .ok (.getfield index, 3)) (kk : VW κ cells slots M (pc + 3) lv (.int x :: st)) : VW κ cells slots M pc lv (va_rf r :: st) := by
  intro H locs ls h1 h2 h3
  obtain ⟨a, fs, rfl, hm, hf⟩ := gI_inv hx
  exact va_get (D := (kG κ).1) (v := .int x) C.1 C.2.1 C.2.2.2.2.1 hin C.2.2.2.1 C.2.2.2.2.2.1 (h1.one hm) 0 rfl hc k hk (C.2.2.2.2.1 _ hl) (fun _ h => h) hf d (kk H locs ls h1 h2 h3)
theorem v_getR (C : Cx κ own cc ws) {Cn : String} {T : u_T} {N ci index : Nat} {r x : Option Nat} (k : Nat) (hin : ∀ w ∈ u_ws Cn T N, w ∈ ws) (hc : vwCl[ci]? = some (Cn, T, N)) (hk : k < N) (hl : Cond.fieldLink own index (T k).1 (T k).2.1 (T k).2.2.1 ∈ ws) (hx : gR M ci k r = some x) (d : decode cc pc = .ok (.getfield index, 3)) (kk : VW κ cells slots M (pc + 3) lv (va_rf x :: st)) : VW κ cells slots M pc lv (va_rf r :: st) := by
  intro H locs ls h1 h2 h3
  obtain ⟨a, fs, rfl, hm, hf⟩ := gR_inv hx
  exact va_get (D := (kG κ).1) (v := va_rf x) C.1 C.2.1 C.2.2.2.2.1 hin C.2.2.2.1 C.2.2.2.2.2.1 (h1.one hm) 0 rfl hc k hk (C.2.2.2.2.1 _ hl) (fun _ h => h) hf d (kk H locs ls h1 h2 h3)
theorem v_iald (C : Cx κ own cc ws) {r : Option Nat} {i x : Int32} (hx : aI M 0 r i = some x) (d : decode cc pc = .ok (.iaload, 1)) (kk : VW κ cells slots M (pc + 1) lv (.int x :: st)) : VW κ cells slots M pc lv (.int i :: va_rf r :: st) := by
  intro H locs ls h1 h2 h3
  obtain ⟨a, n, f, rfl, hm, hi, rfl⟩ := aI_inv hx
  exact va_iald C.1 C.2.1 C.2.2.2.2.2.1 (h1.one hm) 0 0 rfl rfl hi d (kk H locs ls h1 h2 h3)
theorem v_aald (C : Cx κ own cc ws) (kd : Nat) {Cn : String} (ht : (hTys (kG κ))[kd]? = some ((kG κ).2 kd, .object Cn)) {r x : Option Nat} {i : Int32} (hx : aR M kd r i = some x) (d : decode cc pc = .ok (.aaload, 1)) (kk : VW κ cells slots M (pc + 1) lv (va_rf x :: st)) : VW κ cells slots M pc lv (.int i :: va_rf r :: st) := by
  intro H locs ls h1 h2 h3
  obtain ⟨a, n, f, rfl, hm, hi, rfl⟩ := aR_inv hx
  exact va_aldq (C := Cn) C.1 C.2.1 C.2.2.2.2.2.1 (h1.one hm) 0 kd rfl ht hi d (kk H locs ls h1 h2 h3)
theorem v_alen (C : Cx κ own cc ws) (kd : Nat) {ty : FieldType} (ht : (hTys (kG κ))[kd]? = some ((kG κ).2 kd, ty)) {r : Option Nat} {x : Int32} (hx : aL M kd r = some x) (d : decode cc pc = .ok (.arraylength, 1)) (kk : VW κ cells slots M (pc + 1) lv (.int x :: st)) : VW κ cells slots M pc lv (va_rf r :: st) := by
  intro H locs ls h1 h2 h3
  obtain ⟨a, v, rfl, hm, rfl⟩ := aL_inv hx
  exact va_alen C.1 C.2.1 C.2.2.2.2.2.1 (h1.one hm) 0 kd rfl ht rfl d (kk H locs ls h1 h2 h3)
end HROWS
