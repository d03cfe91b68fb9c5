/-! X5_init -/
abbrev rmX5_init : Room := { frames := 1, cells := 32, slots := 2784, locals := 22 }
theorem iwX5_init_X5 : ∀ w ∈ u_ws RX5 TX5 38, w ∈ wsX5_init := fun _ h => List.mem_cons_of_mem _ (List.mem_append_right _ (h))
theorem flX5_init_101 : Cond.fieldLink RX5 101 "ChargehouseModel" "byWhat" "[I" ∈ wsX5_init := List.mem_cons_of_mem _ (List.mem_append_left _ (List.mem_append_right _ (List.mem_of_getElem? (i := 11) rfl)))
theorem flX5_init_104 : Cond.fieldLink RX5 104 "ChargehouseModel" "counts" "[I" ∈ wsX5_init := List.mem_cons_of_mem _ (List.mem_append_left _ (List.mem_append_right _ (List.mem_of_getElem? (i := 12) rfl)))
theorem flX5_init_13 : Cond.fieldLink RX5 13 "ChargehouseModel" "gravity" "[I" ∈ wsX5_init := List.mem_cons_of_mem _ (List.mem_append_left _ (List.mem_append_left _ (List.mem_of_getElem? (i := 5) rfl)))
theorem flX5_init_16 : Cond.fieldLink RX5 16 "ChargehouseModel" "limits" "[I" ∈ wsX5_init := List.mem_cons_of_mem _ (List.mem_append_left _ (List.mem_append_left _ (List.mem_of_getElem? (i := 6) rfl)))
theorem flX5_init_19 : Cond.fieldLink RX5 19 "ChargehouseModel" "excluded" "[I" ∈ wsX5_init := List.mem_cons_of_mem _ (List.mem_append_left _ (List.mem_append_left _ (List.mem_of_getElem? (i := 7) rfl)))
theorem flX5_init_22 : Cond.fieldLink RX5 22 "ChargehouseModel" "events" "[I" ∈ wsX5_init := List.mem_cons_of_mem _ (List.mem_append_left _ (List.mem_append_left _ (List.mem_of_getElem? (i := 8) rfl)))
theorem flX5_init_25 : Cond.fieldLink RX5 25 "ChargehouseModel" "accused" "[I" ∈ wsX5_init := List.mem_cons_of_mem _ (List.mem_append_left _ (List.mem_append_left _ (List.mem_of_getElem? (i := 9) rfl)))
theorem flX5_init_28 : Cond.fieldLink RX5 28 "ChargehouseModel" "points" "[I" ∈ wsX5_init := List.mem_cons_of_mem _ (List.mem_append_left _ (List.mem_append_left _ (List.mem_of_getElem? (i := 10) rfl)))
theorem flX5_init_31 : Cond.fieldLink RX5 31 "ChargehouseModel" "fileOf" "[I" ∈ wsX5_init := List.mem_cons_of_mem _ (List.mem_append_left _ (List.mem_append_left _ (List.mem_of_getElem? (i := 11) rfl)))
theorem flX5_init_34 : Cond.fieldLink RX5 34 "ChargehouseModel" "elementOf" "[I" ∈ wsX5_init := List.mem_cons_of_mem _ (List.mem_append_left _ (List.mem_append_left _ (List.mem_of_getElem? (i := 12) rfl)))
theorem flX5_init_37 : Cond.fieldLink RX5 37 "ChargehouseModel" "weights" "[I" ∈ wsX5_init := List.mem_cons_of_mem _ (List.mem_append_left _ (List.mem_append_left _ (List.mem_of_getElem? (i := 13) rfl)))
theorem flX5_init_40 : Cond.fieldLink RX5 40 "ChargehouseModel" "against" "[I" ∈ wsX5_init := List.mem_cons_of_mem _ (List.mem_append_left _ (List.mem_append_left _ (List.mem_of_getElem? (i := 14) rfl)))
theorem flX5_init_43 : Cond.fieldLink RX5 43 "ChargehouseModel" "how" "[I" ∈ wsX5_init := List.mem_cons_of_mem _ (List.mem_append_left _ (List.mem_append_left _ (List.mem_of_getElem? (i := 15) rfl)))
theorem flX5_init_46 : Cond.fieldLink RX5 46 "ChargehouseModel" "isSensitive" "[Z" ∈ wsX5_init := List.mem_cons_of_mem _ (List.mem_append_left _ (List.mem_append_left _ (List.mem_of_getElem? (i := 17) rfl)))
theorem flX5_init_50 : Cond.fieldLink RX5 50 "ChargehouseModel" "came" "[I" ∈ wsX5_init := List.mem_cons_of_mem _ (List.mem_append_left _ (List.mem_append_left _ (List.mem_of_getElem? (i := 18) rfl)))
theorem flX5_init_53 : Cond.fieldLink RX5 53 "ChargehouseModel" "admitted" "[I" ∈ wsX5_init := List.mem_cons_of_mem _ (List.mem_append_left _ (List.mem_append_left _ (List.mem_of_getElem? (i := 19) rfl)))
theorem flX5_init_56 : Cond.fieldLink RX5 56 "ChargehouseModel" "shown" "[I" ∈ wsX5_init := List.mem_cons_of_mem _ (List.mem_append_left _ (List.mem_append_left _ (List.mem_of_getElem? (i := 20) rfl)))
theorem flX5_init_59 : Cond.fieldLink RX5 59 "ChargehouseModel" "isWithheld" "[Z" ∈ wsX5_init := List.mem_cons_of_mem _ (List.mem_append_left _ (List.mem_append_left _ (List.mem_of_getElem? (i := 21) rfl)))
theorem flX5_init_62 : Cond.fieldLink RX5 62 "ChargehouseModel" "state" "[I" ∈ wsX5_init := List.mem_cons_of_mem _ (List.mem_append_left _ (List.mem_append_left _ (List.mem_of_getElem? (i := 22) rfl)))
theorem flX5_init_65 : Cond.fieldLink RX5 65 "ChargehouseModel" "charges" "[I" ∈ wsX5_init := List.mem_cons_of_mem _ (List.mem_append_left _ (List.mem_append_left _ (List.mem_of_getElem? (i := 23) rfl)))
theorem flX5_init_68 : Cond.fieldLink RX5 68 "ChargehouseModel" "since" "[I" ∈ wsX5_init := List.mem_cons_of_mem _ (List.mem_append_left _ (List.mem_append_right _ (List.mem_of_getElem? (i := 0) rfl)))
theorem flX5_init_7 : Cond.fieldLink RX5 7 "ChargehouseModel" "sets" "[I" ∈ wsX5_init := List.mem_cons_of_mem _ (List.mem_append_left _ (List.mem_append_left _ (List.mem_of_getElem? (i := 4) rfl)))
theorem flX5_init_71 : Cond.fieldLink RX5 71 "ChargehouseModel" "wasReviewed" "[Z" ∈ wsX5_init := List.mem_cons_of_mem _ (List.mem_append_left _ (List.mem_append_right _ (List.mem_of_getElem? (i := 1) rfl)))
theorem flX5_init_74 : Cond.fieldLink RX5 74 "ChargehouseModel" "isHeld" "[Z" ∈ wsX5_init := List.mem_cons_of_mem _ (List.mem_append_left _ (List.mem_append_right _ (List.mem_of_getElem? (i := 2) rfl)))
theorem flX5_init_77 : Cond.fieldLink RX5 77 "ChargehouseModel" "early" "[I" ∈ wsX5_init := List.mem_cons_of_mem _ (List.mem_append_left _ (List.mem_append_right _ (List.mem_of_getElem? (i := 3) rfl)))
theorem flX5_init_80 : Cond.fieldLink RX5 80 "ChargehouseModel" "later" "[I" ∈ wsX5_init := List.mem_cons_of_mem _ (List.mem_append_left _ (List.mem_append_right _ (List.mem_of_getElem? (i := 4) rfl)))
theorem flX5_init_83 : Cond.fieldLink RX5 83 "ChargehouseModel" "ceiling" "[I" ∈ wsX5_init := List.mem_cons_of_mem _ (List.mem_append_left _ (List.mem_append_right _ (List.mem_of_getElem? (i := 5) rfl)))
theorem flX5_init_86 : Cond.fieldLink RX5 86 "ChargehouseModel" "ranks" "[I" ∈ wsX5_init := List.mem_cons_of_mem _ (List.mem_append_left _ (List.mem_append_right _ (List.mem_of_getElem? (i := 6) rfl)))
theorem flX5_init_89 : Cond.fieldLink RX5 89 "ChargehouseModel" "months" "[I" ∈ wsX5_init := List.mem_cons_of_mem _ (List.mem_append_left _ (List.mem_append_right _ (List.mem_of_getElem? (i := 7) rfl)))
theorem flX5_init_92 : Cond.fieldLink RX5 92 "ChargehouseModel" "convicted" "[I" ∈ wsX5_init := List.mem_cons_of_mem _ (List.mem_append_left _ (List.mem_append_right _ (List.mem_of_getElem? (i := 8) rfl)))
theorem flX5_init_95 : Cond.fieldLink RX5 95 "ChargehouseModel" "ofWhom" "[I" ∈ wsX5_init := List.mem_cons_of_mem _ (List.mem_append_left _ (List.mem_append_right _ (List.mem_of_getElem? (i := 9) rfl)))
theorem flX5_init_98 : Cond.fieldLink RX5 98 "ChargehouseModel" "when" "[I" ∈ wsX5_init := List.mem_cons_of_mem _ (List.mem_append_left _ (List.mem_append_right _ (List.mem_of_getElem? (i := 10) rfl)))
def lX5_init_265 (o : Nat) (Q : hM → Prop) : Nat → hM → Int32 → Prop
  | 0, _, _ => False
  | n + 1, M, a1 =>
    if (48 : Int32) ≤ a1 then (
      Q M
    ) else (
      ∃ x66, gR M 5 29 (some o) = some x66 ∧
      ∃ M67, sI M 0 x66 a1 4 = some M67 ∧
      (lX5_init_265 o Q n) M67 (a1 + 1)
    )
set_option maxRecDepth 100000 in
set_option maxHeartbeats 4000000 in
theorem tlX5_init_265 {κ : hKx} {M0 : hM} {sz : Nat} {o : Nat} {Q : hM → Prop} (E : Ce κ RX5 cX5_init wsX5_init none M0 sz (hQv Q) (fun _ _ => False) 32 2784) (hR : kR κ = rmX5_init) (ht : ∀ x ∈ (kc κ).exceptionTable.toList, False) (hn : (kM κ).name = "<init>")    : ∀ (n : Nat) (M : hM) (a1 : Int32), lX5_init_265 o Q n M a1 → VW κ 32 2784 M 265 [some (va_rf (some o)), some (.int a1)] [] := by
  have F := E.1
  have C := F.1
  intro n
  induction n with
  | zero =>
    intro M a1 h
    unfold lX5_init_265 at h
    exact h.elim
  | succ n ih =>
    intro M a1 h
    unfold lX5_init_265 at h
    refine v_iload_n C (pc := 265) (i := 1) dX5_init_265 rfl ?_
    refine v_bipush C (pc := 266) (v := 48) dX5_init_266 (by decide) ?_
    refine v_icmp_ge C (pc := 268) (tgt := 284) dX5_init_268 (by decide) (fun c65 => ?_) (fun c65 => ?_)
    · rw [if_pos c65] at h
      exact v_eretV (pc := 284) E rfl ⟨rfl, h⟩ (by decide) (by decide) dX5_init_284
    · rw [if_neg c65] at h
      refine v_aload_n C (pc := 271) (i := 0) dX5_init_271 rfl ?_
      obtain ⟨x66, e66, h⟩ := h
      refine v_getR C (pc := 272) (ci := 5) 29 iwX5_init_X5 rfl (by decide) flX5_init_83 e66 dX5_init_272 ?_
      refine v_iload_n C (pc := 275) (i := 1) dX5_init_275 rfl ?_
      refine v_iconst C (pc := 276) (v := 4) dX5_init_276 (by decide) ?_
      obtain ⟨M67, e67, h⟩ := h
      refine v_iast F (pc := 277) e67 dX5_init_277 ?_
      refine v_iinc C (pc := 278) (i := 1) (w := 1) (lv' := [some (va_rf (some o)), some (.int (a1 + 1))]) dX5_init_278 rfl (by decide) rfl ?_
      refine v_goto C (pc := 281) (tgt := 265) dX5_init_281 (by decide) ?_
      exact ih _ _ h
def wX5_init (M : hM) (o : Nat)  (Q : hM → Prop) : Prop :=
  ∀ q1 : Nat, M q1 = none →
  ∃ M2, pV (hst M q1 (.inl (0, 8, .inl (fun _ => 0)))) 5 3 (some o) (va_rf (some q1)) = some M2 ∧
  ∀ q3 : Nat, M2 q3 = none →
  ∃ M4, pV (hst M2 q3 (.inl (0, 8, .inl (fun _ => 0)))) 5 4 (some o) (va_rf (some q3)) = some M4 ∧
  ∀ q5 : Nat, M4 q5 = none →
  ∃ M6, pV (hst M4 q5 (.inl (0, 8, .inl (fun _ => 0)))) 5 5 (some o) (va_rf (some q5)) = some M6 ∧
  ∀ q7 : Nat, M6 q7 = none →
  ∃ M8, pV (hst M6 q7 (.inl (0, 8, .inl (fun _ => 0)))) 5 6 (some o) (va_rf (some q7)) = some M8 ∧
  ∀ q9 : Nat, M8 q9 = none →
  ∃ M10, pV (hst M8 q9 (.inl (0, 6, .inl (fun _ => 0)))) 5 8 (some o) (va_rf (some q9)) = some M10 ∧
  ∀ q11 : Nat, M10 q11 = none →
  ∃ M12, pV (hst M10 q11 (.inl (0, 6, .inl (fun _ => 0)))) 5 9 (some o) (va_rf (some q11)) = some M12 ∧
  ∀ q13 : Nat, M12 q13 = none →
  ∃ M14, pV (hst M12 q13 (.inl (0, 6, .inl (fun _ => 0)))) 5 10 (some o) (va_rf (some q13)) = some M14 ∧
  ∀ q15 : Nat, M14 q15 = none →
  ∃ M16, pV (hst M14 q15 (.inl (0, 40, .inl (fun _ => 0)))) 5 12 (some o) (va_rf (some q15)) = some M16 ∧
  ∀ q17 : Nat, M16 q17 = none →
  ∃ M18, pV (hst M16 q17 (.inl (0, 40, .inl (fun _ => 0)))) 5 13 (some o) (va_rf (some q17)) = some M18 ∧
  ∀ q19 : Nat, M18 q19 = none →
  ∃ M20, pV (hst M18 q19 (.inl (0, 40, .inl (fun _ => 0)))) 5 14 (some o) (va_rf (some q19)) = some M20 ∧
  ∀ q21 : Nat, M20 q21 = none →
  ∃ M22, pV (hst M20 q21 (.inl (0, 40, .inl (fun _ => 0)))) 5 15 (some o) (va_rf (some q21)) = some M22 ∧
  ∀ q23 : Nat, M22 q23 = none →
  ∃ M24, pV (hst M22 q23 (.inl (0, 40, .inl (fun _ => 0)))) 5 16 (some o) (va_rf (some q23)) = some M24 ∧
  ∀ q25 : Nat, M24 q25 = none →
  ∃ M26, pV (hst M24 q25 (.inl (1, 40, .inl (fun _ => 0)))) 5 17 (some o) (va_rf (some q25)) = some M26 ∧
  ∀ q27 : Nat, M26 q27 = none →
  ∃ M28, pV (hst M26 q27 (.inl (0, 40, .inl (fun _ => 0)))) 5 18 (some o) (va_rf (some q27)) = some M28 ∧
  ∀ q29 : Nat, M28 q29 = none →
  ∃ M30, pV (hst M28 q29 (.inl (0, 40, .inl (fun _ => 0)))) 5 19 (some o) (va_rf (some q29)) = some M30 ∧
  ∀ q31 : Nat, M30 q31 = none →
  ∃ M32, pV (hst M30 q31 (.inl (0, 40, .inl (fun _ => 0)))) 5 20 (some o) (va_rf (some q31)) = some M32 ∧
  ∀ q33 : Nat, M32 q33 = none →
  ∃ M34, pV (hst M32 q33 (.inl (1, 40, .inl (fun _ => 0)))) 5 21 (some o) (va_rf (some q33)) = some M34 ∧
  ∀ q35 : Nat, M34 q35 = none →
  ∃ M36, pV (hst M34 q35 (.inl (0, 48, .inl (fun _ => 0)))) 5 22 (some o) (va_rf (some q35)) = some M36 ∧
  ∀ q37 : Nat, M36 q37 = none →
  ∃ M38, pV (hst M36 q37 (.inl (0, 48, .inl (fun _ => 0)))) 5 23 (some o) (va_rf (some q37)) = some M38 ∧
  ∀ q39 : Nat, M38 q39 = none →
  ∃ M40, pV (hst M38 q39 (.inl (0, 48, .inl (fun _ => 0)))) 5 24 (some o) (va_rf (some q39)) = some M40 ∧
  ∀ q41 : Nat, M40 q41 = none →
  ∃ M42, pV (hst M40 q41 (.inl (1, 48, .inl (fun _ => 0)))) 5 25 (some o) (va_rf (some q41)) = some M42 ∧
  ∀ q43 : Nat, M42 q43 = none →
  ∃ M44, pV (hst M42 q43 (.inl (1, 48, .inl (fun _ => 0)))) 5 26 (some o) (va_rf (some q43)) = some M44 ∧
  ∀ q45 : Nat, M44 q45 = none →
  ∃ M46, pV (hst M44 q45 (.inl (0, 48, .inl (fun _ => 0)))) 5 27 (some o) (va_rf (some q45)) = some M46 ∧
  ∀ q47 : Nat, M46 q47 = none →
  ∃ M48, pV (hst M46 q47 (.inl (0, 48, .inl (fun _ => 0)))) 5 28 (some o) (va_rf (some q47)) = some M48 ∧
  ∀ q49 : Nat, M48 q49 = none →
  ∃ M50, pV (hst M48 q49 (.inl (0, 48, .inl (fun _ => 0)))) 5 29 (some o) (va_rf (some q49)) = some M50 ∧
  ∀ q51 : Nat, M50 q51 = none →
  ∃ M52, pV (hst M50 q51 (.inl (0, 48, .inl (fun _ => 0)))) 5 30 (some o) (va_rf (some q51)) = some M52 ∧
  ∀ q53 : Nat, M52 q53 = none →
  ∃ M54, pV (hst M52 q53 (.inl (0, 48, .inl (fun _ => 0)))) 5 31 (some o) (va_rf (some q53)) = some M54 ∧
  ∀ q55 : Nat, M54 q55 = none →
  ∃ M56, pV (hst M54 q55 (.inl (0, 48, .inl (fun _ => 0)))) 5 32 (some o) (va_rf (some q55)) = some M56 ∧
  ∀ q57 : Nat, M56 q57 = none →
  ∃ M58, pV (hst M56 q57 (.inl (0, 600, .inl (fun _ => 0)))) 5 34 (some o) (va_rf (some q57)) = some M58 ∧
  ∀ q59 : Nat, M58 q59 = none →
  ∃ M60, pV (hst M58 q59 (.inl (0, 600, .inl (fun _ => 0)))) 5 35 (some o) (va_rf (some q59)) = some M60 ∧
  ∀ q61 : Nat, M60 q61 = none →
  ∃ M62, pV (hst M60 q61 (.inl (0, 600, .inl (fun _ => 0)))) 5 36 (some o) (va_rf (some q61)) = some M62 ∧
  ∀ q63 : Nat, M62 q63 = none →
  ∃ M64, pV (hst M62 q63 (.inl (0, 6, .inl (fun _ => 0)))) 5 37 (some o) (va_rf (some q63)) = some M64 ∧
  lX5_init_265 o Q 1000 M64 0
set_option maxRecDepth 100000 in
set_option maxHeartbeats 4000000 in
theorem cX5_init_met (l : Launch) (hfl : l.stackTraces = false) (G : hG) (M : hM) {o : Nat}  {Q : hM → Prop} (h : wX5_init M o Q) : hEMet l yX5_init wsX5_init rmX5_init [.ref o] G M (hQv Q) (fun _ _ => False) 32 2784 := by
  refine he_entry (own := RX5) (cc := cX5_init) (maxL := 2) (ret := none) (lv := [some (va_rf (some o)), none]) hfl (by decide) rfl rfl (hcc rfl hc0) (Nat.le_of_ble_eq_true rfl) rfl (fun κ sz hG hl hR E ht hn => ?_)
  subst hG; subst hl
  have hn := hn rfl
  unfold wX5_init at h
  have F := E.1
  have C := F.1
  refine v_aload_n C (pc := 0) (i := 0) dX5_init_0 rfl ?_
  refine v_objInit C (pc := 1) (r := some o) rfl (List.mem_cons_of_mem _ (List.mem_append_left _ (List.mem_append_left _ (List.mem_of_getElem? (i := 0) rfl)))) (List.mem_cons_of_mem _ (List.mem_append_left _ (List.mem_append_left _ (List.mem_of_getElem? (i := 1) rfl)))) (List.mem_cons_of_mem _ (List.mem_append_left _ (List.mem_append_left _ (List.mem_of_getElem? (i := 2) rfl)))) (by rw [hR]; decide) (by rw [hR]; exact Nat.le_of_ble_eq_true rfl) dX5_init_1 ?_
  refine v_aload_n C (pc := 4) (i := 0) dX5_init_4 rfl ?_
  refine v_bipush C (pc := 5) (v := 8) dX5_init_5 (by decide) ?_
  refine v_newa F (pc := 7) 0 (atype := .int) (ty := .int) (N := 8) (x := (8, .inl (fun _ => 0))) rfl (List.mem_cons_of_mem _ (List.mem_append_left _ (List.mem_append_left _ (List.mem_of_getElem? (i := 3) rfl)))) rfl (fun q => q) (fun _ => rfl) (by decide) (by decide) (by decide) (by rw [hR]; decide) (by rw [hR]; decide) dX5_init_7 (fun q1 hqq1 => ?_)
  have h := h q1 hqq1
  obtain ⟨M2, e2, h⟩ := h
  refine v_putF F (pc := 9) (ci := 5) (ty := tyX5 3) 3 iwX5_init_X5 tyX5 tyX5_ok nmX5 rfl (by decide) flX5_init_7 rfl hn rfl rfl (nar_refA _ _) (fit_refA _ _) e2 dX5_init_9 ?_
  refine v_aload_n C (pc := 12) (i := 0) dX5_init_12 rfl ?_
  refine v_bipush C (pc := 13) (v := 8) dX5_init_13 (by decide) ?_
  refine v_newa F (pc := 15) 0 (atype := .int) (ty := .int) (N := 8) (x := (8, .inl (fun _ => 0))) rfl (List.mem_cons_of_mem _ (List.mem_append_left _ (List.mem_append_left _ (List.mem_of_getElem? (i := 3) rfl)))) rfl (fun q => q) (fun _ => rfl) (by decide) (by decide) (by decide) (by rw [hR]; decide) (by rw [hR]; decide) dX5_init_15 (fun q3 hqq3 => ?_)
  have h := h q3 hqq3
  obtain ⟨M4, e4, h⟩ := h
  refine v_putF F (pc := 17) (ci := 5) (ty := tyX5 4) 4 iwX5_init_X5 tyX5 tyX5_ok nmX5 rfl (by decide) flX5_init_13 rfl hn rfl rfl (nar_refA _ _) (fit_refA _ _) e4 dX5_init_17 ?_
  refine v_aload_n C (pc := 20) (i := 0) dX5_init_20 rfl ?_
  refine v_bipush C (pc := 21) (v := 8) dX5_init_21 (by decide) ?_
  refine v_newa F (pc := 23) 0 (atype := .int) (ty := .int) (N := 8) (x := (8, .inl (fun _ => 0))) rfl (List.mem_cons_of_mem _ (List.mem_append_left _ (List.mem_append_left _ (List.mem_of_getElem? (i := 3) rfl)))) rfl (fun q => q) (fun _ => rfl) (by decide) (by decide) (by decide) (by rw [hR]; decide) (by rw [hR]; decide) dX5_init_23 (fun q5 hqq5 => ?_)
  have h := h q5 hqq5
  obtain ⟨M6, e6, h⟩ := h
  refine v_putF F (pc := 25) (ci := 5) (ty := tyX5 5) 5 iwX5_init_X5 tyX5 tyX5_ok nmX5 rfl (by decide) flX5_init_16 rfl hn rfl rfl (nar_refA _ _) (fit_refA _ _) e6 dX5_init_25 ?_
  refine v_aload_n C (pc := 28) (i := 0) dX5_init_28 rfl ?_
  refine v_bipush C (pc := 29) (v := 8) dX5_init_29 (by decide) ?_
  refine v_newa F (pc := 31) 0 (atype := .int) (ty := .int) (N := 8) (x := (8, .inl (fun _ => 0))) rfl (List.mem_cons_of_mem _ (List.mem_append_left _ (List.mem_append_left _ (List.mem_of_getElem? (i := 3) rfl)))) rfl (fun q => q) (fun _ => rfl) (by decide) (by decide) (by decide) (by rw [hR]; decide) (by rw [hR]; decide) dX5_init_31 (fun q7 hqq7 => ?_)
  have h := h q7 hqq7
  obtain ⟨M8, e8, h⟩ := h
  refine v_putF F (pc := 33) (ci := 5) (ty := tyX5 6) 6 iwX5_init_X5 tyX5 tyX5_ok nmX5 rfl (by decide) flX5_init_19 rfl hn rfl rfl (nar_refA _ _) (fit_refA _ _) e8 dX5_init_33 ?_
  refine v_aload_n C (pc := 36) (i := 0) dX5_init_36 rfl ?_
  refine v_bipush C (pc := 37) (v := 6) dX5_init_37 (by decide) ?_
  refine v_newa F (pc := 39) 0 (atype := .int) (ty := .int) (N := 6) (x := (6, .inl (fun _ => 0))) rfl (List.mem_cons_of_mem _ (List.mem_append_left _ (List.mem_append_left _ (List.mem_of_getElem? (i := 3) rfl)))) rfl (fun q => q) (fun _ => rfl) (by decide) (by decide) (by decide) (by rw [hR]; decide) (by rw [hR]; decide) dX5_init_39 (fun q9 hqq9 => ?_)
  have h := h q9 hqq9
  obtain ⟨M10, e10, h⟩ := h
  refine v_putF F (pc := 41) (ci := 5) (ty := tyX5 8) 8 iwX5_init_X5 tyX5 tyX5_ok nmX5 rfl (by decide) flX5_init_22 rfl hn rfl rfl (nar_refA _ _) (fit_refA _ _) e10 dX5_init_41 ?_
  refine v_aload_n C (pc := 44) (i := 0) dX5_init_44 rfl ?_
  refine v_bipush C (pc := 45) (v := 6) dX5_init_45 (by decide) ?_
  refine v_newa F (pc := 47) 0 (atype := .int) (ty := .int) (N := 6) (x := (6, .inl (fun _ => 0))) rfl (List.mem_cons_of_mem _ (List.mem_append_left _ (List.mem_append_left _ (List.mem_of_getElem? (i := 3) rfl)))) rfl (fun q => q) (fun _ => rfl) (by decide) (by decide) (by decide) (by rw [hR]; decide) (by rw [hR]; decide) dX5_init_47 (fun q11 hqq11 => ?_)
  have h := h q11 hqq11
  obtain ⟨M12, e12, h⟩ := h
  refine v_putF F (pc := 49) (ci := 5) (ty := tyX5 9) 9 iwX5_init_X5 tyX5 tyX5_ok nmX5 rfl (by decide) flX5_init_25 rfl hn rfl rfl (nar_refA _ _) (fit_refA _ _) e12 dX5_init_49 ?_
  refine v_aload_n C (pc := 52) (i := 0) dX5_init_52 rfl ?_
  refine v_bipush C (pc := 53) (v := 6) dX5_init_53 (by decide) ?_
  refine v_newa F (pc := 55) 0 (atype := .int) (ty := .int) (N := 6) (x := (6, .inl (fun _ => 0))) rfl (List.mem_cons_of_mem _ (List.mem_append_left _ (List.mem_append_left _ (List.mem_of_getElem? (i := 3) rfl)))) rfl (fun q => q) (fun _ => rfl) (by decide) (by decide) (by decide) (by rw [hR]; decide) (by rw [hR]; decide) dX5_init_55 (fun q13 hqq13 => ?_)
  have h := h q13 hqq13
  obtain ⟨M14, e14, h⟩ := h
  refine v_putF F (pc := 57) (ci := 5) (ty := tyX5 10) 10 iwX5_init_X5 tyX5 tyX5_ok nmX5 rfl (by decide) flX5_init_28 rfl hn rfl rfl (nar_refA _ _) (fit_refA _ _) e14 dX5_init_57 ?_
  refine v_aload_n C (pc := 60) (i := 0) dX5_init_60 rfl ?_
  refine v_bipush C (pc := 61) (v := 40) dX5_init_61 (by decide) ?_
  refine v_newa F (pc := 63) 0 (atype := .int) (ty := .int) (N := 40) (x := (40, .inl (fun _ => 0))) rfl (List.mem_cons_of_mem _ (List.mem_append_left _ (List.mem_append_left _ (List.mem_of_getElem? (i := 3) rfl)))) rfl (fun q => q) (fun _ => rfl) (by decide) (by decide) (by decide) (by rw [hR]; decide) (by rw [hR]; decide) dX5_init_63 (fun q15 hqq15 => ?_)
  have h := h q15 hqq15
  obtain ⟨M16, e16, h⟩ := h
  refine v_putF F (pc := 65) (ci := 5) (ty := tyX5 12) 12 iwX5_init_X5 tyX5 tyX5_ok nmX5 rfl (by decide) flX5_init_31 rfl hn rfl rfl (nar_refA _ _) (fit_refA _ _) e16 dX5_init_65 ?_
  refine v_aload_n C (pc := 68) (i := 0) dX5_init_68 rfl ?_
  refine v_bipush C (pc := 69) (v := 40) dX5_init_69 (by decide) ?_
  refine v_newa F (pc := 71) 0 (atype := .int) (ty := .int) (N := 40) (x := (40, .inl (fun _ => 0))) rfl (List.mem_cons_of_mem _ (List.mem_append_left _ (List.mem_append_left _ (List.mem_of_getElem? (i := 3) rfl)))) rfl (fun q => q) (fun _ => rfl) (by decide) (by decide) (by decide) (by rw [hR]; decide) (by rw [hR]; decide) dX5_init_71 (fun q17 hqq17 => ?_)
  have h := h q17 hqq17
  obtain ⟨M18, e18, h⟩ := h
  refine v_putF F (pc := 73) (ci := 5) (ty := tyX5 13) 13 iwX5_init_X5 tyX5 tyX5_ok nmX5 rfl (by decide) flX5_init_34 rfl hn rfl rfl (nar_refA _ _) (fit_refA _ _) e18 dX5_init_73 ?_
  refine v_aload_n C (pc := 76) (i := 0) dX5_init_76 rfl ?_
  refine v_bipush C (pc := 77) (v := 40) dX5_init_77 (by decide) ?_
  refine v_newa F (pc := 79) 0 (atype := .int) (ty := .int) (N := 40) (x := (40, .inl (fun _ => 0))) rfl (List.mem_cons_of_mem _ (List.mem_append_left _ (List.mem_append_left _ (List.mem_of_getElem? (i := 3) rfl)))) rfl (fun q => q) (fun _ => rfl) (by decide) (by decide) (by decide) (by rw [hR]; decide) (by rw [hR]; decide) dX5_init_79 (fun q19 hqq19 => ?_)
  have h := h q19 hqq19
  obtain ⟨M20, e20, h⟩ := h
  refine v_putF F (pc := 81) (ci := 5) (ty := tyX5 14) 14 iwX5_init_X5 tyX5 tyX5_ok nmX5 rfl (by decide) flX5_init_37 rfl hn rfl rfl (nar_refA _ _) (fit_refA _ _) e20 dX5_init_81 ?_
  refine v_aload_n C (pc := 84) (i := 0) dX5_init_84 rfl ?_
  refine v_bipush C (pc := 85) (v := 40) dX5_init_85 (by decide) ?_
  refine v_newa F (pc := 87) 0 (atype := .int) (ty := .int) (N := 40) (x := (40, .inl (fun _ => 0))) rfl (List.mem_cons_of_mem _ (List.mem_append_left _ (List.mem_append_left _ (List.mem_of_getElem? (i := 3) rfl)))) rfl (fun q => q) (fun _ => rfl) (by decide) (by decide) (by decide) (by rw [hR]; decide) (by rw [hR]; decide) dX5_init_87 (fun q21 hqq21 => ?_)
  have h := h q21 hqq21
  obtain ⟨M22, e22, h⟩ := h
  refine v_putF F (pc := 89) (ci := 5) (ty := tyX5 15) 15 iwX5_init_X5 tyX5 tyX5_ok nmX5 rfl (by decide) flX5_init_40 rfl hn rfl rfl (nar_refA _ _) (fit_refA _ _) e22 dX5_init_89 ?_
  refine v_aload_n C (pc := 92) (i := 0) dX5_init_92 rfl ?_
  refine v_bipush C (pc := 93) (v := 40) dX5_init_93 (by decide) ?_
  refine v_newa F (pc := 95) 0 (atype := .int) (ty := .int) (N := 40) (x := (40, .inl (fun _ => 0))) rfl (List.mem_cons_of_mem _ (List.mem_append_left _ (List.mem_append_left _ (List.mem_of_getElem? (i := 3) rfl)))) rfl (fun q => q) (fun _ => rfl) (by decide) (by decide) (by decide) (by rw [hR]; decide) (by rw [hR]; decide) dX5_init_95 (fun q23 hqq23 => ?_)
  have h := h q23 hqq23
  obtain ⟨M24, e24, h⟩ := h
  refine v_putF F (pc := 97) (ci := 5) (ty := tyX5 16) 16 iwX5_init_X5 tyX5 tyX5_ok nmX5 rfl (by decide) flX5_init_43 rfl hn rfl rfl (nar_refA _ _) (fit_refA _ _) e24 dX5_init_97 ?_
  refine v_aload_n C (pc := 100) (i := 0) dX5_init_100 rfl ?_
  refine v_bipush C (pc := 101) (v := 40) dX5_init_101 (by decide) ?_
  refine v_newa F (pc := 103) 1 (atype := .boolean) (ty := .boolean) (N := 40) (x := (40, .inl (fun _ => 0))) rfl (List.mem_cons_of_mem _ (List.mem_append_left _ (List.mem_append_left _ (List.mem_of_getElem? (i := 16) rfl)))) rfl (fun q => q) (fun _ => rfl) (by decide) (by decide) (by decide) (by rw [hR]; decide) (by rw [hR]; decide) dX5_init_103 (fun q25 hqq25 => ?_)
  have h := h q25 hqq25
  obtain ⟨M26, e26, h⟩ := h
  refine v_putF F (pc := 105) (ci := 5) (ty := tyX5 17) 17 iwX5_init_X5 tyX5 tyX5_ok nmX5 rfl (by decide) flX5_init_46 rfl hn rfl rfl (nar_refA _ _) (fit_refA _ _) e26 dX5_init_105 ?_
  refine v_aload_n C (pc := 108) (i := 0) dX5_init_108 rfl ?_
  refine v_bipush C (pc := 109) (v := 40) dX5_init_109 (by decide) ?_
  refine v_newa F (pc := 111) 0 (atype := .int) (ty := .int) (N := 40) (x := (40, .inl (fun _ => 0))) rfl (List.mem_cons_of_mem _ (List.mem_append_left _ (List.mem_append_left _ (List.mem_of_getElem? (i := 3) rfl)))) rfl (fun q => q) (fun _ => rfl) (by decide) (by decide) (by decide) (by rw [hR]; decide) (by rw [hR]; decide) dX5_init_111 (fun q27 hqq27 => ?_)
  have h := h q27 hqq27
  obtain ⟨M28, e28, h⟩ := h
  refine v_putF F (pc := 113) (ci := 5) (ty := tyX5 18) 18 iwX5_init_X5 tyX5 tyX5_ok nmX5 rfl (by decide) flX5_init_50 rfl hn rfl rfl (nar_refA _ _) (fit_refA _ _) e28 dX5_init_113 ?_
  refine v_aload_n C (pc := 116) (i := 0) dX5_init_116 rfl ?_
  refine v_bipush C (pc := 117) (v := 40) dX5_init_117 (by decide) ?_
  refine v_newa F (pc := 119) 0 (atype := .int) (ty := .int) (N := 40) (x := (40, .inl (fun _ => 0))) rfl (List.mem_cons_of_mem _ (List.mem_append_left _ (List.mem_append_left _ (List.mem_of_getElem? (i := 3) rfl)))) rfl (fun q => q) (fun _ => rfl) (by decide) (by decide) (by decide) (by rw [hR]; decide) (by rw [hR]; decide) dX5_init_119 (fun q29 hqq29 => ?_)
  have h := h q29 hqq29
  obtain ⟨M30, e30, h⟩ := h
  refine v_putF F (pc := 121) (ci := 5) (ty := tyX5 19) 19 iwX5_init_X5 tyX5 tyX5_ok nmX5 rfl (by decide) flX5_init_53 rfl hn rfl rfl (nar_refA _ _) (fit_refA _ _) e30 dX5_init_121 ?_
  refine v_aload_n C (pc := 124) (i := 0) dX5_init_124 rfl ?_
  refine v_bipush C (pc := 125) (v := 40) dX5_init_125 (by decide) ?_
  refine v_newa F (pc := 127) 0 (atype := .int) (ty := .int) (N := 40) (x := (40, .inl (fun _ => 0))) rfl (List.mem_cons_of_mem _ (List.mem_append_left _ (List.mem_append_left _ (List.mem_of_getElem? (i := 3) rfl)))) rfl (fun q => q) (fun _ => rfl) (by decide) (by decide) (by decide) (by rw [hR]; decide) (by rw [hR]; decide) dX5_init_127 (fun q31 hqq31 => ?_)
  have h := h q31 hqq31
  obtain ⟨M32, e32, h⟩ := h
  refine v_putF F (pc := 129) (ci := 5) (ty := tyX5 20) 20 iwX5_init_X5 tyX5 tyX5_ok nmX5 rfl (by decide) flX5_init_56 rfl hn rfl rfl (nar_refA _ _) (fit_refA _ _) e32 dX5_init_129 ?_
  refine v_aload_n C (pc := 132) (i := 0) dX5_init_132 rfl ?_
  refine v_bipush C (pc := 133) (v := 40) dX5_init_133 (by decide) ?_
  refine v_newa F (pc := 135) 1 (atype := .boolean) (ty := .boolean) (N := 40) (x := (40, .inl (fun _ => 0))) rfl (List.mem_cons_of_mem _ (List.mem_append_left _ (List.mem_append_left _ (List.mem_of_getElem? (i := 16) rfl)))) rfl (fun q => q) (fun _ => rfl) (by decide) (by decide) (by decide) (by rw [hR]; decide) (by rw [hR]; decide) dX5_init_135 (fun q33 hqq33 => ?_)
  have h := h q33 hqq33
  obtain ⟨M34, e34, h⟩ := h
  refine v_putF F (pc := 137) (ci := 5) (ty := tyX5 21) 21 iwX5_init_X5 tyX5 tyX5_ok nmX5 rfl (by decide) flX5_init_59 rfl hn rfl rfl (nar_refA _ _) (fit_refA _ _) e34 dX5_init_137 ?_
  refine v_aload_n C (pc := 140) (i := 0) dX5_init_140 rfl ?_
  refine v_bipush C (pc := 141) (v := 48) dX5_init_141 (by decide) ?_
  refine v_newa F (pc := 143) 0 (atype := .int) (ty := .int) (N := 48) (x := (48, .inl (fun _ => 0))) rfl (List.mem_cons_of_mem _ (List.mem_append_left _ (List.mem_append_left _ (List.mem_of_getElem? (i := 3) rfl)))) rfl (fun q => q) (fun _ => rfl) (by decide) (by decide) (by decide) (by rw [hR]; decide) (by rw [hR]; decide) dX5_init_143 (fun q35 hqq35 => ?_)
  have h := h q35 hqq35
  obtain ⟨M36, e36, h⟩ := h
  refine v_putF F (pc := 145) (ci := 5) (ty := tyX5 22) 22 iwX5_init_X5 tyX5 tyX5_ok nmX5 rfl (by decide) flX5_init_62 rfl hn rfl rfl (nar_refA _ _) (fit_refA _ _) e36 dX5_init_145 ?_
  refine v_aload_n C (pc := 148) (i := 0) dX5_init_148 rfl ?_
  refine v_bipush C (pc := 149) (v := 48) dX5_init_149 (by decide) ?_
  refine v_newa F (pc := 151) 0 (atype := .int) (ty := .int) (N := 48) (x := (48, .inl (fun _ => 0))) rfl (List.mem_cons_of_mem _ (List.mem_append_left _ (List.mem_append_left _ (List.mem_of_getElem? (i := 3) rfl)))) rfl (fun q => q) (fun _ => rfl) (by decide) (by decide) (by decide) (by rw [hR]; decide) (by rw [hR]; decide) dX5_init_151 (fun q37 hqq37 => ?_)
  have h := h q37 hqq37
  obtain ⟨M38, e38, h⟩ := h
  refine v_putF F (pc := 153) (ci := 5) (ty := tyX5 23) 23 iwX5_init_X5 tyX5 tyX5_ok nmX5 rfl (by decide) flX5_init_65 rfl hn rfl rfl (nar_refA _ _) (fit_refA _ _) e38 dX5_init_153 ?_
  refine v_aload_n C (pc := 156) (i := 0) dX5_init_156 rfl ?_
  refine v_bipush C (pc := 157) (v := 48) dX5_init_157 (by decide) ?_
  refine v_newa F (pc := 159) 0 (atype := .int) (ty := .int) (N := 48) (x := (48, .inl (fun _ => 0))) rfl (List.mem_cons_of_mem _ (List.mem_append_left _ (List.mem_append_left _ (List.mem_of_getElem? (i := 3) rfl)))) rfl (fun q => q) (fun _ => rfl) (by decide) (by decide) (by decide) (by rw [hR]; decide) (by rw [hR]; decide) dX5_init_159 (fun q39 hqq39 => ?_)
  have h := h q39 hqq39
  obtain ⟨M40, e40, h⟩ := h
  refine v_putF F (pc := 161) (ci := 5) (ty := tyX5 24) 24 iwX5_init_X5 tyX5 tyX5_ok nmX5 rfl (by decide) flX5_init_68 rfl hn rfl rfl (nar_refA _ _) (fit_refA _ _) e40 dX5_init_161 ?_
  refine v_aload_n C (pc := 164) (i := 0) dX5_init_164 rfl ?_
  refine v_bipush C (pc := 165) (v := 48) dX5_init_165 (by decide) ?_
  refine v_newa F (pc := 167) 1 (atype := .boolean) (ty := .boolean) (N := 48) (x := (48, .inl (fun _ => 0))) rfl (List.mem_cons_of_mem _ (List.mem_append_left _ (List.mem_append_left _ (List.mem_of_getElem? (i := 16) rfl)))) rfl (fun q => q) (fun _ => rfl) (by decide) (by decide) (by decide) (by rw [hR]; decide) (by rw [hR]; decide) dX5_init_167 (fun q41 hqq41 => ?_)
  have h := h q41 hqq41
  obtain ⟨M42, e42, h⟩ := h
  refine v_putF F (pc := 169) (ci := 5) (ty := tyX5 25) 25 iwX5_init_X5 tyX5 tyX5_ok nmX5 rfl (by decide) flX5_init_71 rfl hn rfl rfl (nar_refA _ _) (fit_refA _ _) e42 dX5_init_169 ?_
  refine v_aload_n C (pc := 172) (i := 0) dX5_init_172 rfl ?_
  refine v_bipush C (pc := 173) (v := 48) dX5_init_173 (by decide) ?_
  refine v_newa F (pc := 175) 1 (atype := .boolean) (ty := .boolean) (N := 48) (x := (48, .inl (fun _ => 0))) rfl (List.mem_cons_of_mem _ (List.mem_append_left _ (List.mem_append_left _ (List.mem_of_getElem? (i := 16) rfl)))) rfl (fun q => q) (fun _ => rfl) (by decide) (by decide) (by decide) (by rw [hR]; decide) (by rw [hR]; decide) dX5_init_175 (fun q43 hqq43 => ?_)
  have h := h q43 hqq43
  obtain ⟨M44, e44, h⟩ := h
  refine v_putF F (pc := 177) (ci := 5) (ty := tyX5 26) 26 iwX5_init_X5 tyX5 tyX5_ok nmX5 rfl (by decide) flX5_init_74 rfl hn rfl rfl (nar_refA _ _) (fit_refA _ _) e44 dX5_init_177 ?_
  refine v_aload_n C (pc := 180) (i := 0) dX5_init_180 rfl ?_
  refine v_bipush C (pc := 181) (v := 48) dX5_init_181 (by decide) ?_
  refine v_newa F (pc := 183) 0 (atype := .int) (ty := .int) (N := 48) (x := (48, .inl (fun _ => 0))) rfl (List.mem_cons_of_mem _ (List.mem_append_left _ (List.mem_append_left _ (List.mem_of_getElem? (i := 3) rfl)))) rfl (fun q => q) (fun _ => rfl) (by decide) (by decide) (by decide) (by rw [hR]; decide) (by rw [hR]; decide) dX5_init_183 (fun q45 hqq45 => ?_)
  have h := h q45 hqq45
  obtain ⟨M46, e46, h⟩ := h
  refine v_putF F (pc := 185) (ci := 5) (ty := tyX5 27) 27 iwX5_init_X5 tyX5 tyX5_ok nmX5 rfl (by decide) flX5_init_77 rfl hn rfl rfl (nar_refA _ _) (fit_refA _ _) e46 dX5_init_185 ?_
  refine v_aload_n C (pc := 188) (i := 0) dX5_init_188 rfl ?_
  refine v_bipush C (pc := 189) (v := 48) dX5_init_189 (by decide) ?_
  refine v_newa F (pc := 191) 0 (atype := .int) (ty := .int) (N := 48) (x := (48, .inl (fun _ => 0))) rfl (List.mem_cons_of_mem _ (List.mem_append_left _ (List.mem_append_left _ (List.mem_of_getElem? (i := 3) rfl)))) rfl (fun q => q) (fun _ => rfl) (by decide) (by decide) (by decide) (by rw [hR]; decide) (by rw [hR]; decide) dX5_init_191 (fun q47 hqq47 => ?_)
  have h := h q47 hqq47
  obtain ⟨M48, e48, h⟩ := h
  refine v_putF F (pc := 193) (ci := 5) (ty := tyX5 28) 28 iwX5_init_X5 tyX5 tyX5_ok nmX5 rfl (by decide) flX5_init_80 rfl hn rfl rfl (nar_refA _ _) (fit_refA _ _) e48 dX5_init_193 ?_
  refine v_aload_n C (pc := 196) (i := 0) dX5_init_196 rfl ?_
  refine v_bipush C (pc := 197) (v := 48) dX5_init_197 (by decide) ?_
  refine v_newa F (pc := 199) 0 (atype := .int) (ty := .int) (N := 48) (x := (48, .inl (fun _ => 0))) rfl (List.mem_cons_of_mem _ (List.mem_append_left _ (List.mem_append_left _ (List.mem_of_getElem? (i := 3) rfl)))) rfl (fun q => q) (fun _ => rfl) (by decide) (by decide) (by decide) (by rw [hR]; decide) (by rw [hR]; decide) dX5_init_199 (fun q49 hqq49 => ?_)
  have h := h q49 hqq49
  obtain ⟨M50, e50, h⟩ := h
  refine v_putF F (pc := 201) (ci := 5) (ty := tyX5 29) 29 iwX5_init_X5 tyX5 tyX5_ok nmX5 rfl (by decide) flX5_init_83 rfl hn rfl rfl (nar_refA _ _) (fit_refA _ _) e50 dX5_init_201 ?_
  refine v_aload_n C (pc := 204) (i := 0) dX5_init_204 rfl ?_
  refine v_bipush C (pc := 205) (v := 48) dX5_init_205 (by decide) ?_
  refine v_newa F (pc := 207) 0 (atype := .int) (ty := .int) (N := 48) (x := (48, .inl (fun _ => 0))) rfl (List.mem_cons_of_mem _ (List.mem_append_left _ (List.mem_append_left _ (List.mem_of_getElem? (i := 3) rfl)))) rfl (fun q => q) (fun _ => rfl) (by decide) (by decide) (by decide) (by rw [hR]; decide) (by rw [hR]; decide) dX5_init_207 (fun q51 hqq51 => ?_)
  have h := h q51 hqq51
  obtain ⟨M52, e52, h⟩ := h
  refine v_putF F (pc := 209) (ci := 5) (ty := tyX5 30) 30 iwX5_init_X5 tyX5 tyX5_ok nmX5 rfl (by decide) flX5_init_86 rfl hn rfl rfl (nar_refA _ _) (fit_refA _ _) e52 dX5_init_209 ?_
  refine v_aload_n C (pc := 212) (i := 0) dX5_init_212 rfl ?_
  refine v_bipush C (pc := 213) (v := 48) dX5_init_213 (by decide) ?_
  refine v_newa F (pc := 215) 0 (atype := .int) (ty := .int) (N := 48) (x := (48, .inl (fun _ => 0))) rfl (List.mem_cons_of_mem _ (List.mem_append_left _ (List.mem_append_left _ (List.mem_of_getElem? (i := 3) rfl)))) rfl (fun q => q) (fun _ => rfl) (by decide) (by decide) (by decide) (by rw [hR]; decide) (by rw [hR]; decide) dX5_init_215 (fun q53 hqq53 => ?_)
  have h := h q53 hqq53
  obtain ⟨M54, e54, h⟩ := h
  refine v_putF F (pc := 217) (ci := 5) (ty := tyX5 31) 31 iwX5_init_X5 tyX5 tyX5_ok nmX5 rfl (by decide) flX5_init_89 rfl hn rfl rfl (nar_refA _ _) (fit_refA _ _) e54 dX5_init_217 ?_
  refine v_aload_n C (pc := 220) (i := 0) dX5_init_220 rfl ?_
  refine v_bipush C (pc := 221) (v := 48) dX5_init_221 (by decide) ?_
  refine v_newa F (pc := 223) 0 (atype := .int) (ty := .int) (N := 48) (x := (48, .inl (fun _ => 0))) rfl (List.mem_cons_of_mem _ (List.mem_append_left _ (List.mem_append_left _ (List.mem_of_getElem? (i := 3) rfl)))) rfl (fun q => q) (fun _ => rfl) (by decide) (by decide) (by decide) (by rw [hR]; decide) (by rw [hR]; decide) dX5_init_223 (fun q55 hqq55 => ?_)
  have h := h q55 hqq55
  obtain ⟨M56, e56, h⟩ := h
  refine v_putF F (pc := 225) (ci := 5) (ty := tyX5 32) 32 iwX5_init_X5 tyX5 tyX5_ok nmX5 rfl (by decide) flX5_init_92 rfl hn rfl rfl (nar_refA _ _) (fit_refA _ _) e56 dX5_init_225 ?_
  refine v_aload_n C (pc := 228) (i := 0) dX5_init_228 rfl ?_
  refine v_sipush C (pc := 229) (v := 600) dX5_init_229 (by decide) ?_
  refine v_newa F (pc := 232) 0 (atype := .int) (ty := .int) (N := 600) (x := (600, .inl (fun _ => 0))) rfl (List.mem_cons_of_mem _ (List.mem_append_left _ (List.mem_append_left _ (List.mem_of_getElem? (i := 3) rfl)))) rfl (fun q => q) (fun _ => rfl) (by decide) (by decide) (by decide) (by rw [hR]; decide) (by rw [hR]; decide) dX5_init_232 (fun q57 hqq57 => ?_)
  have h := h q57 hqq57
  obtain ⟨M58, e58, h⟩ := h
  refine v_putF F (pc := 234) (ci := 5) (ty := tyX5 34) 34 iwX5_init_X5 tyX5 tyX5_ok nmX5 rfl (by decide) flX5_init_95 rfl hn rfl rfl (nar_refA _ _) (fit_refA _ _) e58 dX5_init_234 ?_
  refine v_aload_n C (pc := 237) (i := 0) dX5_init_237 rfl ?_
  refine v_sipush C (pc := 238) (v := 600) dX5_init_238 (by decide) ?_
  refine v_newa F (pc := 241) 0 (atype := .int) (ty := .int) (N := 600) (x := (600, .inl (fun _ => 0))) rfl (List.mem_cons_of_mem _ (List.mem_append_left _ (List.mem_append_left _ (List.mem_of_getElem? (i := 3) rfl)))) rfl (fun q => q) (fun _ => rfl) (by decide) (by decide) (by decide) (by rw [hR]; decide) (by rw [hR]; decide) dX5_init_241 (fun q59 hqq59 => ?_)
  have h := h q59 hqq59
  obtain ⟨M60, e60, h⟩ := h
  refine v_putF F (pc := 243) (ci := 5) (ty := tyX5 35) 35 iwX5_init_X5 tyX5 tyX5_ok nmX5 rfl (by decide) flX5_init_98 rfl hn rfl rfl (nar_refA _ _) (fit_refA _ _) e60 dX5_init_243 ?_
  refine v_aload_n C (pc := 246) (i := 0) dX5_init_246 rfl ?_
  refine v_sipush C (pc := 247) (v := 600) dX5_init_247 (by decide) ?_
  refine v_newa F (pc := 250) 0 (atype := .int) (ty := .int) (N := 600) (x := (600, .inl (fun _ => 0))) rfl (List.mem_cons_of_mem _ (List.mem_append_left _ (List.mem_append_left _ (List.mem_of_getElem? (i := 3) rfl)))) rfl (fun q => q) (fun _ => rfl) (by decide) (by decide) (by decide) (by rw [hR]; decide) (by rw [hR]; decide) dX5_init_250 (fun q61 hqq61 => ?_)
  have h := h q61 hqq61
  obtain ⟨M62, e62, h⟩ := h
  refine v_putF F (pc := 252) (ci := 5) (ty := tyX5 36) 36 iwX5_init_X5 tyX5 tyX5_ok nmX5 rfl (by decide) flX5_init_101 rfl hn rfl rfl (nar_refA _ _) (fit_refA _ _) e62 dX5_init_252 ?_
  refine v_aload_n C (pc := 255) (i := 0) dX5_init_255 rfl ?_
  refine v_bipush C (pc := 256) (v := 6) dX5_init_256 (by decide) ?_
  refine v_newa F (pc := 258) 0 (atype := .int) (ty := .int) (N := 6) (x := (6, .inl (fun _ => 0))) rfl (List.mem_cons_of_mem _ (List.mem_append_left _ (List.mem_append_left _ (List.mem_of_getElem? (i := 3) rfl)))) rfl (fun q => q) (fun _ => rfl) (by decide) (by decide) (by decide) (by rw [hR]; decide) (by rw [hR]; decide) dX5_init_258 (fun q63 hqq63 => ?_)
  have h := h q63 hqq63
  obtain ⟨M64, e64, h⟩ := h
  refine v_putF F (pc := 260) (ci := 5) (ty := tyX5 37) 37 iwX5_init_X5 tyX5 tyX5_ok nmX5 rfl (by decide) flX5_init_104 rfl hn rfl rfl (nar_refA _ _) (fit_refA _ _) e64 dX5_init_260 ?_
  refine v_iconst C (pc := 263) (v := 0) dX5_init_263 (by decide) ?_
  refine v_istore_n C (pc := 264) (i := 1) (lv' := [some (va_rf (some o)), some (.int 0)]) dX5_init_264 rfl rfl ?_
  exact tlX5_init_265 E hR ht hn  1000 _ _ h
/-! X5_refused -/
abbrev rmX5_refused : Room := { frames := 0, cells := 0, slots := 0, locals := 0 }
theorem iwX5_refused_X5 : ∀ w ∈ u_ws RX5 TX5 38, w ∈ wsX5_refused := fun _ h => List.mem_cons_of_mem _ (List.mem_append_right _ (h))
theorem flX5_refused_107 : Cond.fieldLink RX5 107 "ChargehouseModel" "thrown" "I" ∈ wsX5_refused := List.mem_cons_of_mem _ (List.mem_append_left _ (List.mem_of_getElem? (i := 0) rfl))
def wX5_refused (M : hM) (o : Nat) (a1 : Int32) (Q : hM → Int32 → Prop) : Prop :=
  ∃ M1, pV M 5 0 (some o) (.int a1) = some M1 ∧
  if (a1 : Int32) = 0 then (
    Q M1 0
  ) else (
    Q M1 1
  )
set_option maxRecDepth 100000 in
set_option maxHeartbeats 4000000 in
theorem cX5_refused_met (l : Launch) (hfl : l.stackTraces = false) (G : hG) (M : hM) {o : Nat} {a1 : Int32} {Q : hM → Int32 → Prop} (h : wX5_refused M o a1 Q) : hEMet l yX5_refused wsX5_refused rmX5_refused [.ref o, .int a1] G M (hQi Q) (fun _ _ => False) 0 0 := by
  refine he_entry (own := RX5) (cc := cX5_refused) (maxL := 2) (ret := (some .boolean)) (lv := [some (va_rf (some o)), some (.int a1)]) hfl (by decide) rfl rfl (hcc rfl (hcc rfl hc0)) (Nat.le_of_ble_eq_true rfl) rfl (fun κ sz hG hl hR E ht hn => ?_)
  subst hG; subst hl
  unfold wX5_refused at h
  have F := E.1
  have C := F.1
  refine v_aload_n C (pc := 0) (i := 0) dX5_refused_0 rfl ?_
  refine v_iload_n C (pc := 1) (i := 1) dX5_refused_1 rfl ?_
  obtain ⟨M1, e1, h⟩ := h
  refine v_put F (pc := 2) (ci := 5) (ty := .int) 0 iwX5_refused_X5 tyX5 tyX5_ok nmX5 rfl (by decide) flX5_refused_107 rfl rfl (nar_int _) (fit_int _) e1 dX5_refused_2 ?_
  refine v_iload_n C (pc := 5) (i := 1) dX5_refused_5 rfl ?_
  refine v_if_eq C (pc := 6) (tgt := 13) dX5_refused_6 (by decide) (fun c2 => ?_) (fun c2 => ?_)
  · rw [if_pos c2] at h
    refine v_iconst C (pc := 13) (v := 0) dX5_refused_13 (by decide) ?_
    exact v_eret (pc := 14) E rfl (by decide +kernel) ⟨_, rfl, h⟩ (by decide) (by decide) dX5_refused_14
  · rw [if_neg c2] at h
    refine v_iconst C (pc := 9) (v := 1) dX5_refused_9 (by decide) ?_
    refine v_goto C (pc := 10) (tgt := 14) dX5_refused_10 (by decide) ?_
    exact v_eret (pc := 14) E rfl (by decide +kernel) ⟨_, rfl, h⟩ (by decide) (by decide) dX5_refused_14
/-! X5_offence -/
abbrev rmX5_offence : Room := { frames := 1, cells := 0, slots := 0, locals := 22 }
theorem iwX5_offence_X5 : ∀ w ∈ u_ws RX5 TX5 38, w ∈ wsX5_offence := fun _ h => List.mem_cons_of_mem _ (List.mem_append_right _ (h))
theorem flX5_offence_111 : Cond.fieldLink RX5 111 "ChargehouseModel" "offences" "I" ∈ wsX5_offence := List.mem_cons_of_mem _ (List.mem_append_left _ (List.mem_of_getElem? (i := 0) rfl))
theorem flX5_offence_13 : Cond.fieldLink RX5 13 "ChargehouseModel" "gravity" "[I" ∈ wsX5_offence := List.mem_cons_of_mem _ (List.mem_append_left _ (List.mem_of_getElem? (i := 2) rfl))
theorem flX5_offence_16 : Cond.fieldLink RX5 16 "ChargehouseModel" "limits" "[I" ∈ wsX5_offence := List.mem_cons_of_mem _ (List.mem_append_left _ (List.mem_of_getElem? (i := 3) rfl))
theorem flX5_offence_7 : Cond.fieldLink RX5 7 "ChargehouseModel" "sets" "[I" ∈ wsX5_offence := List.mem_cons_of_mem _ (List.mem_append_left _ (List.mem_of_getElem? (i := 1) rfl))
def bX5_offence_63 (o : Nat) (Q : hM → Int32 → Prop) (M : hM) (a1 : Int32) (a2 : Int32) (a3 : Int32) (s0 : Option Nat) (s1 : Int32) : Prop :=
  ∃ y7, hC M 5 s0 = some y7 ∧
  wX5_refused M y7 s1 (fun M8 x6 =>
  if (x6 : Int32) = 0 then (
    ∃ x10, gR M8 5 3 (some o) = some x10 ∧
    ∃ x11, gI M8 5 2 (some o) = some x11 ∧
    ∃ M12, sI M8 0 x10 x11 a1 = some M12 ∧
    ∃ x13, gR M12 5 4 (some o) = some x13 ∧
    ∃ x14, gI M12 5 2 (some o) = some x14 ∧
    ∃ M15, sI M12 0 x13 x14 a2 = some M15 ∧
    ∃ x16, gR M15 5 5 (some o) = some x16 ∧
    ∃ x17, gI M15 5 2 (some o) = some x17 ∧
    ∃ M18, sI M15 0 x16 x17 a3 = some M18 ∧
    ∃ x19, gI M18 5 2 (some o) = some x19 ∧
    ∃ M20, pV M18 5 2 (some o) (.int (x19 + 1)) = some M20 ∧
    ∃ x21, gI M20 5 2 (some o) = some x21 ∧
    Q M20 (x21 - 1)
  ) else (
    Q M8 0
  ))
set_option maxRecDepth 100000 in
set_option maxHeartbeats 4000000 in
theorem tbX5_offence_63 {κ : hKx} {M0 : hM} {sz : Nat} {o : Nat} {Q : hM → Int32 → Prop} (E : Ce κ RX5 cX5_offence wsX5_offence (some .int) M0 sz (hQi Q) (fun _ _ => False) 0 0) (hR : kR κ = rmX5_offence) (ht : ∀ x ∈ (kc κ).exceptionTable.toList, False)  {M : hM} {a1 : Int32} {a2 : Int32} {a3 : Int32} {s0 : Option Nat} {s1 : Int32}  (h : bX5_offence_63 o Q M a1 a2 a3 s0 s1) : VW κ 0 0 M 63 [some (va_rf (some o)), some (.int a1), some (.int a2), some (.int a3), none] [.int s1, va_rf s0] := by
  unfold bX5_offence_63 at h
  have F := E.1
  have C := F.1
  obtain ⟨y7, hy7, hh⟩ := h
  skip
  obtain ⟨rfl, fsy7, hfy7⟩ := hC_inv hy7
  have h := hh
  clear hh
  refine v_nV F (pc := 63) (ci := 5) [.int s1] 1 (cX5_refused_met (kl κ) F.2.2.2.1 (kG κ) _ h) hfy7 rfl gX5_offence_X5_refused rfl hdX5_refused rfl rfl rfl (by rw [hR]; exact ⟨Nat.le_of_ble_eq_true rfl, Nat.le_of_ble_eq_true rfl⟩) (by rw [hR]; decide) (Nat.le_of_ble_eq_true rfl) rfl dX5_offence_63 (hk_i fun M8 x6 h => ?_)
  refine v_if_eq C (pc := 66) (tgt := 71) dX5_offence_66 (by decide) (fun c9 => ?_) (fun c9 => ?_)
  · rw [if_pos c9] at h
    refine v_aload_n C (pc := 71) (i := 0) dX5_offence_71 rfl ?_
    obtain ⟨x10, e10, h⟩ := h
    refine v_getR C (pc := 72) (ci := 5) 3 iwX5_offence_X5 rfl (by decide) flX5_offence_7 e10 dX5_offence_72 ?_
    refine v_aload_n C (pc := 75) (i := 0) dX5_offence_75 rfl ?_
    obtain ⟨x11, e11, h⟩ := h
    refine v_getI C (pc := 76) (ci := 5) 2 iwX5_offence_X5 rfl (by decide) flX5_offence_111 e11 dX5_offence_76 ?_
    refine v_iload_n C (pc := 79) (i := 1) dX5_offence_79 rfl ?_
    obtain ⟨M12, e12, h⟩ := h
    refine v_iast F (pc := 80) e12 dX5_offence_80 ?_
    refine v_aload_n C (pc := 81) (i := 0) dX5_offence_81 rfl ?_
    obtain ⟨x13, e13, h⟩ := h
    refine v_getR C (pc := 82) (ci := 5) 4 iwX5_offence_X5 rfl (by decide) flX5_offence_13 e13 dX5_offence_82 ?_
    refine v_aload_n C (pc := 85) (i := 0) dX5_offence_85 rfl ?_
    obtain ⟨x14, e14, h⟩ := h
    refine v_getI C (pc := 86) (ci := 5) 2 iwX5_offence_X5 rfl (by decide) flX5_offence_111 e14 dX5_offence_86 ?_
    refine v_iload_n C (pc := 89) (i := 2) dX5_offence_89 rfl ?_
    obtain ⟨M15, e15, h⟩ := h
    refine v_iast F (pc := 90) e15 dX5_offence_90 ?_
    refine v_aload_n C (pc := 91) (i := 0) dX5_offence_91 rfl ?_
    obtain ⟨x16, e16, h⟩ := h
    refine v_getR C (pc := 92) (ci := 5) 5 iwX5_offence_X5 rfl (by decide) flX5_offence_16 e16 dX5_offence_92 ?_
    refine v_aload_n C (pc := 95) (i := 0) dX5_offence_95 rfl ?_
    obtain ⟨x17, e17, h⟩ := h
    refine v_getI C (pc := 96) (ci := 5) 2 iwX5_offence_X5 rfl (by decide) flX5_offence_111 e17 dX5_offence_96 ?_
    refine v_iload_n C (pc := 99) (i := 3) dX5_offence_99 rfl ?_
    obtain ⟨M18, e18, h⟩ := h
    refine v_iast F (pc := 100) e18 dX5_offence_100 ?_
    refine v_aload_n C (pc := 101) (i := 0) dX5_offence_101 rfl ?_
    refine v_dup C (pc := 102) dX5_offence_102 (rf_cat _) ?_
    obtain ⟨x19, e19, h⟩ := h
    refine v_getI C (pc := 103) (ci := 5) 2 iwX5_offence_X5 rfl (by decide) flX5_offence_111 e19 dX5_offence_103 ?_
    refine v_iconst C (pc := 106) (v := 1) dX5_offence_106 (by decide) ?_
    refine v_iadd C (pc := 107) dX5_offence_107 ?_
    obtain ⟨M20, e20, h⟩ := h
    refine v_put F (pc := 108) (ci := 5) (ty := .int) 2 iwX5_offence_X5 tyX5 tyX5_ok nmX5 rfl (by decide) flX5_offence_111 rfl rfl (nar_int _) (fit_int _) e20 dX5_offence_108 ?_
    refine v_aload_n C (pc := 111) (i := 0) dX5_offence_111 rfl ?_
    obtain ⟨x21, e21, h⟩ := h
    refine v_getI C (pc := 112) (ci := 5) 2 iwX5_offence_X5 rfl (by decide) flX5_offence_111 e21 dX5_offence_112 ?_
    refine v_iconst C (pc := 115) (v := 1) dX5_offence_115 (by decide) ?_
    refine v_isub C (pc := 116) dX5_offence_116 ?_
    exact v_eret (pc := 117) E rfl (nar_int _) ⟨_, rfl, h⟩ (by decide) (by decide) dX5_offence_117
  · rw [if_neg c9] at h
    refine v_iconst C (pc := 69) (v := 0) dX5_offence_69 (by decide) ?_
    exact v_eret (pc := 70) E rfl (nar_int _) ⟨_, rfl, h⟩ (by decide) (by decide) dX5_offence_70
def bX5_offence_37 (o : Nat) (Q : hM → Int32 → Prop) (M : hM) (a1 : Int32) (a2 : Int32) (a3 : Int32) (s0 : Int32) : Prop :=
  if (s0 : Int32) = 0 then (
    bX5_offence_63 o Q M a1 a2 a3 (some o) 1
  ) else (
    ∃ x4, gI M 5 2 (some o) = some x4 ∧
    if (x4 : Int32) = 8 then (
      bX5_offence_63 o Q M a1 a2 a3 (some o) 2
    ) else (
      bX5_offence_63 o Q M a1 a2 a3 (some o) 0
    )
  )
set_option maxRecDepth 100000 in
set_option maxHeartbeats 4000000 in
theorem tbX5_offence_37 {κ : hKx} {M0 : hM} {sz : Nat} {o : Nat} {Q : hM → Int32 → Prop} (E : Ce κ RX5 cX5_offence wsX5_offence (some .int) M0 sz (hQi Q) (fun _ _ => False) 0 0) (hR : kR κ = rmX5_offence) (ht : ∀ x ∈ (kc κ).exceptionTable.toList, False)  {M : hM} {a1 : Int32} {a2 : Int32} {a3 : Int32} {s0 : Int32}  (h : bX5_offence_37 o Q M a1 a2 a3 s0) : VW κ 0 0 M 37 [some (va_rf (some o)), some (.int a1), some (.int a2), some (.int a3), none] [.int s0] := by
  unfold bX5_offence_37 at h
  have F := E.1
  have C := F.1
  refine v_istore C (pc := 37) (i := 4) (lv' := [some (va_rf (some o)), some (.int a1), some (.int a2), some (.int a3), some (.int s0)]) dX5_offence_37 rfl rfl ?_
  refine v_aload_n C (pc := 39) (i := 0) dX5_offence_39 rfl ?_
  refine v_iload C (pc := 40) (i := 4) dX5_offence_40 rfl ?_
  refine v_if_ne C (pc := 42) (tgt := 49) dX5_offence_42 (by decide) (fun c3 => ?_) (fun c3 => ?_)
  · rw [if_neg c3] at h
    refine v_aload_n C (pc := 49) (i := 0) dX5_offence_49 rfl ?_
    obtain ⟨x4, e4, h⟩ := h
    refine v_getI C (pc := 50) (ci := 5) 2 iwX5_offence_X5 rfl (by decide) flX5_offence_111 e4 dX5_offence_50 ?_
    refine v_bipush C (pc := 53) (v := 8) dX5_offence_53 (by decide) ?_
    refine v_icmp_ne C (pc := 55) (tgt := 62) dX5_offence_55 (by decide) (fun c5 => ?_) (fun c5 => ?_)
    · rw [if_neg c5] at h
      refine v_iconst C (pc := 62) (v := 0) dX5_offence_62 (by decide) ?_
      refine v_mask (lv' := [some (va_rf (some o)), some (.int a1), some (.int a2), some (.int a3), none]) [true, true, true, true, false] rfl rfl ?_
      exact tbX5_offence_63 E hR ht  h
    · rw [if_pos c5] at h
      refine v_iconst C (pc := 58) (v := 2) dX5_offence_58 (by decide) ?_
      refine v_goto C (pc := 59) (tgt := 63) dX5_offence_59 (by decide) ?_
      refine v_mask (lv' := [some (va_rf (some o)), some (.int a1), some (.int a2), some (.int a3), none]) [true, true, true, true, false] rfl rfl ?_
      exact tbX5_offence_63 E hR ht  h
  · rw [if_pos c3] at h
    refine v_iconst C (pc := 45) (v := 1) dX5_offence_45 (by decide) ?_
    refine v_goto C (pc := 46) (tgt := 63) dX5_offence_46 (by decide) ?_
    refine v_mask (lv' := [some (va_rf (some o)), some (.int a1), some (.int a2), some (.int a3), none]) [true, true, true, true, false] rfl rfl ?_
    exact tbX5_offence_63 E hR ht  h
def bX5_offence_36 (o : Nat) (Q : hM → Int32 → Prop) (M : hM) (a1 : Int32) (a2 : Int32) (a3 : Int32) : Prop :=
  bX5_offence_37 o Q M a1 a2 a3 0
set_option maxRecDepth 100000 in
set_option maxHeartbeats 4000000 in
theorem tbX5_offence_36 {κ : hKx} {M0 : hM} {sz : Nat} {o : Nat} {Q : hM → Int32 → Prop} (E : Ce κ RX5 cX5_offence wsX5_offence (some .int) M0 sz (hQi Q) (fun _ _ => False) 0 0) (hR : kR κ = rmX5_offence) (ht : ∀ x ∈ (kc κ).exceptionTable.toList, False)  {M : hM} {a1 : Int32} {a2 : Int32} {a3 : Int32}  (h : bX5_offence_36 o Q M a1 a2 a3) : VW κ 0 0 M 36 [some (va_rf (some o)), some (.int a1), some (.int a2), some (.int a3), none] [] := by
  unfold bX5_offence_36 at h
  have F := E.1
  have C := F.1
  refine v_iconst C (pc := 36) (v := 0) dX5_offence_36 (by decide) ?_
  exact tbX5_offence_37 E hR ht  h
def wX5_offence (M : hM) (o : Nat) (a1 : Int32) (a2 : Int32) (a3 : Int32) (Q : hM → Int32 → Prop) : Prop :=
  ∃ x1, fX5_in a1 1 1023 = some x1 ∧
  if (x1 : Int32) = 0 then (
    bX5_offence_36 o Q M a1 a2 a3
  ) else (
    ∃ x22, fX5_in a2 1 9 = some x22 ∧
    if (x22 : Int32) = 0 then (
      bX5_offence_36 o Q M a1 a2 a3
    ) else (
      ∃ x24, fX5_in a3 1 2000 = some x24 ∧
      if (x24 : Int32) = 0 then (
        bX5_offence_36 o Q M a1 a2 a3
      ) else (
        bX5_offence_37 o Q M a1 a2 a3 1
      )
    )
  )
set_option maxRecDepth 100000 in
set_option maxHeartbeats 4000000 in
theorem cX5_offence_met (l : Launch) (hfl : l.stackTraces = false) (G : hG) (M : hM) {o : Nat} {a1 : Int32} {a2 : Int32} {a3 : Int32} {Q : hM → Int32 → Prop} (h : wX5_offence M o a1 a2 a3 Q) : hEMet l yX5_offence wsX5_offence rmX5_offence [.ref o, .int a1, .int a2, .int a3] G M (hQi Q) (fun _ _ => False) 0 0 := by
  refine he_entry (own := RX5) (cc := cX5_offence) (maxL := 5) (ret := (some .int)) (lv := [some (va_rf (some o)), some (.int a1), some (.int a2), some (.int a3), none]) hfl (by decide) rfl rfl (hcc rfl (hcc rfl (hcc rfl (hcc rfl hc0)))) (Nat.le_of_ble_eq_true rfl) rfl (fun κ sz hG hl hR E ht hn => ?_)
  subst hG; subst hl
  unfold wX5_offence at h
  have F := E.1
  have C := F.1
  refine v_iload_n C (pc := 0) (i := 1) dX5_offence_0 rfl ?_
  refine v_iconst C (pc := 1) (v := 1) dX5_offence_1 (by decide) ?_
  refine v_sipush C (pc := 2) (v := 1023) dX5_offence_2 (by decide) ?_
  obtain ⟨x1, e1, h⟩ := h
  refine v_pS C (pc := 5) [.int a1, .int 1, .int 1023] 3 (cX5_in_met (kl κ) (kG κ) _ e1) gX5_offence_X5_in rfl hdsX5_in rfl rfl rfl (by rw [hR]; exact ⟨Nat.le_of_ble_eq_true rfl, Nat.le_of_ble_eq_true rfl⟩) (by rw [hR]; decide) (Nat.le_of_ble_eq_true rfl) rfl dX5_offence_5 ?_
  refine v_if_eq C (pc := 8) (tgt := 36) dX5_offence_8 (by decide) (fun c2 => ?_) (fun c2 => ?_)
  · rw [if_pos c2] at h
    exact tbX5_offence_36 E hR ht  h
  · rw [if_neg c2] at h
    refine v_iload_n C (pc := 11) (i := 2) dX5_offence_11 rfl ?_
    refine v_iconst C (pc := 12) (v := 1) dX5_offence_12 (by decide) ?_
    refine v_bipush C (pc := 13) (v := 9) dX5_offence_13 (by decide) ?_
    obtain ⟨x22, e22, h⟩ := h
    refine v_pS C (pc := 15) [.int a2, .int 1, .int 9] 3 (cX5_in_met (kl κ) (kG κ) _ e22) gX5_offence_X5_in rfl hdsX5_in rfl rfl rfl (by rw [hR]; exact ⟨Nat.le_of_ble_eq_true rfl, Nat.le_of_ble_eq_true rfl⟩) (by rw [hR]; decide) (Nat.le_of_ble_eq_true rfl) rfl dX5_offence_15 ?_
    refine v_if_eq C (pc := 18) (tgt := 36) dX5_offence_18 (by decide) (fun c23 => ?_) (fun c23 => ?_)
    · rw [if_pos c23] at h
      exact tbX5_offence_36 E hR ht  h
    · rw [if_neg c23] at h
      refine v_iload_n C (pc := 21) (i := 3) dX5_offence_21 rfl ?_
      refine v_iconst C (pc := 22) (v := 1) dX5_offence_22 (by decide) ?_
      refine v_sipush C (pc := 23) (v := 2000) dX5_offence_23 (by decide) ?_
      obtain ⟨x24, e24, h⟩ := h
      refine v_pS C (pc := 26) [.int a3, .int 1, .int 2000] 3 (cX5_in_met (kl κ) (kG κ) _ e24) gX5_offence_X5_in rfl hdsX5_in rfl rfl rfl (by rw [hR]; exact ⟨Nat.le_of_ble_eq_true rfl, Nat.le_of_ble_eq_true rfl⟩) (by rw [hR]; decide) (Nat.le_of_ble_eq_true rfl) rfl dX5_offence_26 ?_
      refine v_if_eq C (pc := 29) (tgt := 36) dX5_offence_29 (by decide) (fun c25 => ?_) (fun c25 => ?_)
      · rw [if_pos c25] at h
        exact tbX5_offence_36 E hR ht  h
      · rw [if_neg c25] at h
        refine v_iconst C (pc := 32) (v := 1) dX5_offence_32 (by decide) ?_
        refine v_goto C (pc := 33) (tgt := 37) dX5_offence_33 (by decide) ?_
        exact tbX5_offence_37 E hR ht  h
/-! X5_exclude -/
abbrev rmX5_exclude : Room := { frames := 2, cells := 0, slots := 0, locals := 43 }
theorem iwX5_exclude_X5 : ∀ w ∈ u_ws RX5 TX5 38, w ∈ wsX5_exclude := fun _ h => List.mem_cons_of_mem _ (List.mem_append_right _ (h))
theorem flX5_exclude_19 : Cond.fieldLink RX5 19 "ChargehouseModel" "excluded" "[I" ∈ wsX5_exclude := List.mem_cons_of_mem _ (List.mem_append_left _ (List.mem_of_getElem? (i := 0) rfl))
def bX5_exclude_31 (o : Nat) (Q : hM → Int32 → Prop) (M : hM) (a1 : Int32) (a2 : Int32) (s0 : Option Nat) (s1 : Int32) : Prop :=
  ∃ y5, hC M 5 s0 = some y5 ∧
  wX5_refused M y5 s1 (fun M6 x4 =>
  if (x4 : Int32) = 0 then (
    ∃ x8, gR M6 5 6 (some o) = some x8 ∧
    ∃ x9, aI M6 0 x8 a1 = some x9 ∧
    ∃ x10, fX5_has x9 a2 = some x10 ∧
    ∃ x11, gR M6 5 6 (some o) = some x11 ∧
    ∃ x12, aI M6 0 x11 a1 = some x12 ∧
    ∃ M13, sI M6 0 x11 a1 (x12 ||| (1 <<< (a2 &&& 31))) = some M13 ∧
    ∃ x14, gR M13 5 6 (some o) = some x14 ∧
    ∃ x15, aI M13 0 x14 a2 = some x15 ∧
    ∃ M16, sI M13 0 x14 a2 (x15 ||| (1 <<< (a1 &&& 31))) = some M16 ∧
    (x10 = 0 ∨ x10 = 1) ∧ Q M16 x10
  ) else (
    Q M6 0
  ))
set_option maxRecDepth 100000 in
set_option maxHeartbeats 4000000 in
theorem tbX5_exclude_31 {κ : hKx} {M0 : hM} {sz : Nat} {o : Nat} {Q : hM → Int32 → Prop} (E : Ce κ RX5 cX5_exclude wsX5_exclude (some .boolean) M0 sz (hQi Q) (fun _ _ => False) 0 0) (hR : kR κ = rmX5_exclude) (ht : ∀ x ∈ (kc κ).exceptionTable.toList, False)  {M : hM} {a1 : Int32} {a2 : Int32} {s0 : Option Nat} {s1 : Int32}  (h : bX5_exclude_31 o Q M a1 a2 s0 s1) : VW κ 0 0 M 31 [some (va_rf (some o)), some (.int a1), some (.int a2), none] [.int s1, va_rf s0] := by
  unfold bX5_exclude_31 at h
  have F := E.1
  have C := F.1
  obtain ⟨y5, hy5, hh⟩ := h
  skip
  obtain ⟨rfl, fsy5, hfy5⟩ := hC_inv hy5
  have h := hh
  clear hh
  refine v_nV F (pc := 31) (ci := 5) [.int s1] 1 (cX5_refused_met (kl κ) F.2.2.2.1 (kG κ) _ h) hfy5 rfl gX5_exclude_X5_refused rfl hdX5_refused rfl rfl rfl (by rw [hR]; exact ⟨Nat.le_of_ble_eq_true rfl, Nat.le_of_ble_eq_true rfl⟩) (by rw [hR]; decide) (Nat.le_of_ble_eq_true rfl) rfl dX5_exclude_31 (hk_i fun M6 x4 h => ?_)
  refine v_if_eq C (pc := 34) (tgt := 39) dX5_exclude_34 (by decide) (fun c7 => ?_) (fun c7 => ?_)
  · rw [if_pos c7] at h
    refine v_aload_n C (pc := 39) (i := 0) dX5_exclude_39 rfl ?_
    obtain ⟨x8, e8, h⟩ := h
    refine v_getR C (pc := 40) (ci := 5) 6 iwX5_exclude_X5 rfl (by decide) flX5_exclude_19 e8 dX5_exclude_40 ?_
    refine v_iload_n C (pc := 43) (i := 1) dX5_exclude_43 rfl ?_
    obtain ⟨x9, e9, h⟩ := h
    refine v_iald C (pc := 44) e9 dX5_exclude_44 ?_
    refine v_iload_n C (pc := 45) (i := 2) dX5_exclude_45 rfl ?_
    obtain ⟨x10, e10, h⟩ := h
    refine v_pS C (pc := 46) [.int x9, .int a2] 2 (cX5_has_met (kl κ) (kG κ) _ e10) gX5_exclude_X5_has rfl hdsX5_has rfl rfl rfl (by rw [hR]; exact ⟨Nat.le_of_ble_eq_true rfl, Nat.le_of_ble_eq_true rfl⟩) (by rw [hR]; decide) (Nat.le_of_ble_eq_true rfl) rfl dX5_exclude_46 ?_
    refine v_istore_n C (pc := 49) (i := 3) (lv' := [some (va_rf (some o)), some (.int a1), some (.int a2), some (.int x10)]) dX5_exclude_49 rfl rfl ?_
    refine v_aload_n C (pc := 50) (i := 0) dX5_exclude_50 rfl ?_
    obtain ⟨x11, e11, h⟩ := h
    refine v_getR C (pc := 51) (ci := 5) 6 iwX5_exclude_X5 rfl (by decide) flX5_exclude_19 e11 dX5_exclude_51 ?_
    refine v_iload_n C (pc := 54) (i := 1) dX5_exclude_54 rfl ?_
    refine v_dup2 C (pc := 55) dX5_exclude_55 (rfl) (rf_cat _) ?_
    obtain ⟨x12, e12, h⟩ := h
    refine v_iald C (pc := 56) e12 dX5_exclude_56 ?_
    refine v_iconst C (pc := 57) (v := 1) dX5_exclude_57 (by decide) ?_
    refine v_iload_n C (pc := 58) (i := 2) dX5_exclude_58 rfl ?_
    refine v_ishl C (pc := 59) dX5_exclude_59 ?_
    refine v_ior C (pc := 60) dX5_exclude_60 ?_
    obtain ⟨M13, e13, h⟩ := h
    refine v_iast F (pc := 61) e13 dX5_exclude_61 ?_
    refine v_aload_n C (pc := 62) (i := 0) dX5_exclude_62 rfl ?_
    obtain ⟨x14, e14, h⟩ := h
    refine v_getR C (pc := 63) (ci := 5) 6 iwX5_exclude_X5 rfl (by decide) flX5_exclude_19 e14 dX5_exclude_63 ?_
    refine v_iload_n C (pc := 66) (i := 2) dX5_exclude_66 rfl ?_
    refine v_dup2 C (pc := 67) dX5_exclude_67 (rfl) (rf_cat _) ?_
    obtain ⟨x15, e15, h⟩ := h
    refine v_iald C (pc := 68) e15 dX5_exclude_68 ?_
    refine v_iconst C (pc := 69) (v := 1) dX5_exclude_69 (by decide) ?_
    refine v_iload_n C (pc := 70) (i := 1) dX5_exclude_70 rfl ?_
    refine v_ishl C (pc := 71) dX5_exclude_71 ?_
    refine v_ior C (pc := 72) dX5_exclude_72 ?_
    obtain ⟨M16, e16, h⟩ := h
    refine v_iast F (pc := 73) e16 dX5_exclude_73 ?_
    refine v_iload_n C (pc := 74) (i := 3) dX5_exclude_74 rfl ?_
    obtain ⟨hb, h⟩ := h
    exact v_eret (pc := 75) E rfl (nar_bool hb) ⟨_, rfl, h⟩ (by decide) (by decide) dX5_exclude_75
  · rw [if_neg c7] at h
    refine v_iconst C (pc := 37) (v := 0) dX5_exclude_37 (by decide) ?_
    exact v_eret (pc := 38) E rfl (by decide +kernel) ⟨_, rfl, h⟩ (by decide) (by decide) dX5_exclude_38
def bX5_exclude_17 (o : Nat) (Q : hM → Int32 → Prop) (M : hM) (a1 : Int32) (a2 : Int32) (s0 : Option Nat) : Prop :=
  bX5_exclude_31 o Q M a1 a2 s0 1
set_option maxRecDepth 100000 in
set_option maxHeartbeats 4000000 in
theorem tbX5_exclude_17 {κ : hKx} {M0 : hM} {sz : Nat} {o : Nat} {Q : hM → Int32 → Prop} (E : Ce κ RX5 cX5_exclude wsX5_exclude (some .boolean) M0 sz (hQi Q) (fun _ _ => False) 0 0) (hR : kR κ = rmX5_exclude) (ht : ∀ x ∈ (kc κ).exceptionTable.toList, False)  {M : hM} {a1 : Int32} {a2 : Int32} {s0 : Option Nat}  (h : bX5_exclude_17 o Q M a1 a2 s0) : VW κ 0 0 M 17 [some (va_rf (some o)), some (.int a1), some (.int a2), none] [va_rf s0] := by
  unfold bX5_exclude_17 at h
  have F := E.1
  have C := F.1
  refine v_iconst C (pc := 17) (v := 1) dX5_exclude_17 (by decide) ?_
  refine v_goto C (pc := 18) (tgt := 31) dX5_exclude_18 (by decide) ?_
  exact tbX5_exclude_31 E hR ht  h
def wX5_exclude (M : hM) (o : Nat) (a1 : Int32) (a2 : Int32) (Q : hM → Int32 → Prop) : Prop :=
  ∃ y2, hC M 5 (some o) = some y2 ∧
  ∃ x1, fX5_isOffence M o a1 = some x1 ∧
  if (x1 : Int32) = 0 then (
    bX5_exclude_17 o Q M a1 a2 (some o)
  ) else (
    ∃ y18, hC M 5 (some o) = some y18 ∧
    ∃ x17, fX5_isOffence M o a2 = some x17 ∧
    if (x17 : Int32) = 0 then (
      bX5_exclude_17 o Q M a1 a2 (some o)
    ) else (
      if (a1 : Int32) = a2 then (
        bX5_exclude_31 o Q M a1 a2 (some o) 2
      ) else (
        bX5_exclude_31 o Q M a1 a2 (some o) 0
      )
    )
  )
set_option maxRecDepth 100000 in
set_option maxHeartbeats 4000000 in
theorem cX5_exclude_met (l : Launch) (hfl : l.stackTraces = false) (G : hG) (M : hM) {o : Nat} {a1 : Int32} {a2 : Int32} {Q : hM → Int32 → Prop} (h : wX5_exclude M o a1 a2 Q) : hEMet l yX5_exclude wsX5_exclude rmX5_exclude [.ref o, .int a1, .int a2] G M (hQi Q) (fun _ _ => False) 0 0 := by
  refine he_entry (own := RX5) (cc := cX5_exclude) (maxL := 4) (ret := (some .boolean)) (lv := [some (va_rf (some o)), some (.int a1), some (.int a2), none]) hfl (by decide) rfl rfl (hcc rfl (hcc rfl (hcc rfl hc0))) (Nat.le_of_ble_eq_true rfl) rfl (fun κ sz hG hl hR E ht hn => ?_)
  subst hG; subst hl
  unfold wX5_exclude at h
  have F := E.1
  have C := F.1
  refine v_aload_n C (pc := 0) (i := 0) dX5_exclude_0 rfl ?_
  refine v_aload_n C (pc := 1) (i := 0) dX5_exclude_1 rfl ?_
  refine v_iload_n C (pc := 2) (i := 1) dX5_exclude_2 rfl ?_
  obtain ⟨y2, hy2, h⟩ := h
  obtain ⟨fsy2, hfy2⟩ := hC_some hy2
  obtain ⟨x1, e1, h⟩ := h
  refine v_pV C (pc := 3) (ci := 5) [.int a1] 1 (cX5_isOffence_met (kl κ) (kG κ) _ e1) hfy2 rfl gX5_exclude_X5_isOffence rfl hdX5_isOffence rfl rfl rfl (by rw [hR]; exact ⟨Nat.le_of_ble_eq_true rfl, Nat.le_of_ble_eq_true rfl⟩) (by rw [hR]; decide) (Nat.le_of_ble_eq_true rfl) rfl dX5_exclude_3 ?_
  refine v_if_eq C (pc := 6) (tgt := 17) dX5_exclude_6 (by decide) (fun c3 => ?_) (fun c3 => ?_)
  · rw [if_pos c3] at h
    exact tbX5_exclude_17 E hR ht  h
  · rw [if_neg c3] at h
    refine v_aload_n C (pc := 9) (i := 0) dX5_exclude_9 rfl ?_
    refine v_iload_n C (pc := 10) (i := 2) dX5_exclude_10 rfl ?_
    obtain ⟨y18, hy18, h⟩ := h
    obtain ⟨fsy18, hfy18⟩ := hC_some hy18
    obtain ⟨x17, e17, h⟩ := h
    refine v_pV C (pc := 11) (ci := 5) [.int a2] 1 (cX5_isOffence_met (kl κ) (kG κ) _ e17) hfy18 rfl gX5_exclude_X5_isOffence rfl hdX5_isOffence rfl rfl rfl (by rw [hR]; exact ⟨Nat.le_of_ble_eq_true rfl, Nat.le_of_ble_eq_true rfl⟩) (by rw [hR]; decide) (Nat.le_of_ble_eq_true rfl) rfl dX5_exclude_11 ?_
    refine v_if_ne C (pc := 14) (tgt := 21) dX5_exclude_14 (by decide) (fun c19 => ?_) (fun c19 => ?_)
    · rw [if_neg c19] at h
      refine v_iload_n C (pc := 21) (i := 1) dX5_exclude_21 rfl ?_
      refine v_iload_n C (pc := 22) (i := 2) dX5_exclude_22 rfl ?_
      refine v_icmp_ne C (pc := 23) (tgt := 30) dX5_exclude_23 (by decide) (fun c20 => ?_) (fun c20 => ?_)
      · rw [if_neg c20] at h
        refine v_iconst C (pc := 30) (v := 0) dX5_exclude_30 (by decide) ?_
        exact tbX5_exclude_31 E hR ht  h
      · rw [if_pos c20] at h
        refine v_iconst C (pc := 26) (v := 2) dX5_exclude_26 (by decide) ?_
        refine v_goto C (pc := 27) (tgt := 31) dX5_exclude_27 (by decide) ?_
        exact tbX5_exclude_31 E hR ht  h
    · rw [if_pos c19] at h
      exact tbX5_exclude_17 E hR ht  h
/-! X5_holds -/
abbrev rmX5_holds : Room := { frames := 0, cells := 0, slots := 0, locals := 0 }
theorem iwX5_holds_X5 : ∀ w ∈ u_ws RX5 TX5 38, w ∈ wsX5_holds := fun _ h => List.mem_cons_of_mem _ (List.mem_append_right _ (h))
theorem flX5_holds_104 : Cond.fieldLink RX5 104 "ChargehouseModel" "counts" "[I" ∈ wsX5_holds := List.mem_cons_of_mem _ (List.mem_append_left _ (List.mem_of_getElem? (i := 5) rfl))
theorem flX5_holds_62 : Cond.fieldLink RX5 62 "ChargehouseModel" "state" "[I" ∈ wsX5_holds := List.mem_cons_of_mem _ (List.mem_append_left _ (List.mem_of_getElem? (i := 0) rfl))
theorem flX5_holds_74 : Cond.fieldLink RX5 74 "ChargehouseModel" "isHeld" "[Z" ∈ wsX5_holds := List.mem_cons_of_mem _ (List.mem_append_left _ (List.mem_of_getElem? (i := 4) rfl))
theorem flX5_holds_77 : Cond.fieldLink RX5 77 "ChargehouseModel" "early" "[I" ∈ wsX5_holds := List.mem_cons_of_mem _ (List.mem_append_left _ (List.mem_of_getElem? (i := 1) rfl))
theorem flX5_holds_80 : Cond.fieldLink RX5 80 "ChargehouseModel" "later" "[I" ∈ wsX5_holds := List.mem_cons_of_mem _ (List.mem_append_left _ (List.mem_of_getElem? (i := 2) rfl))
theorem flX5_holds_83 : Cond.fieldLink RX5 83 "ChargehouseModel" "ceiling" "[I" ∈ wsX5_holds := List.mem_cons_of_mem _ (List.mem_append_left _ (List.mem_of_getElem? (i := 3) rfl))
def bX5_holds_85 (o : Nat) (Q : hM → Prop) (M : hM) (a1 : Int32) : Prop :=
  ∃ x18, gR M 5 26 (some o) = some x18 ∧
  ∃ M19, sZ M 1 x18 a1 0 = some M19 ∧
  ∃ x20, gR M19 5 37 (some o) = some x20 ∧
  ∃ x21, aI M19 0 x20 5 = some x21 ∧
  ∃ M22, sI M19 0 x20 5 (x21 + 1) = some M22 ∧
  Q M22
set_option maxRecDepth 100000 in
set_option maxHeartbeats 4000000 in
theorem tbX5_holds_85 {κ : hKx} {M0 : hM} {sz : Nat} {o : Nat} {Q : hM → Prop} (E : Ce κ RX5 cX5_holds wsX5_holds none M0 sz (hQv Q) (fun _ _ => False) 0 0) (hR : kR κ = rmX5_holds) (ht : ∀ x ∈ (kc κ).exceptionTable.toList, False)  {M : hM} {a1 : Int32}  (h : bX5_holds_85 o Q M a1) : VW κ 0 0 M 85 [some (va_rf (some o)), some (.int a1), none] [] := by
  unfold bX5_holds_85 at h
  have F := E.1
  have C := F.1
  refine v_aload_n C (pc := 85) (i := 0) dX5_holds_85 rfl ?_
  obtain ⟨x18, e18, h⟩ := h
  refine v_getR C (pc := 86) (ci := 5) 26 iwX5_holds_X5 rfl (by decide) flX5_holds_74 e18 dX5_holds_86 ?_
  refine v_iload_n C (pc := 89) (i := 1) dX5_holds_89 rfl ?_
  refine v_iconst C (pc := 90) (v := 0) dX5_holds_90 (by decide) ?_
  obtain ⟨M19, e19, h⟩ := h
  refine v_zast F (pc := 91) e19 dX5_holds_91 ?_
  refine v_aload_n C (pc := 92) (i := 0) dX5_holds_92 rfl ?_
  obtain ⟨x20, e20, h⟩ := h
  refine v_getR C (pc := 93) (ci := 5) 37 iwX5_holds_X5 rfl (by decide) flX5_holds_104 e20 dX5_holds_93 ?_
  refine v_iconst C (pc := 96) (v := 5) dX5_holds_96 (by decide) ?_
  refine v_dup2 C (pc := 97) dX5_holds_97 (rfl) (rf_cat _) ?_
  obtain ⟨x21, e21, h⟩ := h
  refine v_iald C (pc := 98) e21 dX5_holds_98 ?_
  refine v_iconst C (pc := 99) (v := 1) dX5_holds_99 (by decide) ?_
  refine v_iadd C (pc := 100) dX5_holds_100 ?_
  obtain ⟨M22, e22, h⟩ := h
  refine v_iast F (pc := 101) e22 dX5_holds_101 ?_
  exact v_eretV (pc := 102) E rfl ⟨rfl, h⟩ (by decide) (by decide) dX5_holds_102
def bX5_holds_50 (o : Nat) (Q : hM → Prop) (M : hM) (a1 : Int32) (a2 : Int32) (s0 : Option Nat) (s1 : Int32) (s2 : Int32) (s3 : Int32) : Prop :=
  ∃ M11, sI M 0 s0 s1 (s2 + s3) = some M11 ∧
  if (a2 : Int32) = 0 then (
    ∃ x13, gR M11 5 27 (some o) = some x13 ∧
    ∃ x14, aI M11 0 x13 a1 = some x14 ∧
    ∃ x15, gR M11 5 29 (some o) = some x15 ∧
    ∃ x16, aI M11 0 x15 a1 = some x16 ∧
    if (x14 : Int32) = x16 then (
      bX5_holds_85 o Q M11 a1
    ) else (
      Q M11
    )
  ) else (
    ∃ x23, gR M11 5 28 (some o) = some x23 ∧
    ∃ x24, aI M11 0 x23 a1 = some x24 ∧
    if (x24 : Int32) = 60 then (
      bX5_holds_85 o Q M11 a1
    ) else (
      Q M11
    )
  )
set_option maxRecDepth 100000 in
set_option maxHeartbeats 4000000 in
theorem tbX5_holds_50 {κ : hKx} {M0 : hM} {sz : Nat} {o : Nat} {Q : hM → Prop} (E : Ce κ RX5 cX5_holds wsX5_holds none M0 sz (hQv Q) (fun _ _ => False) 0 0) (hR : kR κ = rmX5_holds) (ht : ∀ x ∈ (kc κ).exceptionTable.toList, False)  {M : hM} {a1 : Int32} {a2 : Int32} {s0 : Option Nat} {s1 : Int32} {s2 : Int32} {s3 : Int32}  (h : bX5_holds_50 o Q M a1 a2 s0 s1 s2 s3) : VW κ 0 0 M 50 [some (va_rf (some o)), some (.int a1), some (.int a2)] [.int s3, .int s2, .int s1, va_rf s0] := by
  unfold bX5_holds_50 at h
  have F := E.1
  have C := F.1
  refine v_iadd C (pc := 50) dX5_holds_50 ?_
  obtain ⟨M11, e11, h⟩ := h
  refine v_iast F (pc := 51) e11 dX5_holds_51 ?_
  refine v_iload_n C (pc := 52) (i := 2) dX5_holds_52 rfl ?_
  refine v_if_eq C (pc := 53) (tgt := 70) dX5_holds_53 (by decide) (fun c12 => ?_) (fun c12 => ?_)
  · rw [if_pos c12] at h
    refine v_aload_n C (pc := 70) (i := 0) dX5_holds_70 rfl ?_
    obtain ⟨x13, e13, h⟩ := h
    refine v_getR C (pc := 71) (ci := 5) 27 iwX5_holds_X5 rfl (by decide) flX5_holds_77 e13 dX5_holds_71 ?_
    refine v_iload_n C (pc := 74) (i := 1) dX5_holds_74 rfl ?_
    obtain ⟨x14, e14, h⟩ := h
    refine v_iald C (pc := 75) e14 dX5_holds_75 ?_
    refine v_aload_n C (pc := 76) (i := 0) dX5_holds_76 rfl ?_
    obtain ⟨x15, e15, h⟩ := h
    refine v_getR C (pc := 77) (ci := 5) 29 iwX5_holds_X5 rfl (by decide) flX5_holds_83 e15 dX5_holds_77 ?_
    refine v_iload_n C (pc := 80) (i := 1) dX5_holds_80 rfl ?_
    obtain ⟨x16, e16, h⟩ := h
    refine v_iald C (pc := 81) e16 dX5_holds_81 ?_
    refine v_icmp_ne C (pc := 82) (tgt := 102) dX5_holds_82 (by decide) (fun c17 => ?_) (fun c17 => ?_)
    · rw [if_neg c17] at h
      exact v_eretV (pc := 102) E rfl ⟨rfl, h⟩ (by decide) (by decide) dX5_holds_102
    · rw [if_pos c17] at h
      refine v_mask (lv' := [some (va_rf (some o)), some (.int a1), none]) [true, true, false] rfl rfl ?_
      exact tbX5_holds_85 E hR ht  h
  · rw [if_neg c12] at h
    refine v_aload_n C (pc := 56) (i := 0) dX5_holds_56 rfl ?_
    obtain ⟨x23, e23, h⟩ := h
    refine v_getR C (pc := 57) (ci := 5) 28 iwX5_holds_X5 rfl (by decide) flX5_holds_80 e23 dX5_holds_57 ?_
    refine v_iload_n C (pc := 60) (i := 1) dX5_holds_60 rfl ?_
    obtain ⟨x24, e24, h⟩ := h
    refine v_iald C (pc := 61) e24 dX5_holds_61 ?_
    refine v_bipush C (pc := 62) (v := 60) dX5_holds_62 (by decide) ?_
    refine v_icmp_ne C (pc := 64) (tgt := 102) dX5_holds_64 (by decide) (fun c25 => ?_) (fun c25 => ?_)
    · rw [if_neg c25] at h
      exact v_eretV (pc := 102) E rfl ⟨rfl, h⟩ (by decide) (by decide) dX5_holds_102
    · rw [if_pos c25] at h
      refine v_goto C (pc := 67) (tgt := 85) dX5_holds_67 (by decide) ?_
      refine v_mask (lv' := [some (va_rf (some o)), some (.int a1), none]) [true, true, false] rfl rfl ?_
      exact tbX5_holds_85 E hR ht  h
def bX5_holds_32 (o : Nat) (Q : hM → Prop) (M : hM) (a1 : Int32) (a2 : Int32) (s0 : Option Nat) (s1 : Int32) (s2 : Int32) (s3 : Int32) : Prop :=
  ∃ M7, sI M 0 s0 s1 (s2 + s3) = some M7 ∧
  ∃ x8, gR M7 5 28 (some o) = some x8 ∧
  ∃ x9, aI M7 0 x8 a1 = some x9 ∧
  if (a2 : Int32) = 0 then (
    bX5_holds_50 o Q M7 a1 a2 x8 a1 x9 0
  ) else (
    bX5_holds_50 o Q M7 a1 a2 x8 a1 x9 1
  )
set_option maxRecDepth 100000 in
set_option maxHeartbeats 4000000 in
theorem tbX5_holds_32 {κ : hKx} {M0 : hM} {sz : Nat} {o : Nat} {Q : hM → Prop} (E : Ce κ RX5 cX5_holds wsX5_holds none M0 sz (hQv Q) (fun _ _ => False) 0 0) (hR : kR κ = rmX5_holds) (ht : ∀ x ∈ (kc κ).exceptionTable.toList, False)  {M : hM} {a1 : Int32} {a2 : Int32} {s0 : Option Nat} {s1 : Int32} {s2 : Int32} {s3 : Int32}  (h : bX5_holds_32 o Q M a1 a2 s0 s1 s2 s3) : VW κ 0 0 M 32 [some (va_rf (some o)), some (.int a1), some (.int a2)] [.int s3, .int s2, .int s1, va_rf s0] := by
  unfold bX5_holds_32 at h
  have F := E.1
  have C := F.1
  refine v_iadd C (pc := 32) dX5_holds_32 ?_
  obtain ⟨M7, e7, h⟩ := h
  refine v_iast F (pc := 33) e7 dX5_holds_33 ?_
  refine v_aload_n C (pc := 34) (i := 0) dX5_holds_34 rfl ?_
  obtain ⟨x8, e8, h⟩ := h
  refine v_getR C (pc := 35) (ci := 5) 28 iwX5_holds_X5 rfl (by decide) flX5_holds_80 e8 dX5_holds_35 ?_
  refine v_iload_n C (pc := 38) (i := 1) dX5_holds_38 rfl ?_
  refine v_dup2 C (pc := 39) dX5_holds_39 (rfl) (rf_cat _) ?_
  obtain ⟨x9, e9, h⟩ := h
  refine v_iald C (pc := 40) e9 dX5_holds_40 ?_
  refine v_iload_n C (pc := 41) (i := 2) dX5_holds_41 rfl ?_
  refine v_if_eq C (pc := 42) (tgt := 49) dX5_holds_42 (by decide) (fun c10 => ?_) (fun c10 => ?_)
  · rw [if_pos c10] at h
    refine v_iconst C (pc := 49) (v := 0) dX5_holds_49 (by decide) ?_
    exact tbX5_holds_50 E hR ht  h
  · rw [if_neg c10] at h
    refine v_iconst C (pc := 45) (v := 1) dX5_holds_45 (by decide) ?_
    refine v_goto C (pc := 46) (tgt := 50) dX5_holds_46 (by decide) ?_
    exact tbX5_holds_50 E hR ht  h
def bX5_holds_15 (o : Nat) (Q : hM → Prop) (M : hM) (a1 : Int32) (s0 : Int32) : Prop :=
  ∃ x4, gR M 5 27 (some o) = some x4 ∧
  ∃ x5, aI M 0 x4 a1 = some x5 ∧
  if (s0 : Int32) = 0 then (
    bX5_holds_32 o Q M a1 s0 x4 a1 x5 1
  ) else (
    bX5_holds_32 o Q M a1 s0 x4 a1 x5 0
  )
set_option maxRecDepth 100000 in
set_option maxHeartbeats 4000000 in
theorem tbX5_holds_15 {κ : hKx} {M0 : hM} {sz : Nat} {o : Nat} {Q : hM → Prop} (E : Ce κ RX5 cX5_holds wsX5_holds none M0 sz (hQv Q) (fun _ _ => False) 0 0) (hR : kR κ = rmX5_holds) (ht : ∀ x ∈ (kc κ).exceptionTable.toList, False)  {M : hM} {a1 : Int32} {s0 : Int32}  (h : bX5_holds_15 o Q M a1 s0) : VW κ 0 0 M 15 [some (va_rf (some o)), some (.int a1), none] [.int s0] := by
  unfold bX5_holds_15 at h
  have F := E.1
  have C := F.1
  refine v_istore_n C (pc := 15) (i := 2) (lv' := [some (va_rf (some o)), some (.int a1), some (.int s0)]) dX5_holds_15 rfl rfl ?_
  refine v_aload_n C (pc := 16) (i := 0) dX5_holds_16 rfl ?_
  obtain ⟨x4, e4, h⟩ := h
  refine v_getR C (pc := 17) (ci := 5) 27 iwX5_holds_X5 rfl (by decide) flX5_holds_77 e4 dX5_holds_17 ?_
  refine v_iload_n C (pc := 20) (i := 1) dX5_holds_20 rfl ?_
  refine v_dup2 C (pc := 21) dX5_holds_21 (rfl) (rf_cat _) ?_
  obtain ⟨x5, e5, h⟩ := h
  refine v_iald C (pc := 22) e5 dX5_holds_22 ?_
  refine v_iload_n C (pc := 23) (i := 2) dX5_holds_23 rfl ?_
  refine v_if_eq C (pc := 24) (tgt := 31) dX5_holds_24 (by decide) (fun c6 => ?_) (fun c6 => ?_)
  · rw [if_pos c6] at h
    refine v_iconst C (pc := 31) (v := 1) dX5_holds_31 (by decide) ?_
    exact tbX5_holds_32 E hR ht  h
  · rw [if_neg c6] at h
    refine v_iconst C (pc := 27) (v := 0) dX5_holds_27 (by decide) ?_
    refine v_goto C (pc := 28) (tgt := 32) dX5_holds_28 (by decide) ?_
    exact tbX5_holds_32 E hR ht  h
def wX5_holds (M : hM) (o : Nat) (a1 : Int32) (Q : hM → Prop) : Prop :=
  ∃ x1, gR M 5 22 (some o) = some x1 ∧
  ∃ x2, aI M 0 x1 a1 = some x2 ∧
  if (x2 : Int32) = 2 then (
    bX5_holds_15 o Q M a1 1
  ) else (
    bX5_holds_15 o Q M a1 0
  )
set_option maxRecDepth 100000 in
set_option maxHeartbeats 4000000 in
theorem cX5_holds_met (l : Launch) (hfl : l.stackTraces = false) (G : hG) (M : hM) {o : Nat} {a1 : Int32} {Q : hM → Prop} (h : wX5_holds M o a1 Q) : hEMet l yX5_holds wsX5_holds rmX5_holds [.ref o, .int a1] G M (hQv Q) (fun _ _ => False) 0 0 := by
  refine he_entry (own := RX5) (cc := cX5_holds) (maxL := 3) (ret := none) (lv := [some (va_rf (some o)), some (.int a1), none]) hfl (by decide) rfl rfl (hcc rfl (hcc rfl hc0)) (Nat.le_of_ble_eq_true rfl) rfl (fun κ sz hG hl hR E ht hn => ?_)
  subst hG; subst hl
  unfold wX5_holds at h
  have F := E.1
  have C := F.1
  refine v_aload_n C (pc := 0) (i := 0) dX5_holds_0 rfl ?_
  obtain ⟨x1, e1, h⟩ := h
  refine v_getR C (pc := 1) (ci := 5) 22 iwX5_holds_X5 rfl (by decide) flX5_holds_62 e1 dX5_holds_1 ?_
  refine v_iload_n C (pc := 4) (i := 1) dX5_holds_4 rfl ?_
  obtain ⟨x2, e2, h⟩ := h
  refine v_iald C (pc := 5) e2 dX5_holds_5 ?_
  refine v_iconst C (pc := 6) (v := 2) dX5_holds_6 (by decide) ?_
  refine v_icmp_ne C (pc := 7) (tgt := 14) dX5_holds_7 (by decide) (fun c3 => ?_) (fun c3 => ?_)
  · rw [if_neg c3] at h
    refine v_iconst C (pc := 14) (v := 0) dX5_holds_14 (by decide) ?_
    exact tbX5_holds_15 E hR ht  h
  · rw [if_pos c3] at h
    refine v_iconst C (pc := 10) (v := 1) dX5_holds_10 (by decide) ?_
    refine v_goto C (pc := 11) (tgt := 15) dX5_holds_11 (by decide) ?_
    exact tbX5_holds_15 E hR ht  h
/-! X5_pass -/
abbrev rmX5_pass : Room := { frames := 1, cells := 0, slots := 0, locals := 22 }
theorem iwX5_pass_X5 : ∀ w ∈ u_ws RX5 TX5 38, w ∈ wsX5_pass := fun _ h => List.mem_cons_of_mem _ (List.mem_append_right _ (h))
theorem flX5_pass_135 : Cond.fieldLink RX5 135 "ChargehouseModel" "day" "I" ∈ wsX5_pass := List.mem_cons_of_mem _ (List.mem_append_left _ (List.mem_of_getElem? (i := 0) rfl))
theorem flX5_pass_74 : Cond.fieldLink RX5 74 "ChargehouseModel" "isHeld" "[Z" ∈ wsX5_pass := List.mem_cons_of_mem _ (List.mem_append_left _ (List.mem_of_getElem? (i := 1) rfl))
def lX5_pass_49 (o : Nat) (k42 : hM → Int32 → Prop) (Q : hM → Int32 → Prop) (a1 : Int32) (a2 : Int32) : Nat → hM → Int32 → Prop
  | 0, _, _ => False
  | n + 1, M, a3 =>
    if (48 : Int32) ≤ a3 then (
      k42 M (a2 + 1)
    ) else (
      ∃ x14, gR M 5 26 (some o) = some x14 ∧
      ∃ x15, aI M 1 x14 a3 = some x15 ∧
      if (x15 : Int32) = 0 then (
        (lX5_pass_49 o k42 Q a1 a2 n) M (a3 + 1)
      ) else (
        ∃ y18, hC M 5 (some o) = some y18 ∧
        wX5_holds M o a3 (fun M19 =>
        (lX5_pass_49 o k42 Q a1 a2 n) M19 (a3 + 1))
      )
    )
set_option maxRecDepth 100000 in
set_option maxHeartbeats 4000000 in
theorem tlX5_pass_49 {κ : hKx} {M0 : hM} {sz : Nat} {o : Nat} {Q : hM → Int32 → Prop} (E : Ce κ RX5 cX5_pass wsX5_pass (some .int) M0 sz (hQi Q) (fun _ _ => False) 0 0) (hR : kR κ = rmX5_pass) (ht : ∀ x ∈ (kc κ).exceptionTable.toList, False) {k42 : hM → Int32 → Prop} {a1 : Int32} {a2 : Int32} (hk42 : ∀ (M : hM) (a2 : Int32), k42 M a2 → VW κ 0 0 M 42 [some (va_rf (some o)), some (.int a1), some (.int a2), none] []) : ∀ (n : Nat) (M : hM) (a3 : Int32), lX5_pass_49 o k42 Q a1 a2 n M a3 → VW κ 0 0 M 49 [some (va_rf (some o)), some (.int a1), some (.int a2), some (.int a3)] [] := by
  have F := E.1
  have C := F.1
  intro n
  induction n with
  | zero =>
    intro M a3 h
    unfold lX5_pass_49 at h
    exact h.elim
  | succ n ih =>
    intro M a3 h
    unfold lX5_pass_49 at h
    refine v_iload_n C (pc := 49) (i := 3) dX5_pass_49 rfl ?_
    refine v_bipush C (pc := 50) (v := 48) dX5_pass_50 (by decide) ?_
    refine v_icmp_ge C (pc := 52) (tgt := 75) dX5_pass_52 (by decide) (fun c13 => ?_) (fun c13 => ?_)
    · rw [if_pos c13] at h
      refine v_iinc C (pc := 75) (i := 2) (w := 1) (lv' := [some (va_rf (some o)), some (.int a1), some (.int (a2 + 1)), some (.int a3)]) dX5_pass_75 rfl (by decide) rfl ?_
      refine v_goto C (pc := 78) (tgt := 42) dX5_pass_78 (by decide) ?_
      refine v_mask (lv' := [some (va_rf (some o)), some (.int a1), some (.int (a2 + 1)), none]) [true, true, true, false] rfl rfl ?_
      exact hk42 _ _ h
    · rw [if_neg c13] at h
      refine v_aload_n C (pc := 55) (i := 0) dX5_pass_55 rfl ?_
      obtain ⟨x14, e14, h⟩ := h
      refine v_getR C (pc := 56) (ci := 5) 26 iwX5_pass_X5 rfl (by decide) flX5_pass_74 e14 dX5_pass_56 ?_
      refine v_iload_n C (pc := 59) (i := 3) dX5_pass_59 rfl ?_
      obtain ⟨x15, e15, h⟩ := h
      refine v_zald C (pc := 60) e15 dX5_pass_60 ?_
      refine v_if_eq C (pc := 61) (tgt := 69) dX5_pass_61 (by decide) (fun c16 => ?_) (fun c16 => ?_)
      · rw [if_pos c16] at h
        refine v_iinc C (pc := 69) (i := 3) (w := 1) (lv' := [some (va_rf (some o)), some (.int a1), some (.int a2), some (.int (a3 + 1))]) dX5_pass_69 rfl (by decide) rfl ?_
        refine v_goto C (pc := 72) (tgt := 49) dX5_pass_72 (by decide) ?_
        exact ih _ _ h
      · rw [if_neg c16] at h
        refine v_aload_n C (pc := 64) (i := 0) dX5_pass_64 rfl ?_
        refine v_iload_n C (pc := 65) (i := 3) dX5_pass_65 rfl ?_
        obtain ⟨y18, hy18, h⟩ := h
        obtain ⟨fsy18, hfy18⟩ := hC_some hy18
        refine v_nV F (pc := 66) (ci := 5) [.int a3] 1 (cX5_holds_met (kl κ) F.2.2.2.1 (kG κ) _ h) hfy18 rfl gX5_pass_X5_holds rfl hdX5_holds rfl rfl rfl (by rw [hR]; exact ⟨Nat.le_of_ble_eq_true rfl, Nat.le_of_ble_eq_true rfl⟩) (by rw [hR]; decide) (Nat.le_of_ble_eq_true rfl) rfl dX5_pass_66 (hk_v fun M19 h => ?_)
        refine v_iinc C (pc := 69) (i := 3) (w := 1) (lv' := [some (va_rf (some o)), some (.int a1), some (.int a2), some (.int (a3 + 1))]) dX5_pass_69 rfl (by decide) rfl ?_
        refine v_goto C (pc := 72) (tgt := 49) dX5_pass_72 (by decide) ?_
        exact ih _ _ h
def lX5_pass_42 (o : Nat) (Q : hM → Int32 → Prop) (a1 : Int32) : Nat → hM → Int32 → Prop
  | 0, _, _ => False
  | n + 1, M, a2 =>
    if (a1 : Int32) ≤ a2 then (
      ∃ x10, gI M 5 1 (some o) = some x10 ∧
      ∃ M11, pV M 5 1 (some o) (.int (x10 + a1)) = some M11 ∧
      ∃ x12, gI M11 5 1 (some o) = some x12 ∧
      Q M11 x12
    ) else (
      lX5_pass_49 o (lX5_pass_42 o Q a1 n) Q a1 a2 1000 M 0
    )
set_option maxRecDepth 100000 in
set_option maxHeartbeats 4000000 in
theorem tlX5_pass_42 {κ : hKx} {M0 : hM} {sz : Nat} {o : Nat} {Q : hM → Int32 → Prop} (E : Ce κ RX5 cX5_pass wsX5_pass (some .int) M0 sz (hQi Q) (fun _ _ => False) 0 0) (hR : kR κ = rmX5_pass) (ht : ∀ x ∈ (kc κ).exceptionTable.toList, False)  {a1 : Int32}  : ∀ (n : Nat) (M : hM) (a2 : Int32), lX5_pass_42 o Q a1 n M a2 → VW κ 0 0 M 42 [some (va_rf (some o)), some (.int a1), some (.int a2), none] [] := by
  have F := E.1
  have C := F.1
  intro n
  induction n with
  | zero =>
    intro M a2 h
    unfold lX5_pass_42 at h
    exact h.elim
  | succ n ih =>
    intro M a2 h
    unfold lX5_pass_42 at h
    refine v_iload_n C (pc := 42) (i := 2) dX5_pass_42 rfl ?_
    refine v_iload_n C (pc := 43) (i := 1) dX5_pass_43 rfl ?_
    refine v_icmp_ge C (pc := 44) (tgt := 81) dX5_pass_44 (by decide) (fun c9 => ?_) (fun c9 => ?_)
    · rw [if_pos c9] at h
      refine v_aload_n C (pc := 81) (i := 0) dX5_pass_81 rfl ?_
      refine v_dup C (pc := 82) dX5_pass_82 (rf_cat _) ?_
      obtain ⟨x10, e10, h⟩ := h
      refine v_getI C (pc := 83) (ci := 5) 1 iwX5_pass_X5 rfl (by decide) flX5_pass_135 e10 dX5_pass_83 ?_
      refine v_iload_n C (pc := 86) (i := 1) dX5_pass_86 rfl ?_
      refine v_iadd C (pc := 87) dX5_pass_87 ?_
      obtain ⟨M11, e11, h⟩ := h
      refine v_put F (pc := 88) (ci := 5) (ty := .int) 1 iwX5_pass_X5 tyX5 tyX5_ok nmX5 rfl (by decide) flX5_pass_135 rfl rfl (nar_int _) (fit_int _) e11 dX5_pass_88 ?_
      refine v_aload_n C (pc := 91) (i := 0) dX5_pass_91 rfl ?_
      obtain ⟨x12, e12, h⟩ := h
      refine v_getI C (pc := 92) (ci := 5) 1 iwX5_pass_X5 rfl (by decide) flX5_pass_135 e12 dX5_pass_92 ?_
      exact v_eret (pc := 95) E rfl (nar_int _) ⟨_, rfl, h⟩ (by decide) (by decide) dX5_pass_95
    · rw [if_neg c9] at h
      refine v_iconst C (pc := 47) (v := 0) dX5_pass_47 (by decide) ?_
      refine v_istore_n C (pc := 48) (i := 3) (lv' := [some (va_rf (some o)), some (.int a1), some (.int a2), some (.int 0)]) dX5_pass_48 rfl rfl ?_
      exact tlX5_pass_49 E hR ht (fun q0 q1 h => ih q0 q1 h) 1000 _ _ h
def bX5_pass_32 (o : Nat) (Q : hM → Int32 → Prop) (M : hM) (a1 : Int32) (s0 : Option Nat) (s1 : Int32) : Prop :=
  ∃ y6, hC M 5 s0 = some y6 ∧
  wX5_refused M y6 s1 (fun M7 x5 =>
  if (x5 : Int32) = 0 then (
    lX5_pass_42 o Q a1 1000 M7 0
  ) else (
    Q M7 0
  ))
set_option maxRecDepth 100000 in
set_option maxHeartbeats 4000000 in
theorem tbX5_pass_32 {κ : hKx} {M0 : hM} {sz : Nat} {o : Nat} {Q : hM → Int32 → Prop} (E : Ce κ RX5 cX5_pass wsX5_pass (some .int) M0 sz (hQi Q) (fun _ _ => False) 0 0) (hR : kR κ = rmX5_pass) (ht : ∀ x ∈ (kc κ).exceptionTable.toList, False)  {M : hM} {a1 : Int32} {s0 : Option Nat} {s1 : Int32}  (h : bX5_pass_32 o Q M a1 s0 s1) : VW κ 0 0 M 32 [some (va_rf (some o)), some (.int a1), none, none] [.int s1, va_rf s0] := by
  unfold bX5_pass_32 at h
  have F := E.1
  have C := F.1
  obtain ⟨y6, hy6, hh⟩ := h
  skip
  obtain ⟨rfl, fsy6, hfy6⟩ := hC_inv hy6
  have h := hh
  clear hh
  refine v_nV F (pc := 32) (ci := 5) [.int s1] 1 (cX5_refused_met (kl κ) F.2.2.2.1 (kG κ) _ h) hfy6 rfl gX5_pass_X5_refused rfl hdX5_refused rfl rfl rfl (by rw [hR]; exact ⟨Nat.le_of_ble_eq_true rfl, Nat.le_of_ble_eq_true rfl⟩) (by rw [hR]; decide) (Nat.le_of_ble_eq_true rfl) rfl dX5_pass_32 (hk_i fun M7 x5 h => ?_)
  refine v_if_eq C (pc := 35) (tgt := 40) dX5_pass_35 (by decide) (fun c8 => ?_) (fun c8 => ?_)
  · rw [if_pos c8] at h
    refine v_iconst C (pc := 40) (v := 0) dX5_pass_40 (by decide) ?_
    refine v_istore_n C (pc := 41) (i := 2) (lv' := [some (va_rf (some o)), some (.int a1), some (.int 0), none]) dX5_pass_41 rfl rfl ?_
    exact tlX5_pass_42 E hR ht  1000 _ _ h
  · rw [if_neg c8] at h
    refine v_iconst C (pc := 38) (v := 0) dX5_pass_38 (by decide) ?_
    exact v_eret (pc := 39) E rfl (nar_int _) ⟨_, rfl, h⟩ (by decide) (by decide) dX5_pass_39
def wX5_pass (M : hM) (o : Nat) (a1 : Int32) (Q : hM → Int32 → Prop) : Prop :=
  ∃ x1, fX5_in a1 1 100 = some x1 ∧
  if (x1 : Int32) = 0 then (
    bX5_pass_32 o Q M a1 (some o) 1
  ) else (
    ∃ x3, gI M 5 1 (some o) = some x3 ∧
    if ((x3 + a1) : Int32) ≤ 5000 then (
      bX5_pass_32 o Q M a1 (some o) 0
    ) else (
      bX5_pass_32 o Q M a1 (some o) 2
    )
  )
set_option maxRecDepth 100000 in
set_option maxHeartbeats 4000000 in
theorem cX5_pass_met (l : Launch) (hfl : l.stackTraces = false) (G : hG) (M : hM) {o : Nat} {a1 : Int32} {Q : hM → Int32 → Prop} (h : wX5_pass M o a1 Q) : hEMet l yX5_pass wsX5_pass rmX5_pass [.ref o, .int a1] G M (hQi Q) (fun _ _ => False) 0 0 := by
  refine he_entry (own := RX5) (cc := cX5_pass) (maxL := 4) (ret := (some .int)) (lv := [some (va_rf (some o)), some (.int a1), none, none]) hfl (by decide) rfl rfl (hcc rfl (hcc rfl hc0)) (Nat.le_of_ble_eq_true rfl) rfl (fun κ sz hG hl hR E ht hn => ?_)
  subst hG; subst hl
  unfold wX5_pass at h
  have F := E.1
  have C := F.1
  refine v_aload_n C (pc := 0) (i := 0) dX5_pass_0 rfl ?_
  refine v_iload_n C (pc := 1) (i := 1) dX5_pass_1 rfl ?_
  refine v_iconst C (pc := 2) (v := 1) dX5_pass_2 (by decide) ?_
  refine v_bipush C (pc := 3) (v := 100) dX5_pass_3 (by decide) ?_
  obtain ⟨x1, e1, h⟩ := h
  refine v_pS C (pc := 5) [.int a1, .int 1, .int 100] 3 (cX5_in_met (kl κ) (kG κ) _ e1) gX5_pass_X5_in rfl hdsX5_in rfl rfl rfl (by rw [hR]; exact ⟨Nat.le_of_ble_eq_true rfl, Nat.le_of_ble_eq_true rfl⟩) (by rw [hR]; decide) (Nat.le_of_ble_eq_true rfl) rfl dX5_pass_5 ?_
  refine v_if_ne C (pc := 8) (tgt := 15) dX5_pass_8 (by decide) (fun c2 => ?_) (fun c2 => ?_)
  · rw [if_neg c2] at h
    refine v_aload_n C (pc := 15) (i := 0) dX5_pass_15 rfl ?_
    obtain ⟨x3, e3, h⟩ := h
    refine v_getI C (pc := 16) (ci := 5) 1 iwX5_pass_X5 rfl (by decide) flX5_pass_135 e3 dX5_pass_16 ?_
    refine v_iload_n C (pc := 19) (i := 1) dX5_pass_19 rfl ?_
    refine v_iadd C (pc := 20) dX5_pass_20 ?_
    refine v_sipush C (pc := 21) (v := 5000) dX5_pass_21 (by decide) ?_
    refine v_icmp_le C (pc := 24) (tgt := 31) dX5_pass_24 (by decide) (fun c4 => ?_) (fun c4 => ?_)
    · rw [if_pos c4] at h
      refine v_iconst C (pc := 31) (v := 0) dX5_pass_31 (by decide) ?_
      exact tbX5_pass_32 E hR ht  h
    · rw [if_neg c4] at h
      refine v_iconst C (pc := 27) (v := 2) dX5_pass_27 (by decide) ?_
      refine v_goto C (pc := 28) (tgt := 32) dX5_pass_28 (by decide) ?_
      exact tbX5_pass_32 E hR ht  h
  · rw [if_pos c2] at h
    refine v_iconst C (pc := 11) (v := 1) dX5_pass_11 (by decide) ?_
    refine v_goto C (pc := 12) (tgt := 32) dX5_pass_12 (by decide) ?_
    exact tbX5_pass_32 E hR ht  h
/-! X5_file -/
abbrev rmX5_file : Room := { frames := 1, cells := 0, slots := 0, locals := 22 }
theorem iwX5_file_X5 : ∀ w ∈ u_ws RX5 TX5 38, w ∈ wsX5_file := fun _ h => List.mem_cons_of_mem _ (List.mem_append_right _ (h))
theorem flX5_file_121 : Cond.fieldLink RX5 121 "ChargehouseModel" "files" "I" ∈ wsX5_file := List.mem_cons_of_mem _ (List.mem_append_left _ (List.mem_of_getElem? (i := 1) rfl))
theorem flX5_file_135 : Cond.fieldLink RX5 135 "ChargehouseModel" "day" "I" ∈ wsX5_file := List.mem_cons_of_mem _ (List.mem_append_left _ (List.mem_of_getElem? (i := 0) rfl))
theorem flX5_file_22 : Cond.fieldLink RX5 22 "ChargehouseModel" "events" "[I" ∈ wsX5_file := List.mem_cons_of_mem _ (List.mem_append_left _ (List.mem_of_getElem? (i := 2) rfl))
theorem flX5_file_25 : Cond.fieldLink RX5 25 "ChargehouseModel" "accused" "[I" ∈ wsX5_file := List.mem_cons_of_mem _ (List.mem_append_left _ (List.mem_of_getElem? (i := 3) rfl))
theorem flX5_file_28 : Cond.fieldLink RX5 28 "ChargehouseModel" "points" "[I" ∈ wsX5_file := List.mem_cons_of_mem _ (List.mem_append_left _ (List.mem_of_getElem? (i := 4) rfl))
def bX5_file_65 (o : Nat) (Q : hM → Int32 → Prop) (M : hM) (a1 : Int32) (a2 : Int32) (a3 : Int32) (s0 : Option Nat) (s1 : Int32) : Prop :=
  ∃ y8, hC M 5 s0 = some y8 ∧
  wX5_refused M y8 s1 (fun M9 x7 =>
  if (x7 : Int32) = 0 then (
    ∃ x11, gR M9 5 8 (some o) = some x11 ∧
    ∃ x12, gI M9 5 7 (some o) = some x12 ∧
    ∃ M13, sI M9 0 x11 x12 a1 = some M13 ∧
    ∃ x14, gR M13 5 9 (some o) = some x14 ∧
    ∃ x15, gI M13 5 7 (some o) = some x15 ∧
    ∃ M16, sI M13 0 x14 x15 a2 = some M16 ∧
    ∃ x17, gR M16 5 10 (some o) = some x17 ∧
    ∃ x18, gI M16 5 7 (some o) = some x18 ∧
    ∃ M19, sI M16 0 x17 x18 a3 = some M19 ∧
    ∃ x20, gI M19 5 7 (some o) = some x20 ∧
    ∃ M21, pV M19 5 7 (some o) (.int (x20 + 1)) = some M21 ∧
    ∃ x22, gI M21 5 7 (some o) = some x22 ∧
    Q M21 (x22 - 1)
  ) else (
    Q M9 0
  ))
set_option maxRecDepth 100000 in
set_option maxHeartbeats 4000000 in
theorem tbX5_file_65 {κ : hKx} {M0 : hM} {sz : Nat} {o : Nat} {Q : hM → Int32 → Prop} (E : Ce κ RX5 cX5_file wsX5_file (some .int) M0 sz (hQi Q) (fun _ _ => False) 0 0) (hR : kR κ = rmX5_file) (ht : ∀ x ∈ (kc κ).exceptionTable.toList, False)  {M : hM} {a1 : Int32} {a2 : Int32} {a3 : Int32} {s0 : Option Nat} {s1 : Int32}  (h : bX5_file_65 o Q M a1 a2 a3 s0 s1) : VW κ 0 0 M 65 [some (va_rf (some o)), some (.int a1), some (.int a2), some (.int a3), none] [.int s1, va_rf s0] := by
  unfold bX5_file_65 at h
  have F := E.1
  have C := F.1
  obtain ⟨y8, hy8, hh⟩ := h
  skip
  obtain ⟨rfl, fsy8, hfy8⟩ := hC_inv hy8
  have h := hh
  clear hh
  refine v_nV F (pc := 65) (ci := 5) [.int s1] 1 (cX5_refused_met (kl κ) F.2.2.2.1 (kG κ) _ h) hfy8 rfl gX5_file_X5_refused rfl hdX5_refused rfl rfl rfl (by rw [hR]; exact ⟨Nat.le_of_ble_eq_true rfl, Nat.le_of_ble_eq_true rfl⟩) (by rw [hR]; decide) (Nat.le_of_ble_eq_true rfl) rfl dX5_file_65 (hk_i fun M9 x7 h => ?_)
  refine v_if_eq C (pc := 68) (tgt := 73) dX5_file_68 (by decide) (fun c10 => ?_) (fun c10 => ?_)
  · rw [if_pos c10] at h
    refine v_aload_n C (pc := 73) (i := 0) dX5_file_73 rfl ?_
    obtain ⟨x11, e11, h⟩ := h
    refine v_getR C (pc := 74) (ci := 5) 8 iwX5_file_X5 rfl (by decide) flX5_file_22 e11 dX5_file_74 ?_
    refine v_aload_n C (pc := 77) (i := 0) dX5_file_77 rfl ?_
    obtain ⟨x12, e12, h⟩ := h
    refine v_getI C (pc := 78) (ci := 5) 7 iwX5_file_X5 rfl (by decide) flX5_file_121 e12 dX5_file_78 ?_
    refine v_iload_n C (pc := 81) (i := 1) dX5_file_81 rfl ?_
    obtain ⟨M13, e13, h⟩ := h
    refine v_iast F (pc := 82) e13 dX5_file_82 ?_
    refine v_aload_n C (pc := 83) (i := 0) dX5_file_83 rfl ?_
    obtain ⟨x14, e14, h⟩ := h
    refine v_getR C (pc := 84) (ci := 5) 9 iwX5_file_X5 rfl (by decide) flX5_file_25 e14 dX5_file_84 ?_
    refine v_aload_n C (pc := 87) (i := 0) dX5_file_87 rfl ?_
    obtain ⟨x15, e15, h⟩ := h
    refine v_getI C (pc := 88) (ci := 5) 7 iwX5_file_X5 rfl (by decide) flX5_file_121 e15 dX5_file_88 ?_
    refine v_iload_n C (pc := 91) (i := 2) dX5_file_91 rfl ?_
    obtain ⟨M16, e16, h⟩ := h
    refine v_iast F (pc := 92) e16 dX5_file_92 ?_
    refine v_aload_n C (pc := 93) (i := 0) dX5_file_93 rfl ?_
    obtain ⟨x17, e17, h⟩ := h
    refine v_getR C (pc := 94) (ci := 5) 10 iwX5_file_X5 rfl (by decide) flX5_file_28 e17 dX5_file_94 ?_
    refine v_aload_n C (pc := 97) (i := 0) dX5_file_97 rfl ?_
    obtain ⟨x18, e18, h⟩ := h
    refine v_getI C (pc := 98) (ci := 5) 7 iwX5_file_X5 rfl (by decide) flX5_file_121 e18 dX5_file_98 ?_
    refine v_iload_n C (pc := 101) (i := 3) dX5_file_101 rfl ?_
    obtain ⟨M19, e19, h⟩ := h
    refine v_iast F (pc := 102) e19 dX5_file_102 ?_
    refine v_aload_n C (pc := 103) (i := 0) dX5_file_103 rfl ?_
    refine v_dup C (pc := 104) dX5_file_104 (rf_cat _) ?_
    obtain ⟨x20, e20, h⟩ := h
    refine v_getI C (pc := 105) (ci := 5) 7 iwX5_file_X5 rfl (by decide) flX5_file_121 e20 dX5_file_105 ?_
    refine v_iconst C (pc := 108) (v := 1) dX5_file_108 (by decide) ?_
    refine v_iadd C (pc := 109) dX5_file_109 ?_
    obtain ⟨M21, e21, h⟩ := h
    refine v_put F (pc := 110) (ci := 5) (ty := .int) 7 iwX5_file_X5 tyX5 tyX5_ok nmX5 rfl (by decide) flX5_file_121 rfl rfl (nar_int _) (fit_int _) e21 dX5_file_110 ?_
    refine v_aload_n C (pc := 113) (i := 0) dX5_file_113 rfl ?_
    obtain ⟨x22, e22, h⟩ := h
    refine v_getI C (pc := 114) (ci := 5) 7 iwX5_file_X5 rfl (by decide) flX5_file_121 e22 dX5_file_114 ?_
    refine v_iconst C (pc := 117) (v := 1) dX5_file_117 (by decide) ?_
    refine v_isub C (pc := 118) dX5_file_118 ?_
    exact v_eret (pc := 119) E rfl (nar_int _) ⟨_, rfl, h⟩ (by decide) (by decide) dX5_file_119
  · rw [if_neg c10] at h
    refine v_iconst C (pc := 71) (v := 0) dX5_file_71 (by decide) ?_
    exact v_eret (pc := 72) E rfl (nar_int _) ⟨_, rfl, h⟩ (by decide) (by decide) dX5_file_72
def bX5_file_39 (o : Nat) (Q : hM → Int32 → Prop) (M : hM) (a1 : Int32) (a2 : Int32) (a3 : Int32) (s0 : Int32) : Prop :=
  if (s0 : Int32) = 0 then (
    bX5_file_65 o Q M a1 a2 a3 (some o) 1
  ) else (
    ∃ x5, gI M 5 7 (some o) = some x5 ∧
    if (x5 : Int32) = 6 then (
      bX5_file_65 o Q M a1 a2 a3 (some o) 2
    ) else (
      bX5_file_65 o Q M a1 a2 a3 (some o) 0
    )
  )
set_option maxRecDepth 100000 in
set_option maxHeartbeats 4000000 in
theorem tbX5_file_39 {κ : hKx} {M0 : hM} {sz : Nat} {o : Nat} {Q : hM → Int32 → Prop} (E : Ce κ RX5 cX5_file wsX5_file (some .int) M0 sz (hQi Q) (fun _ _ => False) 0 0) (hR : kR κ = rmX5_file) (ht : ∀ x ∈ (kc κ).exceptionTable.toList, False)  {M : hM} {a1 : Int32} {a2 : Int32} {a3 : Int32} {s0 : Int32}  (h : bX5_file_39 o Q M a1 a2 a3 s0) : VW κ 0 0 M 39 [some (va_rf (some o)), some (.int a1), some (.int a2), some (.int a3), none] [.int s0] := by
  unfold bX5_file_39 at h
  have F := E.1
  have C := F.1
  refine v_istore C (pc := 39) (i := 4) (lv' := [some (va_rf (some o)), some (.int a1), some (.int a2), some (.int a3), some (.int s0)]) dX5_file_39 rfl rfl ?_
  refine v_aload_n C (pc := 41) (i := 0) dX5_file_41 rfl ?_
  refine v_iload C (pc := 42) (i := 4) dX5_file_42 rfl ?_
  refine v_if_ne C (pc := 44) (tgt := 51) dX5_file_44 (by decide) (fun c4 => ?_) (fun c4 => ?_)
  · rw [if_neg c4] at h
    refine v_aload_n C (pc := 51) (i := 0) dX5_file_51 rfl ?_
    obtain ⟨x5, e5, h⟩ := h
    refine v_getI C (pc := 52) (ci := 5) 7 iwX5_file_X5 rfl (by decide) flX5_file_121 e5 dX5_file_52 ?_
    refine v_bipush C (pc := 55) (v := 6) dX5_file_55 (by decide) ?_
    refine v_icmp_ne C (pc := 57) (tgt := 64) dX5_file_57 (by decide) (fun c6 => ?_) (fun c6 => ?_)
    · rw [if_neg c6] at h
      refine v_iconst C (pc := 64) (v := 0) dX5_file_64 (by decide) ?_
      refine v_mask (lv' := [some (va_rf (some o)), some (.int a1), some (.int a2), some (.int a3), none]) [true, true, true, true, false] rfl rfl ?_
      exact tbX5_file_65 E hR ht  h
    · rw [if_pos c6] at h
      refine v_iconst C (pc := 60) (v := 2) dX5_file_60 (by decide) ?_
      refine v_goto C (pc := 61) (tgt := 65) dX5_file_61 (by decide) ?_
      refine v_mask (lv' := [some (va_rf (some o)), some (.int a1), some (.int a2), some (.int a3), none]) [true, true, true, true, false] rfl rfl ?_
      exact tbX5_file_65 E hR ht  h
  · rw [if_pos c4] at h
    refine v_iconst C (pc := 47) (v := 1) dX5_file_47 (by decide) ?_
    refine v_goto C (pc := 48) (tgt := 65) dX5_file_48 (by decide) ?_
    refine v_mask (lv' := [some (va_rf (some o)), some (.int a1), some (.int a2), some (.int a3), none]) [true, true, true, true, false] rfl rfl ?_
    exact tbX5_file_65 E hR ht  h
def bX5_file_38 (o : Nat) (Q : hM → Int32 → Prop) (M : hM) (a1 : Int32) (a2 : Int32) (a3 : Int32) : Prop :=
  bX5_file_39 o Q M a1 a2 a3 0
set_option maxRecDepth 100000 in
set_option maxHeartbeats 4000000 in
theorem tbX5_file_38 {κ : hKx} {M0 : hM} {sz : Nat} {o : Nat} {Q : hM → Int32 → Prop} (E : Ce κ RX5 cX5_file wsX5_file (some .int) M0 sz (hQi Q) (fun _ _ => False) 0 0) (hR : kR κ = rmX5_file) (ht : ∀ x ∈ (kc κ).exceptionTable.toList, False)  {M : hM} {a1 : Int32} {a2 : Int32} {a3 : Int32}  (h : bX5_file_38 o Q M a1 a2 a3) : VW κ 0 0 M 38 [some (va_rf (some o)), some (.int a1), some (.int a2), some (.int a3), none] [] := by
  unfold bX5_file_38 at h
  have F := E.1
  have C := F.1
  refine v_iconst C (pc := 38) (v := 0) dX5_file_38 (by decide) ?_
  exact tbX5_file_39 E hR ht  h
def wX5_file (M : hM) (o : Nat) (a1 : Int32) (a2 : Int32) (a3 : Int32) (Q : hM → Int32 → Prop) : Prop :=
  ∃ x1, gI M 5 1 (some o) = some x1 ∧
  ∃ x2, fX5_in a1 0 x1 = some x2 ∧
  if (x2 : Int32) = 0 then (
    bX5_file_38 o Q M a1 a2 a3
  ) else (
    ∃ x23, fX5_in a2 1 255 = some x23 ∧
    if (x23 : Int32) = 0 then (
      bX5_file_38 o Q M a1 a2 a3
    ) else (
      ∃ x25, fX5_in a3 (-9) 9 = some x25 ∧
      if (x25 : Int32) = 0 then (
        bX5_file_38 o Q M a1 a2 a3
      ) else (
        bX5_file_39 o Q M a1 a2 a3 1
      )
    )
  )
set_option maxRecDepth 100000 in
set_option maxHeartbeats 4000000 in
theorem cX5_file_met (l : Launch) (hfl : l.stackTraces = false) (G : hG) (M : hM) {o : Nat} {a1 : Int32} {a2 : Int32} {a3 : Int32} {Q : hM → Int32 → Prop} (h : wX5_file M o a1 a2 a3 Q) : hEMet l yX5_file wsX5_file rmX5_file [.ref o, .int a1, .int a2, .int a3] G M (hQi Q) (fun _ _ => False) 0 0 := by
  refine he_entry (own := RX5) (cc := cX5_file) (maxL := 5) (ret := (some .int)) (lv := [some (va_rf (some o)), some (.int a1), some (.int a2), some (.int a3), none]) hfl (by decide) rfl rfl (hcc rfl (hcc rfl (hcc rfl (hcc rfl hc0)))) (Nat.le_of_ble_eq_true rfl) rfl (fun κ sz hG hl hR E ht hn => ?_)
  subst hG; subst hl
  unfold wX5_file at h
  have F := E.1
  have C := F.1
  refine v_iload_n C (pc := 0) (i := 1) dX5_file_0 rfl ?_
  refine v_iconst C (pc := 1) (v := 0) dX5_file_1 (by decide) ?_
  refine v_aload_n C (pc := 2) (i := 0) dX5_file_2 rfl ?_
  obtain ⟨x1, e1, h⟩ := h
  refine v_getI C (pc := 3) (ci := 5) 1 iwX5_file_X5 rfl (by decide) flX5_file_135 e1 dX5_file_3 ?_
  obtain ⟨x2, e2, h⟩ := h
  refine v_pS C (pc := 6) [.int a1, .int 0, .int x1] 3 (cX5_in_met (kl κ) (kG κ) _ e2) gX5_file_X5_in rfl hdsX5_in rfl rfl rfl (by rw [hR]; exact ⟨Nat.le_of_ble_eq_true rfl, Nat.le_of_ble_eq_true rfl⟩) (by rw [hR]; decide) (Nat.le_of_ble_eq_true rfl) rfl dX5_file_6 ?_
  refine v_if_eq C (pc := 9) (tgt := 38) dX5_file_9 (by decide) (fun c3 => ?_) (fun c3 => ?_)
  · rw [if_pos c3] at h
    exact tbX5_file_38 E hR ht  h
  · rw [if_neg c3] at h
    refine v_iload_n C (pc := 12) (i := 2) dX5_file_12 rfl ?_
    refine v_iconst C (pc := 13) (v := 1) dX5_file_13 (by decide) ?_
    refine v_sipush C (pc := 14) (v := 255) dX5_file_14 (by decide) ?_
    obtain ⟨x23, e23, h⟩ := h
    refine v_pS C (pc := 17) [.int a2, .int 1, .int 255] 3 (cX5_in_met (kl κ) (kG κ) _ e23) gX5_file_X5_in rfl hdsX5_in rfl rfl rfl (by rw [hR]; exact ⟨Nat.le_of_ble_eq_true rfl, Nat.le_of_ble_eq_true rfl⟩) (by rw [hR]; decide) (Nat.le_of_ble_eq_true rfl) rfl dX5_file_17 ?_
    refine v_if_eq C (pc := 20) (tgt := 38) dX5_file_20 (by decide) (fun c24 => ?_) (fun c24 => ?_)
    · rw [if_pos c24] at h
      exact tbX5_file_38 E hR ht  h
    · rw [if_neg c24] at h
      refine v_iload_n C (pc := 23) (i := 3) dX5_file_23 rfl ?_
      refine v_bipush C (pc := 24) (v := (-9)) dX5_file_24 (by decide) ?_
      refine v_bipush C (pc := 26) (v := 9) dX5_file_26 (by decide) ?_
      obtain ⟨x25, e25, h⟩ := h
      refine v_pS C (pc := 28) [.int a3, .int (-9), .int 9] 3 (cX5_in_met (kl κ) (kG κ) _ e25) gX5_file_X5_in rfl hdsX5_in rfl rfl rfl (by rw [hR]; exact ⟨Nat.le_of_ble_eq_true rfl, Nat.le_of_ble_eq_true rfl⟩) (by rw [hR]; decide) (Nat.le_of_ble_eq_true rfl) rfl dX5_file_28 ?_
      refine v_if_eq C (pc := 31) (tgt := 38) dX5_file_31 (by decide) (fun c26 => ?_) (fun c26 => ?_)
      · rw [if_pos c26] at h
        exact tbX5_file_38 E hR ht  h
      · rw [if_neg c26] at h
        refine v_iconst C (pc := 34) (v := 1) dX5_file_34 (by decide) ?_
        refine v_goto C (pc := 35) (tgt := 39) dX5_file_35 (by decide) ?_
        exact tbX5_file_39 E hR ht  h
/-! X5_item -/
abbrev rmX5_item : Room := { frames := 1, cells := 0, slots := 0, locals := 22 }
theorem iwX5_item_X5 : ∀ w ∈ u_ws RX5 TX5 38, w ∈ wsX5_item := fun _ h => List.mem_cons_of_mem _ (List.mem_append_right _ (h))
theorem flX5_item_118 : Cond.fieldLink RX5 118 "ChargehouseModel" "items" "I" ∈ wsX5_item := List.mem_cons_of_mem _ (List.mem_append_left _ (List.mem_of_getElem? (i := 2) rfl))
theorem flX5_item_121 : Cond.fieldLink RX5 121 "ChargehouseModel" "files" "I" ∈ wsX5_item := List.mem_cons_of_mem _ (List.mem_append_left _ (List.mem_of_getElem? (i := 0) rfl))
theorem flX5_item_135 : Cond.fieldLink RX5 135 "ChargehouseModel" "day" "I" ∈ wsX5_item := List.mem_cons_of_mem _ (List.mem_append_left _ (List.mem_of_getElem? (i := 10) rfl))
theorem flX5_item_25 : Cond.fieldLink RX5 25 "ChargehouseModel" "accused" "[I" ∈ wsX5_item := List.mem_cons_of_mem _ (List.mem_append_left _ (List.mem_of_getElem? (i := 1) rfl))
theorem flX5_item_31 : Cond.fieldLink RX5 31 "ChargehouseModel" "fileOf" "[I" ∈ wsX5_item := List.mem_cons_of_mem _ (List.mem_append_left _ (List.mem_of_getElem? (i := 3) rfl))
theorem flX5_item_34 : Cond.fieldLink RX5 34 "ChargehouseModel" "elementOf" "[I" ∈ wsX5_item := List.mem_cons_of_mem _ (List.mem_append_left _ (List.mem_of_getElem? (i := 4) rfl))
theorem flX5_item_37 : Cond.fieldLink RX5 37 "ChargehouseModel" "weights" "[I" ∈ wsX5_item := List.mem_cons_of_mem _ (List.mem_append_left _ (List.mem_of_getElem? (i := 5) rfl))
theorem flX5_item_40 : Cond.fieldLink RX5 40 "ChargehouseModel" "against" "[I" ∈ wsX5_item := List.mem_cons_of_mem _ (List.mem_append_left _ (List.mem_of_getElem? (i := 6) rfl))
theorem flX5_item_43 : Cond.fieldLink RX5 43 "ChargehouseModel" "how" "[I" ∈ wsX5_item := List.mem_cons_of_mem _ (List.mem_append_left _ (List.mem_of_getElem? (i := 7) rfl))
theorem flX5_item_46 : Cond.fieldLink RX5 46 "ChargehouseModel" "isSensitive" "[Z" ∈ wsX5_item := List.mem_cons_of_mem _ (List.mem_append_left _ (List.mem_of_getElem? (i := 8) rfl))
theorem flX5_item_50 : Cond.fieldLink RX5 50 "ChargehouseModel" "came" "[I" ∈ wsX5_item := List.mem_cons_of_mem _ (List.mem_append_left _ (List.mem_of_getElem? (i := 9) rfl))
theorem flX5_item_53 : Cond.fieldLink RX5 53 "ChargehouseModel" "admitted" "[I" ∈ wsX5_item := List.mem_cons_of_mem _ (List.mem_append_left _ (List.mem_of_getElem? (i := 11) rfl))
def bX5_item_120 (o : Nat) (Q : hM → Int32 → Prop) (M : hM) (a1 : Int32) (a2 : Int32) (a3 : Int32) (a4 : Int32) (a5 : Int32) (a6 : Int32) (s0 : Option Nat) (s1 : Int32) : Prop :=
  ∃ y10, hC M 5 s0 = some y10 ∧
  wX5_refused M y10 s1 (fun M11 x9 =>
  if (x9 : Int32) = 0 then (
    ∃ x13, gR M11 5 12 (some o) = some x13 ∧
    ∃ x14, gI M11 5 11 (some o) = some x14 ∧
    ∃ M15, sI M11 0 x13 x14 a1 = some M15 ∧
    ∃ x16, gR M15 5 13 (some o) = some x16 ∧
    ∃ x17, gI M15 5 11 (some o) = some x17 ∧
    ∃ M18, sI M15 0 x16 x17 a2 = some M18 ∧
    ∃ x19, gR M18 5 14 (some o) = some x19 ∧
    ∃ x20, gI M18 5 11 (some o) = some x20 ∧
    ∃ M21, sI M18 0 x19 x20 a3 = some M21 ∧
    ∃ x22, gR M21 5 15 (some o) = some x22 ∧
    ∃ x23, gI M21 5 11 (some o) = some x23 ∧
    ∃ M24, sI M21 0 x22 x23 a4 = some M24 ∧
    ∃ x25, gR M24 5 16 (some o) = some x25 ∧
    ∃ x26, gI M24 5 11 (some o) = some x26 ∧
    ∃ M27, sI M24 0 x25 x26 a5 = some M27 ∧
    ∃ x28, gR M27 5 17 (some o) = some x28 ∧
    ∃ x29, gI M27 5 11 (some o) = some x29 ∧
    ∃ M30, sZ M27 1 x28 x29 a6 = some M30 ∧
    ∃ x31, gR M30 5 18 (some o) = some x31 ∧
    ∃ x32, gI M30 5 11 (some o) = some x32 ∧
    ∃ x33, gI M30 5 1 (some o) = some x33 ∧
    ∃ M34, sI M30 0 x31 x32 x33 = some M34 ∧
    ∃ x35, gR M34 5 19 (some o) = some x35 ∧
    ∃ x36, gI M34 5 11 (some o) = some x36 ∧
    ∃ M37, sI M34 0 x35 x36 (-1) = some M37 ∧
    ∃ x38, gI M37 5 11 (some o) = some x38 ∧
    ∃ M39, pV M37 5 11 (some o) (.int (x38 + 1)) = some M39 ∧
    ∃ x40, gI M39 5 11 (some o) = some x40 ∧
    Q M39 (x40 - 1)
  ) else (
    Q M11 0
  ))
set_option maxRecDepth 100000 in
set_option maxHeartbeats 4000000 in
theorem tbX5_item_120 {κ : hKx} {M0 : hM} {sz : Nat} {o : Nat} {Q : hM → Int32 → Prop} (E : Ce κ RX5 cX5_item wsX5_item (some .int) M0 sz (hQi Q) (fun _ _ => False) 0 0) (hR : kR κ = rmX5_item) (ht : ∀ x ∈ (kc κ).exceptionTable.toList, False)  {M : hM} {a1 : Int32} {a2 : Int32} {a3 : Int32} {a4 : Int32} {a5 : Int32} {a6 : Int32} {s0 : Option Nat} {s1 : Int32}  (h : bX5_item_120 o Q M a1 a2 a3 a4 a5 a6 s0 s1) : VW κ 0 0 M 120 [some (va_rf (some o)), some (.int a1), some (.int a2), some (.int a3), some (.int a4), some (.int a5), some (.int a6), none, none] [.int s1, va_rf s0] := by
  unfold bX5_item_120 at h
  have F := E.1
  have C := F.1
  obtain ⟨y10, hy10, hh⟩ := h
  skip
  obtain ⟨rfl, fsy10, hfy10⟩ := hC_inv hy10
  have h := hh
  clear hh
  refine v_nV F (pc := 120) (ci := 5) [.int s1] 1 (cX5_refused_met (kl κ) F.2.2.2.1 (kG κ) _ h) hfy10 rfl gX5_item_X5_refused rfl hdX5_refused rfl rfl rfl (by rw [hR]; exact ⟨Nat.le_of_ble_eq_true rfl, Nat.le_of_ble_eq_true rfl⟩) (by rw [hR]; decide) (Nat.le_of_ble_eq_true rfl) rfl dX5_item_120 (hk_i fun M11 x9 h => ?_)
  refine v_if_eq C (pc := 123) (tgt := 128) dX5_item_123 (by decide) (fun c12 => ?_) (fun c12 => ?_)
  · rw [if_pos c12] at h
    refine v_aload_n C (pc := 128) (i := 0) dX5_item_128 rfl ?_
    obtain ⟨x13, e13, h⟩ := h
    refine v_getR C (pc := 129) (ci := 5) 12 iwX5_item_X5 rfl (by decide) flX5_item_31 e13 dX5_item_129 ?_
    refine v_aload_n C (pc := 132) (i := 0) dX5_item_132 rfl ?_
    obtain ⟨x14, e14, h⟩ := h
    refine v_getI C (pc := 133) (ci := 5) 11 iwX5_item_X5 rfl (by decide) flX5_item_118 e14 dX5_item_133 ?_
    refine v_iload_n C (pc := 136) (i := 1) dX5_item_136 rfl ?_
    obtain ⟨M15, e15, h⟩ := h
    refine v_iast F (pc := 137) e15 dX5_item_137 ?_
    refine v_aload_n C (pc := 138) (i := 0) dX5_item_138 rfl ?_
    obtain ⟨x16, e16, h⟩ := h
    refine v_getR C (pc := 139) (ci := 5) 13 iwX5_item_X5 rfl (by decide) flX5_item_34 e16 dX5_item_139 ?_
    refine v_aload_n C (pc := 142) (i := 0) dX5_item_142 rfl ?_
    obtain ⟨x17, e17, h⟩ := h
    refine v_getI C (pc := 143) (ci := 5) 11 iwX5_item_X5 rfl (by decide) flX5_item_118 e17 dX5_item_143 ?_
    refine v_iload_n C (pc := 146) (i := 2) dX5_item_146 rfl ?_
    obtain ⟨M18, e18, h⟩ := h
    refine v_iast F (pc := 147) e18 dX5_item_147 ?_
    refine v_aload_n C (pc := 148) (i := 0) dX5_item_148 rfl ?_
    obtain ⟨x19, e19, h⟩ := h
    refine v_getR C (pc := 149) (ci := 5) 14 iwX5_item_X5 rfl (by decide) flX5_item_37 e19 dX5_item_149 ?_
    refine v_aload_n C (pc := 152) (i := 0) dX5_item_152 rfl ?_
    obtain ⟨x20, e20, h⟩ := h
    refine v_getI C (pc := 153) (ci := 5) 11 iwX5_item_X5 rfl (by decide) flX5_item_118 e20 dX5_item_153 ?_
    refine v_iload_n C (pc := 156) (i := 3) dX5_item_156 rfl ?_
    obtain ⟨M21, e21, h⟩ := h
    refine v_iast F (pc := 157) e21 dX5_item_157 ?_
    refine v_aload_n C (pc := 158) (i := 0) dX5_item_158 rfl ?_
    obtain ⟨x22, e22, h⟩ := h
    refine v_getR C (pc := 159) (ci := 5) 15 iwX5_item_X5 rfl (by decide) flX5_item_40 e22 dX5_item_159 ?_
    refine v_aload_n C (pc := 162) (i := 0) dX5_item_162 rfl ?_
    obtain ⟨x23, e23, h⟩ := h
    refine v_getI C (pc := 163) (ci := 5) 11 iwX5_item_X5 rfl (by decide) flX5_item_118 e23 dX5_item_163 ?_
    refine v_iload C (pc := 166) (i := 4) dX5_item_166 rfl ?_
    obtain ⟨M24, e24, h⟩ := h
    refine v_iast F (pc := 168) e24 dX5_item_168 ?_
    refine v_aload_n C (pc := 169) (i := 0) dX5_item_169 rfl ?_
    obtain ⟨x25, e25, h⟩ := h
    refine v_getR C (pc := 170) (ci := 5) 16 iwX5_item_X5 rfl (by decide) flX5_item_43 e25 dX5_item_170 ?_
    refine v_aload_n C (pc := 173) (i := 0) dX5_item_173 rfl ?_
    obtain ⟨x26, e26, h⟩ := h
    refine v_getI C (pc := 174) (ci := 5) 11 iwX5_item_X5 rfl (by decide) flX5_item_118 e26 dX5_item_174 ?_
    refine v_iload C (pc := 177) (i := 5) dX5_item_177 rfl ?_
    obtain ⟨M27, e27, h⟩ := h
    refine v_iast F (pc := 179) e27 dX5_item_179 ?_
    refine v_aload_n C (pc := 180) (i := 0) dX5_item_180 rfl ?_
    obtain ⟨x28, e28, h⟩ := h
    refine v_getR C (pc := 181) (ci := 5) 17 iwX5_item_X5 rfl (by decide) flX5_item_46 e28 dX5_item_181 ?_
    refine v_aload_n C (pc := 184) (i := 0) dX5_item_184 rfl ?_
    obtain ⟨x29, e29, h⟩ := h
    refine v_getI C (pc := 185) (ci := 5) 11 iwX5_item_X5 rfl (by decide) flX5_item_118 e29 dX5_item_185 ?_
    refine v_iload C (pc := 188) (i := 6) dX5_item_188 rfl ?_
    obtain ⟨M30, e30, h⟩ := h
    refine v_zast F (pc := 190) e30 dX5_item_190 ?_
    refine v_aload_n C (pc := 191) (i := 0) dX5_item_191 rfl ?_
    obtain ⟨x31, e31, h⟩ := h
    refine v_getR C (pc := 192) (ci := 5) 18 iwX5_item_X5 rfl (by decide) flX5_item_50 e31 dX5_item_192 ?_
    refine v_aload_n C (pc := 195) (i := 0) dX5_item_195 rfl ?_
    obtain ⟨x32, e32, h⟩ := h
    refine v_getI C (pc := 196) (ci := 5) 11 iwX5_item_X5 rfl (by decide) flX5_item_118 e32 dX5_item_196 ?_
    refine v_aload_n C (pc := 199) (i := 0) dX5_item_199 rfl ?_
    obtain ⟨x33, e33, h⟩ := h
    refine v_getI C (pc := 200) (ci := 5) 1 iwX5_item_X5 rfl (by decide) flX5_item_135 e33 dX5_item_200 ?_
    obtain ⟨M34, e34, h⟩ := h
    refine v_iast F (pc := 203) e34 dX5_item_203 ?_
    refine v_aload_n C (pc := 204) (i := 0) dX5_item_204 rfl ?_
    obtain ⟨x35, e35, h⟩ := h
    refine v_getR C (pc := 205) (ci := 5) 19 iwX5_item_X5 rfl (by decide) flX5_item_53 e35 dX5_item_205 ?_
    refine v_aload_n C (pc := 208) (i := 0) dX5_item_208 rfl ?_
    obtain ⟨x36, e36, h⟩ := h
    refine v_getI C (pc := 209) (ci := 5) 11 iwX5_item_X5 rfl (by decide) flX5_item_118 e36 dX5_item_209 ?_
    refine v_iconst C (pc := 212) (v := (-1)) dX5_item_212 (by decide) ?_
    obtain ⟨M37, e37, h⟩ := h
    refine v_iast F (pc := 213) e37 dX5_item_213 ?_
    refine v_aload_n C (pc := 214) (i := 0) dX5_item_214 rfl ?_
    refine v_dup C (pc := 215) dX5_item_215 (rf_cat _) ?_
    obtain ⟨x38, e38, h⟩ := h
    refine v_getI C (pc := 216) (ci := 5) 11 iwX5_item_X5 rfl (by decide) flX5_item_118 e38 dX5_item_216 ?_
    refine v_iconst C (pc := 219) (v := 1) dX5_item_219 (by decide) ?_
    refine v_iadd C (pc := 220) dX5_item_220 ?_
    obtain ⟨M39, e39, h⟩ := h
    refine v_put F (pc := 221) (ci := 5) (ty := .int) 11 iwX5_item_X5 tyX5 tyX5_ok nmX5 rfl (by decide) flX5_item_118 rfl rfl (nar_int _) (fit_int _) e39 dX5_item_221 ?_
    refine v_aload_n C (pc := 224) (i := 0) dX5_item_224 rfl ?_
    obtain ⟨x40, e40, h⟩ := h
    refine v_getI C (pc := 225) (ci := 5) 11 iwX5_item_X5 rfl (by decide) flX5_item_118 e40 dX5_item_225 ?_
    refine v_iconst C (pc := 228) (v := 1) dX5_item_228 (by decide) ?_
    refine v_isub C (pc := 229) dX5_item_229 ?_
    exact v_eret (pc := 230) E rfl (nar_int _) ⟨_, rfl, h⟩ (by decide) (by decide) dX5_item_230
  · rw [if_neg c12] at h
    refine v_iconst C (pc := 126) (v := 0) dX5_item_126 (by decide) ?_
    exact v_eret (pc := 127) E rfl (nar_int _) ⟨_, rfl, h⟩ (by decide) (by decide) dX5_item_127
def bX5_item_85 (o : Nat) (Q : hM → Int32 → Prop) (M : hM) (a1 : Int32) (a2 : Int32) (a3 : Int32) (a4 : Int32) (a5 : Int32) (a6 : Int32) (a7 : Int32) (s0 : Int32) : Prop :=
  if (a7 : Int32) = 0 then (
    bX5_item_120 o Q M a1 a2 a3 a4 a5 a6 (some o) 1
  ) else (
    if (s0 : Int32) = 0 then (
      bX5_item_120 o Q M a1 a2 a3 a4 a5 a6 (some o) 2
    ) else (
      ∃ x7, gI M 5 11 (some o) = some x7 ∧
      if (x7 : Int32) = 40 then (
        bX5_item_120 o Q M a1 a2 a3 a4 a5 a6 (some o) 3
      ) else (
        bX5_item_120 o Q M a1 a2 a3 a4 a5 a6 (some o) 0
      )
    )
  )
set_option maxRecDepth 100000 in
set_option maxHeartbeats 4000000 in
theorem tbX5_item_85 {κ : hKx} {M0 : hM} {sz : Nat} {o : Nat} {Q : hM → Int32 → Prop} (E : Ce κ RX5 cX5_item wsX5_item (some .int) M0 sz (hQi Q) (fun _ _ => False) 0 0) (hR : kR κ = rmX5_item) (ht : ∀ x ∈ (kc κ).exceptionTable.toList, False)  {M : hM} {a1 : Int32} {a2 : Int32} {a3 : Int32} {a4 : Int32} {a5 : Int32} {a6 : Int32} {a7 : Int32} {s0 : Int32}  (h : bX5_item_85 o Q M a1 a2 a3 a4 a5 a6 a7 s0) : VW κ 0 0 M 85 [some (va_rf (some o)), some (.int a1), some (.int a2), some (.int a3), some (.int a4), some (.int a5), some (.int a6), some (.int a7), none] [.int s0] := by
  unfold bX5_item_85 at h
  have F := E.1
  have C := F.1
  refine v_istore C (pc := 85) (i := 8) (lv' := [some (va_rf (some o)), some (.int a1), some (.int a2), some (.int a3), some (.int a4), some (.int a5), some (.int a6), some (.int a7), some (.int s0)]) dX5_item_85 rfl rfl ?_
  refine v_aload_n C (pc := 87) (i := 0) dX5_item_87 rfl ?_
  refine v_iload C (pc := 88) (i := 7) dX5_item_88 rfl ?_
  refine v_if_ne C (pc := 90) (tgt := 97) dX5_item_90 (by decide) (fun c5 => ?_) (fun c5 => ?_)
  · rw [if_neg c5] at h
    refine v_iload C (pc := 97) (i := 8) dX5_item_97 rfl ?_
    refine v_if_ne C (pc := 99) (tgt := 106) dX5_item_99 (by decide) (fun c6 => ?_) (fun c6 => ?_)
    · rw [if_neg c6] at h
      refine v_aload_n C (pc := 106) (i := 0) dX5_item_106 rfl ?_
      obtain ⟨x7, e7, h⟩ := h
      refine v_getI C (pc := 107) (ci := 5) 11 iwX5_item_X5 rfl (by decide) flX5_item_118 e7 dX5_item_107 ?_
      refine v_bipush C (pc := 110) (v := 40) dX5_item_110 (by decide) ?_
      refine v_icmp_ne C (pc := 112) (tgt := 119) dX5_item_112 (by decide) (fun c8 => ?_) (fun c8 => ?_)
      · rw [if_neg c8] at h
        refine v_iconst C (pc := 119) (v := 0) dX5_item_119 (by decide) ?_
        refine v_mask (lv' := [some (va_rf (some o)), some (.int a1), some (.int a2), some (.int a3), some (.int a4), some (.int a5), some (.int a6), none, none]) [true, true, true, true, true, true, true, false, false] rfl rfl ?_
        exact tbX5_item_120 E hR ht  h
      · rw [if_pos c8] at h
        refine v_iconst C (pc := 115) (v := 3) dX5_item_115 (by decide) ?_
        refine v_goto C (pc := 116) (tgt := 120) dX5_item_116 (by decide) ?_
        refine v_mask (lv' := [some (va_rf (some o)), some (.int a1), some (.int a2), some (.int a3), some (.int a4), some (.int a5), some (.int a6), none, none]) [true, true, true, true, true, true, true, false, false] rfl rfl ?_
        exact tbX5_item_120 E hR ht  h
    · rw [if_pos c6] at h
      refine v_iconst C (pc := 102) (v := 2) dX5_item_102 (by decide) ?_
      refine v_goto C (pc := 103) (tgt := 120) dX5_item_103 (by decide) ?_
      refine v_mask (lv' := [some (va_rf (some o)), some (.int a1), some (.int a2), some (.int a3), some (.int a4), some (.int a5), some (.int a6), none, none]) [true, true, true, true, true, true, true, false, false] rfl rfl ?_
      exact tbX5_item_120 E hR ht  h
  · rw [if_pos c5] at h
    refine v_iconst C (pc := 93) (v := 1) dX5_item_93 (by decide) ?_
    refine v_goto C (pc := 94) (tgt := 120) dX5_item_94 (by decide) ?_
    refine v_mask (lv' := [some (va_rf (some o)), some (.int a1), some (.int a2), some (.int a3), some (.int a4), some (.int a5), some (.int a6), none, none]) [true, true, true, true, true, true, true, false, false] rfl rfl ?_
    exact tbX5_item_120 E hR ht  h
def bX5_item_84 (o : Nat) (Q : hM → Int32 → Prop) (M : hM) (a1 : Int32) (a2 : Int32) (a3 : Int32) (a4 : Int32) (a5 : Int32) (a6 : Int32) (a7 : Int32) : Prop :=
  bX5_item_85 o Q M a1 a2 a3 a4 a5 a6 a7 0
set_option maxRecDepth 100000 in
set_option maxHeartbeats 4000000 in
theorem tbX5_item_84 {κ : hKx} {M0 : hM} {sz : Nat} {o : Nat} {Q : hM → Int32 → Prop} (E : Ce κ RX5 cX5_item wsX5_item (some .int) M0 sz (hQi Q) (fun _ _ => False) 0 0) (hR : kR κ = rmX5_item) (ht : ∀ x ∈ (kc κ).exceptionTable.toList, False)  {M : hM} {a1 : Int32} {a2 : Int32} {a3 : Int32} {a4 : Int32} {a5 : Int32} {a6 : Int32} {a7 : Int32}  (h : bX5_item_84 o Q M a1 a2 a3 a4 a5 a6 a7) : VW κ 0 0 M 84 [some (va_rf (some o)), some (.int a1), some (.int a2), some (.int a3), some (.int a4), some (.int a5), some (.int a6), some (.int a7), none] [] := by
  unfold bX5_item_84 at h
  have F := E.1
  have C := F.1
  refine v_iconst C (pc := 84) (v := 0) dX5_item_84 (by decide) ?_
  exact tbX5_item_85 E hR ht  h
def bX5_item_29 (o : Nat) (Q : hM → Int32 → Prop) (M : hM) (a1 : Int32) (a2 : Int32) (a3 : Int32) (a4 : Int32) (a5 : Int32) (a6 : Int32) (s0 : Int32) : Prop :=
  if (s0 : Int32) = 0 then (
    bX5_item_84 o Q M a1 a2 a3 a4 a5 a6 s0
  ) else (
    ∃ x41, fX5_in a3 (-9) 9 = some x41 ∧
    if (x41 : Int32) = 0 then (
      bX5_item_84 o Q M a1 a2 a3 a4 a5 a6 s0
    ) else (
      if (a3 : Int32) = 0 then (
        bX5_item_84 o Q M a1 a2 a3 a4 a5 a6 s0
      ) else (
        if (a4 : Int32) ≤ 0 then (
          bX5_item_84 o Q M a1 a2 a3 a4 a5 a6 s0
        ) else (
          ∃ x45, gR M 5 9 (some o) = some x45 ∧
          ∃ x46, aI M 0 x45 a1 = some x46 ∧
          if ((a4 &&& (x46 ^^^ (-1))) : Int32) = 0 then (
            ∃ x48, fX5_in a5 0 2 = some x48 ∧
            if (x48 : Int32) = 0 then (
              bX5_item_84 o Q M a1 a2 a3 a4 a5 a6 s0
            ) else (
              bX5_item_85 o Q M a1 a2 a3 a4 a5 a6 s0 1
            )
          ) else (
            bX5_item_84 o Q M a1 a2 a3 a4 a5 a6 s0
          )
        )
      )
    )
  )
set_option maxRecDepth 100000 in
set_option maxHeartbeats 4000000 in
theorem tbX5_item_29 {κ : hKx} {M0 : hM} {sz : Nat} {o : Nat} {Q : hM → Int32 → Prop} (E : Ce κ RX5 cX5_item wsX5_item (some .int) M0 sz (hQi Q) (fun _ _ => False) 0 0) (hR : kR κ = rmX5_item) (ht : ∀ x ∈ (kc κ).exceptionTable.toList, False)  {M : hM} {a1 : Int32} {a2 : Int32} {a3 : Int32} {a4 : Int32} {a5 : Int32} {a6 : Int32} {s0 : Int32}  (h : bX5_item_29 o Q M a1 a2 a3 a4 a5 a6 s0) : VW κ 0 0 M 29 [some (va_rf (some o)), some (.int a1), some (.int a2), some (.int a3), some (.int a4), some (.int a5), some (.int a6), none, none] [.int s0] := by
  unfold bX5_item_29 at h
  have F := E.1
  have C := F.1
  refine v_istore C (pc := 29) (i := 7) (lv' := [some (va_rf (some o)), some (.int a1), some (.int a2), some (.int a3), some (.int a4), some (.int a5), some (.int a6), some (.int s0), none]) dX5_item_29 rfl rfl ?_
  refine v_iload C (pc := 31) (i := 7) dX5_item_31 rfl ?_
  refine v_if_eq C (pc := 33) (tgt := 84) dX5_item_33 (by decide) (fun c4 => ?_) (fun c4 => ?_)
  · rw [if_pos c4] at h
    exact tbX5_item_84 E hR ht  h
  · rw [if_neg c4] at h
    refine v_iload_n C (pc := 36) (i := 3) dX5_item_36 rfl ?_
    refine v_bipush C (pc := 37) (v := (-9)) dX5_item_37 (by decide) ?_
    refine v_bipush C (pc := 39) (v := 9) dX5_item_39 (by decide) ?_
    obtain ⟨x41, e41, h⟩ := h
    refine v_pS C (pc := 41) [.int a3, .int (-9), .int 9] 3 (cX5_in_met (kl κ) (kG κ) _ e41) gX5_item_X5_in rfl hdsX5_in rfl rfl rfl (by rw [hR]; exact ⟨Nat.le_of_ble_eq_true rfl, Nat.le_of_ble_eq_true rfl⟩) (by rw [hR]; decide) (Nat.le_of_ble_eq_true rfl) rfl dX5_item_41 ?_
    refine v_if_eq C (pc := 44) (tgt := 84) dX5_item_44 (by decide) (fun c42 => ?_) (fun c42 => ?_)
    · rw [if_pos c42] at h
      exact tbX5_item_84 E hR ht  h
    · rw [if_neg c42] at h
      refine v_iload_n C (pc := 47) (i := 3) dX5_item_47 rfl ?_
      refine v_if_eq C (pc := 48) (tgt := 84) dX5_item_48 (by decide) (fun c43 => ?_) (fun c43 => ?_)
      · rw [if_pos c43] at h
        exact tbX5_item_84 E hR ht  h
      · rw [if_neg c43] at h
        refine v_iload C (pc := 51) (i := 4) dX5_item_51 rfl ?_
        refine v_if_le C (pc := 53) (tgt := 84) dX5_item_53 (by decide) (fun c44 => ?_) (fun c44 => ?_)
        · rw [if_pos c44] at h
          exact tbX5_item_84 E hR ht  h
        · rw [if_neg c44] at h
          refine v_iload C (pc := 56) (i := 4) dX5_item_56 rfl ?_
          refine v_aload_n C (pc := 58) (i := 0) dX5_item_58 rfl ?_
          obtain ⟨x45, e45, h⟩ := h
          refine v_getR C (pc := 59) (ci := 5) 9 iwX5_item_X5 rfl (by decide) flX5_item_25 e45 dX5_item_59 ?_
          refine v_iload_n C (pc := 62) (i := 1) dX5_item_62 rfl ?_
          obtain ⟨x46, e46, h⟩ := h
          refine v_iald C (pc := 63) e46 dX5_item_63 ?_
          refine v_iconst C (pc := 64) (v := (-1)) dX5_item_64 (by decide) ?_
          refine v_ixor C (pc := 65) dX5_item_65 ?_
          refine v_iand C (pc := 66) dX5_item_66 ?_
          refine v_if_ne C (pc := 67) (tgt := 84) dX5_item_67 (by decide) (fun c47 => ?_) (fun c47 => ?_)
          · rw [if_neg c47] at h
            exact tbX5_item_84 E hR ht  h
          · rw [if_pos c47] at h
            refine v_iload C (pc := 70) (i := 5) dX5_item_70 rfl ?_
            refine v_iconst C (pc := 72) (v := 0) dX5_item_72 (by decide) ?_
            refine v_iconst C (pc := 73) (v := 2) dX5_item_73 (by decide) ?_
            obtain ⟨x48, e48, h⟩ := h
            refine v_pS C (pc := 74) [.int a5, .int 0, .int 2] 3 (cX5_in_met (kl κ) (kG κ) _ e48) gX5_item_X5_in rfl hdsX5_in rfl rfl rfl (by rw [hR]; exact ⟨Nat.le_of_ble_eq_true rfl, Nat.le_of_ble_eq_true rfl⟩) (by rw [hR]; decide) (Nat.le_of_ble_eq_true rfl) rfl dX5_item_74 ?_
            refine v_if_eq C (pc := 77) (tgt := 84) dX5_item_77 (by decide) (fun c49 => ?_) (fun c49 => ?_)
            · rw [if_pos c49] at h
              exact tbX5_item_84 E hR ht  h
            · rw [if_neg c49] at h
              refine v_iconst C (pc := 80) (v := 1) dX5_item_80 (by decide) ?_
              refine v_goto C (pc := 81) (tgt := 85) dX5_item_81 (by decide) ?_
              exact tbX5_item_85 E hR ht  h
def bX5_item_28 (o : Nat) (Q : hM → Int32 → Prop) (M : hM) (a1 : Int32) (a2 : Int32) (a3 : Int32) (a4 : Int32) (a5 : Int32) (a6 : Int32) : Prop :=
  bX5_item_29 o Q M a1 a2 a3 a4 a5 a6 0
set_option maxRecDepth 100000 in
set_option maxHeartbeats 4000000 in
theorem tbX5_item_28 {κ : hKx} {M0 : hM} {sz : Nat} {o : Nat} {Q : hM → Int32 → Prop} (E : Ce κ RX5 cX5_item wsX5_item (some .int) M0 sz (hQi Q) (fun _ _ => False) 0 0) (hR : kR κ = rmX5_item) (ht : ∀ x ∈ (kc κ).exceptionTable.toList, False)  {M : hM} {a1 : Int32} {a2 : Int32} {a3 : Int32} {a4 : Int32} {a5 : Int32} {a6 : Int32}  (h : bX5_item_28 o Q M a1 a2 a3 a4 a5 a6) : VW κ 0 0 M 28 [some (va_rf (some o)), some (.int a1), some (.int a2), some (.int a3), some (.int a4), some (.int a5), some (.int a6), none, none] [] := by
  unfold bX5_item_28 at h
  have F := E.1
  have C := F.1
  refine v_iconst C (pc := 28) (v := 0) dX5_item_28 (by decide) ?_
  exact tbX5_item_29 E hR ht  h
def wX5_item (M : hM) (o : Nat) (a1 : Int32) (a2 : Int32) (a3 : Int32) (a4 : Int32) (a5 : Int32) (a6 : Int32) (Q : hM → Int32 → Prop) : Prop :=
  ∃ x1, gI M 5 7 (some o) = some x1 ∧
  ∃ x2, fX5_in a1 0 (x1 - 1) = some x2 ∧
  if (x2 : Int32) = 0 then (
    bX5_item_28 o Q M a1 a2 a3 a4 a5 a6
  ) else (
    ∃ x50, fX5_in a2 0 9 = some x50 ∧
    if (x50 : Int32) = 0 then (
      bX5_item_28 o Q M a1 a2 a3 a4 a5 a6
    ) else (
      bX5_item_29 o Q M a1 a2 a3 a4 a5 a6 1
    )
  )
set_option maxRecDepth 100000 in
set_option maxHeartbeats 4000000 in
theorem cX5_item_met (l : Launch) (hfl : l.stackTraces = false) (G : hG) (M : hM) {o : Nat} {a1 : Int32} {a2 : Int32} {a3 : Int32} {a4 : Int32} {a5 : Int32} {a6 : Int32} {Q : hM → Int32 → Prop} (h : wX5_item M o a1 a2 a3 a4 a5 a6 Q) : hEMet l yX5_item wsX5_item rmX5_item [.ref o, .int a1, .int a2, .int a3, .int a4, .int a5, .int a6] G M (hQi Q) (fun _ _ => False) 0 0 := by
  refine he_entry (own := RX5) (cc := cX5_item) (maxL := 9) (ret := (some .int)) (lv := [some (va_rf (some o)), some (.int a1), some (.int a2), some (.int a3), some (.int a4), some (.int a5), some (.int a6), none, none]) hfl (by decide) rfl rfl (hcc rfl (hcc rfl (hcc rfl (hcc rfl (hcc rfl (hcc rfl (hcc rfl hc0))))))) (Nat.le_of_ble_eq_true rfl) rfl (fun κ sz hG hl hR E ht hn => ?_)
  subst hG; subst hl
  unfold wX5_item at h
  have F := E.1
  have C := F.1
  refine v_iload_n C (pc := 0) (i := 1) dX5_item_0 rfl ?_
  refine v_iconst C (pc := 1) (v := 0) dX5_item_1 (by decide) ?_
  refine v_aload_n C (pc := 2) (i := 0) dX5_item_2 rfl ?_
  obtain ⟨x1, e1, h⟩ := h
  refine v_getI C (pc := 3) (ci := 5) 7 iwX5_item_X5 rfl (by decide) flX5_item_121 e1 dX5_item_3 ?_
  refine v_iconst C (pc := 6) (v := 1) dX5_item_6 (by decide) ?_
  refine v_isub C (pc := 7) dX5_item_7 ?_
  obtain ⟨x2, e2, h⟩ := h
  refine v_pS C (pc := 8) [.int a1, .int 0, .int (x1 - 1)] 3 (cX5_in_met (kl κ) (kG κ) _ e2) gX5_item_X5_in rfl hdsX5_in rfl rfl rfl (by rw [hR]; exact ⟨Nat.le_of_ble_eq_true rfl, Nat.le_of_ble_eq_true rfl⟩) (by rw [hR]; decide) (Nat.le_of_ble_eq_true rfl) rfl dX5_item_8 ?_
  refine v_if_eq C (pc := 11) (tgt := 28) dX5_item_11 (by decide) (fun c3 => ?_) (fun c3 => ?_)
  · rw [if_pos c3] at h
    exact tbX5_item_28 E hR ht  h
  · rw [if_neg c3] at h
    refine v_iload_n C (pc := 14) (i := 2) dX5_item_14 rfl ?_
    refine v_iconst C (pc := 15) (v := 0) dX5_item_15 (by decide) ?_
    refine v_bipush C (pc := 16) (v := 9) dX5_item_16 (by decide) ?_
    obtain ⟨x50, e50, h⟩ := h
    refine v_pS C (pc := 18) [.int a2, .int 0, .int 9] 3 (cX5_in_met (kl κ) (kG κ) _ e50) gX5_item_X5_in rfl hdsX5_in rfl rfl rfl (by rw [hR]; exact ⟨Nat.le_of_ble_eq_true rfl, Nat.le_of_ble_eq_true rfl⟩) (by rw [hR]; decide) (Nat.le_of_ble_eq_true rfl) rfl dX5_item_18 ?_
    refine v_if_eq C (pc := 21) (tgt := 28) dX5_item_21 (by decide) (fun c51 => ?_) (fun c51 => ?_)
    · rw [if_pos c51] at h
      exact tbX5_item_28 E hR ht  h
    · rw [if_neg c51] at h
      refine v_iconst C (pc := 24) (v := 1) dX5_item_24 (by decide) ?_
      refine v_goto C (pc := 25) (tgt := 29) dX5_item_25 (by decide) ?_
      exact tbX5_item_29 E hR ht  h
/-! X5_admit -/
abbrev rmX5_admit : Room := { frames := 2, cells := 0, slots := 0, locals := 43 }
theorem iwX5_admit_X5 : ∀ w ∈ u_ws RX5 TX5 38, w ∈ wsX5_admit := fun _ h => List.mem_cons_of_mem _ (List.mem_append_right _ (h))
theorem flX5_admit_135 : Cond.fieldLink RX5 135 "ChargehouseModel" "day" "I" ∈ wsX5_admit := List.mem_cons_of_mem _ (List.mem_append_left _ (List.mem_of_getElem? (i := 2) rfl))
theorem flX5_admit_43 : Cond.fieldLink RX5 43 "ChargehouseModel" "how" "[I" ∈ wsX5_admit := List.mem_cons_of_mem _ (List.mem_append_left _ (List.mem_of_getElem? (i := 0) rfl))
theorem flX5_admit_53 : Cond.fieldLink RX5 53 "ChargehouseModel" "admitted" "[I" ∈ wsX5_admit := List.mem_cons_of_mem _ (List.mem_append_left _ (List.mem_of_getElem? (i := 1) rfl))
def bX5_admit_40 (o : Nat) (Q : hM → Prop) (M : hM) (a1 : Int32) (s0 : Option Nat) (s1 : Int32) : Prop :=
  ∃ y8, hC M 5 s0 = some y8 ∧
  wX5_refused M y8 s1 (fun M9 x7 =>
  if (x7 : Int32) = 0 then (
    ∃ x11, gR M9 5 19 (some o) = some x11 ∧
    ∃ x12, gI M9 5 1 (some o) = some x12 ∧
    ∃ M13, sI M9 0 x11 a1 x12 = some M13 ∧
    Q M13
  ) else (
    Q M9
  ))
set_option maxRecDepth 100000 in
set_option maxHeartbeats 4000000 in
theorem tbX5_admit_40 {κ : hKx} {M0 : hM} {sz : Nat} {o : Nat} {Q : hM → Prop} (E : Ce κ RX5 cX5_admit wsX5_admit none M0 sz (hQv Q) (fun _ _ => False) 0 0) (hR : kR κ = rmX5_admit) (ht : ∀ x ∈ (kc κ).exceptionTable.toList, False)  {M : hM} {a1 : Int32} {s0 : Option Nat} {s1 : Int32}  (h : bX5_admit_40 o Q M a1 s0 s1) : VW κ 0 0 M 40 [some (va_rf (some o)), some (.int a1), none] [.int s1, va_rf s0] := by
  unfold bX5_admit_40 at h
  have F := E.1
  have C := F.1
  obtain ⟨y8, hy8, hh⟩ := h
  skip
  obtain ⟨rfl, fsy8, hfy8⟩ := hC_inv hy8
  have h := hh
  clear hh
  refine v_nV F (pc := 40) (ci := 5) [.int s1] 1 (cX5_refused_met (kl κ) F.2.2.2.1 (kG κ) _ h) hfy8 rfl gX5_admit_X5_refused rfl hdX5_refused rfl rfl rfl (by rw [hR]; exact ⟨Nat.le_of_ble_eq_true rfl, Nat.le_of_ble_eq_true rfl⟩) (by rw [hR]; decide) (Nat.le_of_ble_eq_true rfl) rfl dX5_admit_40 (hk_i fun M9 x7 h => ?_)
  refine v_if_eq C (pc := 43) (tgt := 47) dX5_admit_43 (by decide) (fun c10 => ?_) (fun c10 => ?_)
  · rw [if_pos c10] at h
    refine v_aload_n C (pc := 47) (i := 0) dX5_admit_47 rfl ?_
    obtain ⟨x11, e11, h⟩ := h
    refine v_getR C (pc := 48) (ci := 5) 19 iwX5_admit_X5 rfl (by decide) flX5_admit_53 e11 dX5_admit_48 ?_
    refine v_iload_n C (pc := 51) (i := 1) dX5_admit_51 rfl ?_
    refine v_aload_n C (pc := 52) (i := 0) dX5_admit_52 rfl ?_
    obtain ⟨x12, e12, h⟩ := h
    refine v_getI C (pc := 53) (ci := 5) 1 iwX5_admit_X5 rfl (by decide) flX5_admit_135 e12 dX5_admit_53 ?_
    obtain ⟨M13, e13, h⟩ := h
    refine v_iast F (pc := 56) e13 dX5_admit_56 ?_
    exact v_eretV (pc := 57) E rfl ⟨rfl, h⟩ (by decide) (by decide) dX5_admit_57
  · rw [if_neg c10] at h
    exact v_eretV (pc := 46) E rfl ⟨rfl, h⟩ (by decide) (by decide) dX5_admit_46
def bX5_admit_35 (o : Nat) (Q : hM → Prop) (M : hM) (a1 : Int32) (s0 : Option Nat) : Prop :=
  bX5_admit_40 o Q M a1 s0 2
set_option maxRecDepth 100000 in
set_option maxHeartbeats 4000000 in
theorem tbX5_admit_35 {κ : hKx} {M0 : hM} {sz : Nat} {o : Nat} {Q : hM → Prop} (E : Ce κ RX5 cX5_admit wsX5_admit none M0 sz (hQv Q) (fun _ _ => False) 0 0) (hR : kR κ = rmX5_admit) (ht : ∀ x ∈ (kc κ).exceptionTable.toList, False)  {M : hM} {a1 : Int32} {s0 : Option Nat}  (h : bX5_admit_35 o Q M a1 s0) : VW κ 0 0 M 35 [some (va_rf (some o)), some (.int a1), none] [va_rf s0] := by
  unfold bX5_admit_35 at h
  have F := E.1
  have C := F.1
  refine v_iconst C (pc := 35) (v := 2) dX5_admit_35 (by decide) ?_
  refine v_goto C (pc := 36) (tgt := 40) dX5_admit_36 (by decide) ?_
  exact tbX5_admit_40 E hR ht  h
def wX5_admit (M : hM) (o : Nat) (a1 : Int32) (Q : hM → Prop) : Prop :=
  ∃ y2, hC M 5 (some o) = some y2 ∧
  ∃ x1, fX5_isItem M o a1 = some x1 ∧
  if (x1 : Int32) = 0 then (
    bX5_admit_40 o Q M a1 (some o) 1
  ) else (
    ∃ x4, gR M 5 16 (some o) = some x4 ∧
    ∃ x5, aI M 0 x4 a1 = some x5 ∧
    if (x5 : Int32) = 1 then (
      ∃ x14, gR M 5 19 (some o) = some x14 ∧
      ∃ x15, aI M 0 x14 a1 = some x15 ∧
      if (x15 : Int32) = (-1) then (
        bX5_admit_40 o Q M a1 (some o) 0
      ) else (
        bX5_admit_35 o Q M a1 (some o)
      )
    ) else (
      bX5_admit_35 o Q M a1 (some o)
    )
  )
set_option maxRecDepth 100000 in
set_option maxHeartbeats 4000000 in
theorem cX5_admit_met (l : Launch) (hfl : l.stackTraces = false) (G : hG) (M : hM) {o : Nat} {a1 : Int32} {Q : hM → Prop} (h : wX5_admit M o a1 Q) : hEMet l yX5_admit wsX5_admit rmX5_admit [.ref o, .int a1] G M (hQv Q) (fun _ _ => False) 0 0 := by
  refine he_entry (own := RX5) (cc := cX5_admit) (maxL := 3) (ret := none) (lv := [some (va_rf (some o)), some (.int a1), none]) hfl (by decide) rfl rfl (hcc rfl (hcc rfl hc0)) (Nat.le_of_ble_eq_true rfl) rfl (fun κ sz hG hl hR E ht hn => ?_)
  subst hG; subst hl
  unfold wX5_admit at h
  have F := E.1
  have C := F.1
  refine v_aload_n C (pc := 0) (i := 0) dX5_admit_0 rfl ?_
  refine v_iload_n C (pc := 1) (i := 1) dX5_admit_1 rfl ?_
  obtain ⟨y2, hy2, h⟩ := h
  obtain ⟨fsy2, hfy2⟩ := hC_some hy2
  obtain ⟨x1, e1, h⟩ := h
  refine v_pV C (pc := 2) (ci := 5) [.int a1] 1 (cX5_isItem_met (kl κ) (kG κ) _ e1) hfy2 rfl gX5_admit_X5_isItem rfl hdX5_isItem rfl rfl rfl (by rw [hR]; exact ⟨Nat.le_of_ble_eq_true rfl, Nat.le_of_ble_eq_true rfl⟩) (by rw [hR]; decide) (Nat.le_of_ble_eq_true rfl) rfl dX5_admit_2 ?_
  refine v_istore_n C (pc := 5) (i := 2) (lv' := [some (va_rf (some o)), some (.int a1), some (.int x1)]) dX5_admit_5 rfl rfl ?_
  refine v_aload_n C (pc := 6) (i := 0) dX5_admit_6 rfl ?_
  refine v_iload_n C (pc := 7) (i := 2) dX5_admit_7 rfl ?_
  refine v_if_ne C (pc := 8) (tgt := 15) dX5_admit_8 (by decide) (fun c3 => ?_) (fun c3 => ?_)
  · rw [if_neg c3] at h
    refine v_aload_n C (pc := 15) (i := 0) dX5_admit_15 rfl ?_
    obtain ⟨x4, e4, h⟩ := h
    refine v_getR C (pc := 16) (ci := 5) 16 iwX5_admit_X5 rfl (by decide) flX5_admit_43 e4 dX5_admit_16 ?_
    refine v_iload_n C (pc := 19) (i := 1) dX5_admit_19 rfl ?_
    obtain ⟨x5, e5, h⟩ := h
    refine v_iald C (pc := 20) e5 dX5_admit_20 ?_
    refine v_iconst C (pc := 21) (v := 1) dX5_admit_21 (by decide) ?_
    refine v_icmp_ne C (pc := 22) (tgt := 35) dX5_admit_22 (by decide) (fun c6 => ?_) (fun c6 => ?_)
    · rw [if_neg c6] at h
      refine v_mask (lv' := [some (va_rf (some o)), some (.int a1), none]) [true, true, false] rfl rfl ?_
      exact tbX5_admit_35 E hR ht  h
    · rw [if_pos c6] at h
      refine v_aload_n C (pc := 25) (i := 0) dX5_admit_25 rfl ?_
      obtain ⟨x14, e14, h⟩ := h
      refine v_getR C (pc := 26) (ci := 5) 19 iwX5_admit_X5 rfl (by decide) flX5_admit_53 e14 dX5_admit_26 ?_
      refine v_iload_n C (pc := 29) (i := 1) dX5_admit_29 rfl ?_
      obtain ⟨x15, e15, h⟩ := h
      refine v_iald C (pc := 30) e15 dX5_admit_30 ?_
      refine v_iconst C (pc := 31) (v := (-1)) dX5_admit_31 (by decide) ?_
      refine v_icmp_eq C (pc := 32) (tgt := 39) dX5_admit_32 (by decide) (fun c16 => ?_) (fun c16 => ?_)
      · rw [if_pos c16] at h
        refine v_iconst C (pc := 39) (v := 0) dX5_admit_39 (by decide) ?_
        refine v_mask (lv' := [some (va_rf (some o)), some (.int a1), none]) [true, true, false] rfl rfl ?_
        exact tbX5_admit_40 E hR ht  h
      · rw [if_neg c16] at h
        refine v_mask (lv' := [some (va_rf (some o)), some (.int a1), none]) [true, true, false] rfl rfl ?_
        exact tbX5_admit_35 E hR ht  h
  · rw [if_pos c3] at h
    refine v_iconst C (pc := 11) (v := 1) dX5_admit_11 (by decide) ?_
    refine v_goto C (pc := 12) (tgt := 40) dX5_admit_12 (by decide) ?_
    refine v_mask (lv' := [some (va_rf (some o)), some (.int a1), none]) [true, true, false] rfl rfl ?_
    exact tbX5_admit_40 E hR ht  h
/-! X5_show -/
abbrev rmX5_show : Room := { frames := 2, cells := 0, slots := 0, locals := 46 }
theorem iwX5_show_X5 : ∀ w ∈ u_ws RX5 TX5 38, w ∈ wsX5_show := fun _ h => List.mem_cons_of_mem _ (List.mem_append_right _ (h))
theorem flX5_show_31 : Cond.fieldLink RX5 31 "ChargehouseModel" "fileOf" "[I" ∈ wsX5_show := List.mem_cons_of_mem _ (List.mem_append_left _ (List.mem_append_left _ (List.mem_of_getElem? (i := 2) rfl)))
theorem flX5_show_40 : Cond.fieldLink RX5 40 "ChargehouseModel" "against" "[I" ∈ wsX5_show := List.mem_cons_of_mem _ (List.mem_append_left _ (List.mem_append_left _ (List.mem_of_getElem? (i := 0) rfl)))
theorem flX5_show_56 : Cond.fieldLink RX5 56 "ChargehouseModel" "shown" "[I" ∈ wsX5_show := List.mem_cons_of_mem _ (List.mem_append_left _ (List.mem_append_left _ (List.mem_of_getElem? (i := 1) rfl)))
def bX5_show_64 (o : Nat) (Q : hM → Int32 → Prop) (M : hM) (a1 : Int32) (a2 : Int32) (s0 : Option Nat) (s1 : Int32) : Prop :=
  ∃ y10, hC M 5 s0 = some y10 ∧
  wX5_refused M y10 s1 (fun M11 x9 =>
  if (x9 : Int32) = 0 then (
    ∃ x13, gR M11 5 20 (some o) = some x13 ∧
    ∃ x14, aI M11 0 x13 a1 = some x14 ∧
    ∃ M15, sI M11 0 x13 a1 (x14 ||| (1 <<< (a2 &&& 31))) = some M15 ∧
    ∃ x16, gR M15 5 12 (some o) = some x16 ∧
    ∃ x17, aI M15 0 x16 a1 = some x17 ∧
    ∃ y19, hC M15 5 (some o) = some y19 ∧
    ∃ x18, fX5_lacking M15 o x17 a2 = some x18 ∧
    Q M15 x18
  ) else (
    Q M11 0
  ))
set_option maxRecDepth 100000 in
set_option maxHeartbeats 4000000 in
theorem tbX5_show_64 {κ : hKx} {M0 : hM} {sz : Nat} {o : Nat} {Q : hM → Int32 → Prop} (E : Ce κ RX5 cX5_show wsX5_show (some .int) M0 sz (hQi Q) (fun _ _ => False) 0 0) (hR : kR κ = rmX5_show) (ht : ∀ x ∈ (kc κ).exceptionTable.toList, False)  {M : hM} {a1 : Int32} {a2 : Int32} {s0 : Option Nat} {s1 : Int32}  (h : bX5_show_64 o Q M a1 a2 s0 s1) : VW κ 0 0 M 64 [some (va_rf (some o)), some (.int a1), some (.int a2), none] [.int s1, va_rf s0] := by
  unfold bX5_show_64 at h
  have F := E.1
  have C := F.1
  obtain ⟨y10, hy10, hh⟩ := h
  skip
  obtain ⟨rfl, fsy10, hfy10⟩ := hC_inv hy10
  have h := hh
  clear hh
  refine v_nV F (pc := 64) (ci := 5) [.int s1] 1 (cX5_refused_met (kl κ) F.2.2.2.1 (kG κ) _ h) hfy10 rfl gX5_show_X5_refused rfl hdX5_refused rfl rfl rfl (by rw [hR]; exact ⟨Nat.le_of_ble_eq_true rfl, Nat.le_of_ble_eq_true rfl⟩) (by rw [hR]; decide) (Nat.le_of_ble_eq_true rfl) rfl dX5_show_64 (hk_i fun M11 x9 h => ?_)
  refine v_if_eq C (pc := 67) (tgt := 72) dX5_show_67 (by decide) (fun c12 => ?_) (fun c12 => ?_)
  · rw [if_pos c12] at h
    refine v_aload_n C (pc := 72) (i := 0) dX5_show_72 rfl ?_
    obtain ⟨x13, e13, h⟩ := h
    refine v_getR C (pc := 73) (ci := 5) 20 iwX5_show_X5 rfl (by decide) flX5_show_56 e13 dX5_show_73 ?_
    refine v_iload_n C (pc := 76) (i := 1) dX5_show_76 rfl ?_
    refine v_dup2 C (pc := 77) dX5_show_77 (rfl) (rf_cat _) ?_
    obtain ⟨x14, e14, h⟩ := h
    refine v_iald C (pc := 78) e14 dX5_show_78 ?_
    refine v_iconst C (pc := 79) (v := 1) dX5_show_79 (by decide) ?_
    refine v_iload_n C (pc := 80) (i := 2) dX5_show_80 rfl ?_
    refine v_ishl C (pc := 81) dX5_show_81 ?_
    refine v_ior C (pc := 82) dX5_show_82 ?_
    obtain ⟨M15, e15, h⟩ := h
    refine v_iast F (pc := 83) e15 dX5_show_83 ?_
    refine v_aload_n C (pc := 84) (i := 0) dX5_show_84 rfl ?_
    refine v_aload_n C (pc := 85) (i := 0) dX5_show_85 rfl ?_
    obtain ⟨x16, e16, h⟩ := h
    refine v_getR C (pc := 86) (ci := 5) 12 iwX5_show_X5 rfl (by decide) flX5_show_31 e16 dX5_show_86 ?_
    refine v_iload_n C (pc := 89) (i := 1) dX5_show_89 rfl ?_
    obtain ⟨x17, e17, h⟩ := h
    refine v_iald C (pc := 90) e17 dX5_show_90 ?_
    refine v_iload_n C (pc := 91) (i := 2) dX5_show_91 rfl ?_
    obtain ⟨y19, hy19, h⟩ := h
    obtain ⟨fsy19, hfy19⟩ := hC_some hy19
    obtain ⟨x18, e18, h⟩ := h
    refine v_pV C (pc := 92) (ci := 5) [.int x17, .int a2] 2 (cX5_lacking_met (kl κ) (kG κ) _ e18) hfy19 rfl gX5_show_X5_lacking rfl hdX5_lacking rfl rfl rfl (by rw [hR]; exact ⟨Nat.le_of_ble_eq_true rfl, Nat.le_of_ble_eq_true rfl⟩) (by rw [hR]; decide) (Nat.le_of_ble_eq_true rfl) rfl dX5_show_92 ?_
    exact v_eret (pc := 95) E rfl (nar_int _) ⟨_, rfl, h⟩ (by decide) (by decide) dX5_show_95
  · rw [if_neg c12] at h
    refine v_iconst C (pc := 70) (v := 0) dX5_show_70 (by decide) ?_
    exact v_eret (pc := 71) E rfl (nar_int _) ⟨_, rfl, h⟩ (by decide) (by decide) dX5_show_71
def bX5_show_59 (o : Nat) (Q : hM → Int32 → Prop) (M : hM) (a1 : Int32) (a2 : Int32) (s0 : Option Nat) : Prop :=
  bX5_show_64 o Q M a1 a2 s0 2
set_option maxRecDepth 100000 in
set_option maxHeartbeats 4000000 in
theorem tbX5_show_59 {κ : hKx} {M0 : hM} {sz : Nat} {o : Nat} {Q : hM → Int32 → Prop} (E : Ce κ RX5 cX5_show wsX5_show (some .int) M0 sz (hQi Q) (fun _ _ => False) 0 0) (hR : kR κ = rmX5_show) (ht : ∀ x ∈ (kc κ).exceptionTable.toList, False)  {M : hM} {a1 : Int32} {a2 : Int32} {s0 : Option Nat}  (h : bX5_show_59 o Q M a1 a2 s0) : VW κ 0 0 M 59 [some (va_rf (some o)), some (.int a1), some (.int a2), none] [va_rf s0] := by
  unfold bX5_show_59 at h
  have F := E.1
  have C := F.1
  refine v_iconst C (pc := 59) (v := 2) dX5_show_59 (by decide) ?_
  refine v_goto C (pc := 60) (tgt := 64) dX5_show_60 (by decide) ?_
  exact tbX5_show_64 E hR ht  h
def bX5_show_23 (o : Nat) (Q : hM → Int32 → Prop) (M : hM) (a1 : Int32) (a2 : Int32) (s0 : Int32) : Prop :=
  if (s0 : Int32) = 0 then (
    bX5_show_64 o Q M a1 a2 (some o) 1
  ) else (
    ∃ x5, gR M 5 15 (some o) = some x5 ∧
    ∃ x6, aI M 0 x5 a1 = some x6 ∧
    ∃ x7, fX5_has x6 a2 = some x7 ∧
    if (x7 : Int32) = 0 then (
      bX5_show_59 o Q M a1 a2 (some o)
    ) else (
      ∃ x20, gR M 5 20 (some o) = some x20 ∧
      ∃ x21, aI M 0 x20 a1 = some x21 ∧
      ∃ x22, fX5_has x21 a2 = some x22 ∧
      if (x22 : Int32) = 0 then (
        bX5_show_64 o Q M a1 a2 (some o) 0
      ) else (
        bX5_show_59 o Q M a1 a2 (some o)
      )
    )
  )
set_option maxRecDepth 100000 in
set_option maxHeartbeats 4000000 in
theorem tbX5_show_23 {κ : hKx} {M0 : hM} {sz : Nat} {o : Nat} {Q : hM → Int32 → Prop} (E : Ce κ RX5 cX5_show wsX5_show (some .int) M0 sz (hQi Q) (fun _ _ => False) 0 0) (hR : kR κ = rmX5_show) (ht : ∀ x ∈ (kc κ).exceptionTable.toList, False)  {M : hM} {a1 : Int32} {a2 : Int32} {s0 : Int32}  (h : bX5_show_23 o Q M a1 a2 s0) : VW κ 0 0 M 23 [some (va_rf (some o)), some (.int a1), some (.int a2), none] [.int s0] := by
  unfold bX5_show_23 at h
  have F := E.1
  have C := F.1
  refine v_istore_n C (pc := 23) (i := 3) (lv' := [some (va_rf (some o)), some (.int a1), some (.int a2), some (.int s0)]) dX5_show_23 rfl rfl ?_
  refine v_aload_n C (pc := 24) (i := 0) dX5_show_24 rfl ?_
  refine v_iload_n C (pc := 25) (i := 3) dX5_show_25 rfl ?_
  refine v_if_ne C (pc := 26) (tgt := 33) dX5_show_26 (by decide) (fun c4 => ?_) (fun c4 => ?_)
  · rw [if_neg c4] at h
    refine v_aload_n C (pc := 33) (i := 0) dX5_show_33 rfl ?_
    obtain ⟨x5, e5, h⟩ := h
    refine v_getR C (pc := 34) (ci := 5) 15 iwX5_show_X5 rfl (by decide) flX5_show_40 e5 dX5_show_34 ?_
    refine v_iload_n C (pc := 37) (i := 1) dX5_show_37 rfl ?_
    obtain ⟨x6, e6, h⟩ := h
    refine v_iald C (pc := 38) e6 dX5_show_38 ?_
    refine v_iload_n C (pc := 39) (i := 2) dX5_show_39 rfl ?_
    obtain ⟨x7, e7, h⟩ := h
    refine v_pS C (pc := 40) [.int x6, .int a2] 2 (cX5_has_met (kl κ) (kG κ) _ e7) gX5_show_X5_has rfl hdsX5_has rfl rfl rfl (by rw [hR]; exact ⟨Nat.le_of_ble_eq_true rfl, Nat.le_of_ble_eq_true rfl⟩) (by rw [hR]; decide) (Nat.le_of_ble_eq_true rfl) rfl dX5_show_40 ?_
    refine v_if_eq C (pc := 43) (tgt := 59) dX5_show_43 (by decide) (fun c8 => ?_) (fun c8 => ?_)
    · rw [if_pos c8] at h
      refine v_mask (lv' := [some (va_rf (some o)), some (.int a1), some (.int a2), none]) [true, true, true, false] rfl rfl ?_
      exact tbX5_show_59 E hR ht  h
    · rw [if_neg c8] at h
      refine v_aload_n C (pc := 46) (i := 0) dX5_show_46 rfl ?_
      obtain ⟨x20, e20, h⟩ := h
      refine v_getR C (pc := 47) (ci := 5) 20 iwX5_show_X5 rfl (by decide) flX5_show_56 e20 dX5_show_47 ?_
      refine v_iload_n C (pc := 50) (i := 1) dX5_show_50 rfl ?_
      obtain ⟨x21, e21, h⟩ := h
      refine v_iald C (pc := 51) e21 dX5_show_51 ?_
      refine v_iload_n C (pc := 52) (i := 2) dX5_show_52 rfl ?_
      obtain ⟨x22, e22, h⟩ := h
      refine v_pS C (pc := 53) [.int x21, .int a2] 2 (cX5_has_met (kl κ) (kG κ) _ e22) gX5_show_X5_has rfl hdsX5_has rfl rfl rfl (by rw [hR]; exact ⟨Nat.le_of_ble_eq_true rfl, Nat.le_of_ble_eq_true rfl⟩) (by rw [hR]; decide) (Nat.le_of_ble_eq_true rfl) rfl dX5_show_53 ?_
      refine v_if_eq C (pc := 56) (tgt := 63) dX5_show_56 (by decide) (fun c23 => ?_) (fun c23 => ?_)
      · rw [if_pos c23] at h
        refine v_iconst C (pc := 63) (v := 0) dX5_show_63 (by decide) ?_
        refine v_mask (lv' := [some (va_rf (some o)), some (.int a1), some (.int a2), none]) [true, true, true, false] rfl rfl ?_
        exact tbX5_show_64 E hR ht  h
      · rw [if_neg c23] at h
        refine v_mask (lv' := [some (va_rf (some o)), some (.int a1), some (.int a2), none]) [true, true, true, false] rfl rfl ?_
        exact tbX5_show_59 E hR ht  h
  · rw [if_pos c4] at h
    refine v_iconst C (pc := 29) (v := 1) dX5_show_29 (by decide) ?_
    refine v_goto C (pc := 30) (tgt := 64) dX5_show_30 (by decide) ?_
    refine v_mask (lv' := [some (va_rf (some o)), some (.int a1), some (.int a2), none]) [true, true, true, false] rfl rfl ?_
    exact tbX5_show_64 E hR ht  h
def bX5_show_22 (o : Nat) (Q : hM → Int32 → Prop) (M : hM) (a1 : Int32) (a2 : Int32) : Prop :=
  bX5_show_23 o Q M a1 a2 0
set_option maxRecDepth 100000 in
set_option maxHeartbeats 4000000 in
theorem tbX5_show_22 {κ : hKx} {M0 : hM} {sz : Nat} {o : Nat} {Q : hM → Int32 → Prop} (E : Ce κ RX5 cX5_show wsX5_show (some .int) M0 sz (hQi Q) (fun _ _ => False) 0 0) (hR : kR κ = rmX5_show) (ht : ∀ x ∈ (kc κ).exceptionTable.toList, False)  {M : hM} {a1 : Int32} {a2 : Int32}  (h : bX5_show_22 o Q M a1 a2) : VW κ 0 0 M 22 [some (va_rf (some o)), some (.int a1), some (.int a2), none] [] := by
  unfold bX5_show_22 at h
  have F := E.1
  have C := F.1
  refine v_iconst C (pc := 22) (v := 0) dX5_show_22 (by decide) ?_
  exact tbX5_show_23 E hR ht  h
def wX5_show (M : hM) (o : Nat) (a1 : Int32) (a2 : Int32) (Q : hM → Int32 → Prop) : Prop :=
  ∃ y2, hC M 5 (some o) = some y2 ∧
  ∃ x1, fX5_isItem M o a1 = some x1 ∧
  if (x1 : Int32) = 0 then (
    bX5_show_22 o Q M a1 a2
  ) else (
    ∃ x24, fX5_in a2 0 7 = some x24 ∧
    if (x24 : Int32) = 0 then (
      bX5_show_22 o Q M a1 a2
    ) else (
      bX5_show_23 o Q M a1 a2 1
    )
  )
set_option maxRecDepth 100000 in
set_option maxHeartbeats 4000000 in
theorem cX5_show_met (l : Launch) (hfl : l.stackTraces = false) (G : hG) (M : hM) {o : Nat} {a1 : Int32} {a2 : Int32} {Q : hM → Int32 → Prop} (h : wX5_show M o a1 a2 Q) : hEMet l yX5_show wsX5_show rmX5_show [.ref o, .int a1, .int a2] G M (hQi Q) (fun _ _ => False) 0 0 := by
  refine he_entry (own := RX5) (cc := cX5_show) (maxL := 4) (ret := (some .int)) (lv := [some (va_rf (some o)), some (.int a1), some (.int a2), none]) hfl (by decide) rfl rfl (hcc rfl (hcc rfl (hcc rfl hc0))) (Nat.le_of_ble_eq_true rfl) rfl (fun κ sz hG hl hR E ht hn => ?_)
  subst hG; subst hl
  unfold wX5_show at h
  have F := E.1
  have C := F.1
  refine v_aload_n C (pc := 0) (i := 0) dX5_show_0 rfl ?_
  refine v_iload_n C (pc := 1) (i := 1) dX5_show_1 rfl ?_
  obtain ⟨y2, hy2, h⟩ := h
  obtain ⟨fsy2, hfy2⟩ := hC_some hy2
  obtain ⟨x1, e1, h⟩ := h
  refine v_pV C (pc := 2) (ci := 5) [.int a1] 1 (cX5_isItem_met (kl κ) (kG κ) _ e1) hfy2 rfl gX5_show_X5_isItem rfl hdX5_isItem rfl rfl rfl (by rw [hR]; exact ⟨Nat.le_of_ble_eq_true rfl, Nat.le_of_ble_eq_true rfl⟩) (by rw [hR]; decide) (Nat.le_of_ble_eq_true rfl) rfl dX5_show_2 ?_
  refine v_if_eq C (pc := 5) (tgt := 22) dX5_show_5 (by decide) (fun c3 => ?_) (fun c3 => ?_)
  · rw [if_pos c3] at h
    exact tbX5_show_22 E hR ht  h
  · rw [if_neg c3] at h
    refine v_iload_n C (pc := 8) (i := 2) dX5_show_8 rfl ?_
    refine v_iconst C (pc := 9) (v := 0) dX5_show_9 (by decide) ?_
    refine v_bipush C (pc := 10) (v := 7) dX5_show_10 (by decide) ?_
    obtain ⟨x24, e24, h⟩ := h
    refine v_pS C (pc := 12) [.int a2, .int 0, .int 7] 3 (cX5_in_met (kl κ) (kG κ) _ e24) gX5_show_X5_in rfl hdsX5_in rfl rfl rfl (by rw [hR]; exact ⟨Nat.le_of_ble_eq_true rfl, Nat.le_of_ble_eq_true rfl⟩) (by rw [hR]; decide) (Nat.le_of_ble_eq_true rfl) rfl dX5_show_12 ?_
    refine v_if_eq C (pc := 15) (tgt := 22) dX5_show_15 (by decide) (fun c25 => ?_) (fun c25 => ?_)
    · rw [if_pos c25] at h
      exact tbX5_show_22 E hR ht  h
    · rw [if_neg c25] at h
      refine v_iconst C (pc := 18) (v := 1) dX5_show_18 (by decide) ?_
      refine v_goto C (pc := 19) (tgt := 23) dX5_show_19 (by decide) ?_
      exact tbX5_show_23 E hR ht  h
/-! X5_withhold -/
abbrev rmX5_withhold : Room := { frames := 2, cells := 0, slots := 0, locals := 43 }
theorem iwX5_withhold_X5 : ∀ w ∈ u_ws RX5 TX5 38, w ∈ wsX5_withhold := fun _ h => List.mem_cons_of_mem _ (List.mem_append_right _ (h))
theorem flX5_withhold_46 : Cond.fieldLink RX5 46 "ChargehouseModel" "isSensitive" "[Z" ∈ wsX5_withhold := List.mem_cons_of_mem _ (List.mem_append_left _ (List.mem_of_getElem? (i := 0) rfl))
theorem flX5_withhold_59 : Cond.fieldLink RX5 59 "ChargehouseModel" "isWithheld" "[Z" ∈ wsX5_withhold := List.mem_cons_of_mem _ (List.mem_append_left _ (List.mem_of_getElem? (i := 1) rfl))
def bX5_withhold_38 (o : Nat) (Q : hM → Prop) (M : hM) (a1 : Int32) (s0 : Option Nat) (s1 : Int32) : Prop :=
  ∃ y8, hC M 5 s0 = some y8 ∧
  wX5_refused M y8 s1 (fun M9 x7 =>
  if (x7 : Int32) = 0 then (
    ∃ x11, gR M9 5 21 (some o) = some x11 ∧
    ∃ M12, sZ M9 1 x11 a1 1 = some M12 ∧
    Q M12
  ) else (
    Q M9
  ))
set_option maxRecDepth 100000 in
set_option maxHeartbeats 4000000 in
theorem tbX5_withhold_38 {κ : hKx} {M0 : hM} {sz : Nat} {o : Nat} {Q : hM → Prop} (E : Ce κ RX5 cX5_withhold wsX5_withhold none M0 sz (hQv Q) (fun _ _ => False) 0 0) (hR : kR κ = rmX5_withhold) (ht : ∀ x ∈ (kc κ).exceptionTable.toList, False)  {M : hM} {a1 : Int32} {s0 : Option Nat} {s1 : Int32}  (h : bX5_withhold_38 o Q M a1 s0 s1) : VW κ 0 0 M 38 [some (va_rf (some o)), some (.int a1), none] [.int s1, va_rf s0] := by
  unfold bX5_withhold_38 at h
  have F := E.1
  have C := F.1
  obtain ⟨y8, hy8, hh⟩ := h
  skip
  obtain ⟨rfl, fsy8, hfy8⟩ := hC_inv hy8
  have h := hh
  clear hh
  refine v_nV F (pc := 38) (ci := 5) [.int s1] 1 (cX5_refused_met (kl κ) F.2.2.2.1 (kG κ) _ h) hfy8 rfl gX5_withhold_X5_refused rfl hdX5_refused rfl rfl rfl (by rw [hR]; exact ⟨Nat.le_of_ble_eq_true rfl, Nat.le_of_ble_eq_true rfl⟩) (by rw [hR]; decide) (Nat.le_of_ble_eq_true rfl) rfl dX5_withhold_38 (hk_i fun M9 x7 h => ?_)
  refine v_if_eq C (pc := 41) (tgt := 45) dX5_withhold_41 (by decide) (fun c10 => ?_) (fun c10 => ?_)
  · rw [if_pos c10] at h
    refine v_aload_n C (pc := 45) (i := 0) dX5_withhold_45 rfl ?_
    obtain ⟨x11, e11, h⟩ := h
    refine v_getR C (pc := 46) (ci := 5) 21 iwX5_withhold_X5 rfl (by decide) flX5_withhold_59 e11 dX5_withhold_46 ?_
    refine v_iload_n C (pc := 49) (i := 1) dX5_withhold_49 rfl ?_
    refine v_iconst C (pc := 50) (v := 1) dX5_withhold_50 (by decide) ?_
    obtain ⟨M12, e12, h⟩ := h
    refine v_zast F (pc := 51) e12 dX5_withhold_51 ?_
    exact v_eretV (pc := 52) E rfl ⟨rfl, h⟩ (by decide) (by decide) dX5_withhold_52
  · rw [if_neg c10] at h
    exact v_eretV (pc := 44) E rfl ⟨rfl, h⟩ (by decide) (by decide) dX5_withhold_44
def bX5_withhold_33 (o : Nat) (Q : hM → Prop) (M : hM) (a1 : Int32) (s0 : Option Nat) : Prop :=
  bX5_withhold_38 o Q M a1 s0 2
set_option maxRecDepth 100000 in
set_option maxHeartbeats 4000000 in
theorem tbX5_withhold_33 {κ : hKx} {M0 : hM} {sz : Nat} {o : Nat} {Q : hM → Prop} (E : Ce κ RX5 cX5_withhold wsX5_withhold none M0 sz (hQv Q) (fun _ _ => False) 0 0) (hR : kR κ = rmX5_withhold) (ht : ∀ x ∈ (kc κ).exceptionTable.toList, False)  {M : hM} {a1 : Int32} {s0 : Option Nat}  (h : bX5_withhold_33 o Q M a1 s0) : VW κ 0 0 M 33 [some (va_rf (some o)), some (.int a1), none] [va_rf s0] := by
  unfold bX5_withhold_33 at h
  have F := E.1
  have C := F.1
  refine v_iconst C (pc := 33) (v := 2) dX5_withhold_33 (by decide) ?_
  refine v_goto C (pc := 34) (tgt := 38) dX5_withhold_34 (by decide) ?_
  exact tbX5_withhold_38 E hR ht  h
def wX5_withhold (M : hM) (o : Nat) (a1 : Int32) (Q : hM → Prop) : Prop :=
  ∃ y2, hC M 5 (some o) = some y2 ∧
  ∃ x1, fX5_isItem M o a1 = some x1 ∧
  if (x1 : Int32) = 0 then (
    bX5_withhold_38 o Q M a1 (some o) 1
  ) else (
    ∃ x4, gR M 5 17 (some o) = some x4 ∧
    ∃ x5, aI M 1 x4 a1 = some x5 ∧
    if (x5 : Int32) = 0 then (
      bX5_withhold_33 o Q M a1 (some o)
    ) else (
      ∃ x13, gR M 5 21 (some o) = some x13 ∧
      ∃ x14, aI M 1 x13 a1 = some x14 ∧
      if (x14 : Int32) = 0 then (
        bX5_withhold_38 o Q M a1 (some o) 0
      ) else (
        bX5_withhold_33 o Q M a1 (some o)
      )
    )
  )
set_option maxRecDepth 100000 in
set_option maxHeartbeats 4000000 in
theorem cX5_withhold_met (l : Launch) (hfl : l.stackTraces = false) (G : hG) (M : hM) {o : Nat} {a1 : Int32} {Q : hM → Prop} (h : wX5_withhold M o a1 Q) : hEMet l yX5_withhold wsX5_withhold rmX5_withhold [.ref o, .int a1] G M (hQv Q) (fun _ _ => False) 0 0 := by
  refine he_entry (own := RX5) (cc := cX5_withhold) (maxL := 3) (ret := none) (lv := [some (va_rf (some o)), some (.int a1), none]) hfl (by decide) rfl rfl (hcc rfl (hcc rfl hc0)) (Nat.le_of_ble_eq_true rfl) rfl (fun κ sz hG hl hR E ht hn => ?_)
  subst hG; subst hl
  unfold wX5_withhold at h
  have F := E.1
  have C := F.1
  refine v_aload_n C (pc := 0) (i := 0) dX5_withhold_0 rfl ?_
  refine v_iload_n C (pc := 1) (i := 1) dX5_withhold_1 rfl ?_
  obtain ⟨y2, hy2, h⟩ := h
  obtain ⟨fsy2, hfy2⟩ := hC_some hy2
  obtain ⟨x1, e1, h⟩ := h
  refine v_pV C (pc := 2) (ci := 5) [.int a1] 1 (cX5_isItem_met (kl κ) (kG κ) _ e1) hfy2 rfl gX5_withhold_X5_isItem rfl hdX5_isItem rfl rfl rfl (by rw [hR]; exact ⟨Nat.le_of_ble_eq_true rfl, Nat.le_of_ble_eq_true rfl⟩) (by rw [hR]; decide) (Nat.le_of_ble_eq_true rfl) rfl dX5_withhold_2 ?_
  refine v_istore_n C (pc := 5) (i := 2) (lv' := [some (va_rf (some o)), some (.int a1), some (.int x1)]) dX5_withhold_5 rfl rfl ?_
  refine v_aload_n C (pc := 6) (i := 0) dX5_withhold_6 rfl ?_
  refine v_iload_n C (pc := 7) (i := 2) dX5_withhold_7 rfl ?_
  refine v_if_ne C (pc := 8) (tgt := 15) dX5_withhold_8 (by decide) (fun c3 => ?_) (fun c3 => ?_)
  · rw [if_neg c3] at h
    refine v_aload_n C (pc := 15) (i := 0) dX5_withhold_15 rfl ?_
    obtain ⟨x4, e4, h⟩ := h
    refine v_getR C (pc := 16) (ci := 5) 17 iwX5_withhold_X5 rfl (by decide) flX5_withhold_46 e4 dX5_withhold_16 ?_
    refine v_iload_n C (pc := 19) (i := 1) dX5_withhold_19 rfl ?_
    obtain ⟨x5, e5, h⟩ := h
    refine v_zald C (pc := 20) e5 dX5_withhold_20 ?_
    refine v_if_eq C (pc := 21) (tgt := 33) dX5_withhold_21 (by decide) (fun c6 => ?_) (fun c6 => ?_)
    · rw [if_pos c6] at h
      refine v_mask (lv' := [some (va_rf (some o)), some (.int a1), none]) [true, true, false] rfl rfl ?_
      exact tbX5_withhold_33 E hR ht  h
    · rw [if_neg c6] at h
      refine v_aload_n C (pc := 24) (i := 0) dX5_withhold_24 rfl ?_
      obtain ⟨x13, e13, h⟩ := h
      refine v_getR C (pc := 25) (ci := 5) 21 iwX5_withhold_X5 rfl (by decide) flX5_withhold_59 e13 dX5_withhold_25 ?_
      refine v_iload_n C (pc := 28) (i := 1) dX5_withhold_28 rfl ?_
      obtain ⟨x14, e14, h⟩ := h
      refine v_zald C (pc := 29) e14 dX5_withhold_29 ?_
      refine v_if_eq C (pc := 30) (tgt := 37) dX5_withhold_30 (by decide) (fun c15 => ?_) (fun c15 => ?_)
      · rw [if_pos c15] at h
        refine v_iconst C (pc := 37) (v := 0) dX5_withhold_37 (by decide) ?_
        refine v_mask (lv' := [some (va_rf (some o)), some (.int a1), none]) [true, true, false] rfl rfl ?_
        exact tbX5_withhold_38 E hR ht  h
      · rw [if_neg c15] at h
        refine v_mask (lv' := [some (va_rf (some o)), some (.int a1), none]) [true, true, false] rfl rfl ?_
        exact tbX5_withhold_33 E hR ht  h
  · rw [if_pos c3] at h
    refine v_iconst C (pc := 11) (v := 1) dX5_withhold_11 (by decide) ?_
    refine v_goto C (pc := 12) (tgt := 38) dX5_withhold_12 (by decide) ?_
    refine v_mask (lv' := [some (va_rf (some o)), some (.int a1), none]) [true, true, false] rfl rfl ?_
    exact tbX5_withhold_38 E hR ht  h
/-! X5_charge -/
abbrev rmX5_charge : Room := { frames := 5, cells := 0, slots := 0, locals := 125 }
theorem iwX5_charge_X5 : ∀ w ∈ u_ws RX5 TX5 38, w ∈ wsX5_charge := fun _ h => List.mem_cons_of_mem _ (List.mem_append_right _ (h))
theorem flX5_charge_135 : Cond.fieldLink RX5 135 "ChargehouseModel" "day" "I" ∈ wsX5_charge := List.mem_cons_of_mem _ (List.mem_append_left _ (List.mem_append_left _ (List.mem_of_getElem? (i := 1) rfl)))
theorem flX5_charge_62 : Cond.fieldLink RX5 62 "ChargehouseModel" "state" "[I" ∈ wsX5_charge := List.mem_cons_of_mem _ (List.mem_append_left _ (List.mem_append_left _ (List.mem_of_getElem? (i := 0) rfl)))
theorem flX5_charge_65 : Cond.fieldLink RX5 65 "ChargehouseModel" "charges" "[I" ∈ wsX5_charge := List.mem_cons_of_mem _ (List.mem_append_left _ (List.mem_append_left _ (List.mem_of_getElem? (i := 2) rfl)))
theorem flX5_charge_68 : Cond.fieldLink RX5 68 "ChargehouseModel" "since" "[I" ∈ wsX5_charge := List.mem_cons_of_mem _ (List.mem_append_left _ (List.mem_append_left _ (List.mem_of_getElem? (i := 3) rfl)))
theorem flX5_charge_80 : Cond.fieldLink RX5 80 "ChargehouseModel" "later" "[I" ∈ wsX5_charge := List.mem_cons_of_mem _ (List.mem_append_left _ (List.mem_append_left _ (List.mem_of_getElem? (i := 4) rfl)))
def bX5_charge_93 (o : Nat) (Q : hM → Int32 → Prop) (M : hM) (a3 : Int32) (a5 : Int32) (s0 : Option Nat) (s1 : Int32) : Prop :=
  ∃ y10, hC M 5 s0 = some y10 ∧
  wX5_refused M y10 s1 (fun M11 x9 =>
  if (x9 : Int32) = 0 then (
    ∃ x13, gR M11 5 22 (some o) = some x13 ∧
    ∃ M14, sI M11 0 x13 a5 2 = some M14 ∧
    ∃ x15, gR M14 5 23 (some o) = some x15 ∧
    ∃ M16, sI M14 0 x15 a5 a3 = some M16 ∧
    ∃ x17, gR M16 5 24 (some o) = some x17 ∧
    ∃ x18, gI M16 5 1 (some o) = some x18 ∧
    ∃ M19, sI M16 0 x17 a5 x18 = some M19 ∧
    ∃ x20, gR M19 5 28 (some o) = some x20 ∧
    ∃ M21, sI M19 0 x20 a5 0 = some M21 ∧
    ∃ y23, hC M21 5 (some o) = some y23 ∧
    ∃ x22, fX5_heavy M21 o a3 = some x22 ∧
    Q M21 x22
  ) else (
    Q M11 0
  ))
set_option maxRecDepth 100000 in
set_option maxHeartbeats 4000000 in
theorem tbX5_charge_93 {κ : hKx} {M0 : hM} {sz : Nat} {o : Nat} {Q : hM → Int32 → Prop} (E : Ce κ RX5 cX5_charge wsX5_charge (some .int) M0 sz (hQi Q) (fun _ _ => False) 0 0) (hR : kR κ = rmX5_charge) (ht : ∀ x ∈ (kc κ).exceptionTable.toList, False)  {M : hM} {a3 : Int32} {a5 : Int32} {s0 : Option Nat} {s1 : Int32}  (h : bX5_charge_93 o Q M a3 a5 s0 s1) : VW κ 0 0 M 93 [some (va_rf (some o)), none, none, some (.int a3), none, some (.int a5), none, none] [.int s1, va_rf s0] := by
  unfold bX5_charge_93 at h
  have F := E.1
  have C := F.1
  obtain ⟨y10, hy10, hh⟩ := h
  skip
  obtain ⟨rfl, fsy10, hfy10⟩ := hC_inv hy10
  have h := hh
  clear hh
  refine v_nV F (pc := 93) (ci := 5) [.int s1] 1 (cX5_refused_met (kl κ) F.2.2.2.1 (kG κ) _ h) hfy10 rfl gX5_charge_X5_refused rfl hdX5_refused rfl rfl rfl (by rw [hR]; exact ⟨Nat.le_of_ble_eq_true rfl, Nat.le_of_ble_eq_true rfl⟩) (by rw [hR]; decide) (Nat.le_of_ble_eq_true rfl) rfl dX5_charge_93 (hk_i fun M11 x9 h => ?_)
  refine v_if_eq C (pc := 96) (tgt := 101) dX5_charge_96 (by decide) (fun c12 => ?_) (fun c12 => ?_)
  · rw [if_pos c12] at h
    refine v_aload_n C (pc := 101) (i := 0) dX5_charge_101 rfl ?_
    obtain ⟨x13, e13, h⟩ := h
    refine v_getR C (pc := 102) (ci := 5) 22 iwX5_charge_X5 rfl (by decide) flX5_charge_62 e13 dX5_charge_102 ?_
    refine v_iload C (pc := 105) (i := 5) dX5_charge_105 rfl ?_
    refine v_iconst C (pc := 107) (v := 2) dX5_charge_107 (by decide) ?_
    obtain ⟨M14, e14, h⟩ := h
    refine v_iast F (pc := 108) e14 dX5_charge_108 ?_
    refine v_aload_n C (pc := 109) (i := 0) dX5_charge_109 rfl ?_
    obtain ⟨x15, e15, h⟩ := h
    refine v_getR C (pc := 110) (ci := 5) 23 iwX5_charge_X5 rfl (by decide) flX5_charge_65 e15 dX5_charge_110 ?_
    refine v_iload C (pc := 113) (i := 5) dX5_charge_113 rfl ?_
    refine v_iload_n C (pc := 115) (i := 3) dX5_charge_115 rfl ?_
    obtain ⟨M16, e16, h⟩ := h
    refine v_iast F (pc := 116) e16 dX5_charge_116 ?_
    refine v_aload_n C (pc := 117) (i := 0) dX5_charge_117 rfl ?_
    obtain ⟨x17, e17, h⟩ := h
    refine v_getR C (pc := 118) (ci := 5) 24 iwX5_charge_X5 rfl (by decide) flX5_charge_68 e17 dX5_charge_118 ?_
    refine v_iload C (pc := 121) (i := 5) dX5_charge_121 rfl ?_
    refine v_aload_n C (pc := 123) (i := 0) dX5_charge_123 rfl ?_
    obtain ⟨x18, e18, h⟩ := h
    refine v_getI C (pc := 124) (ci := 5) 1 iwX5_charge_X5 rfl (by decide) flX5_charge_135 e18 dX5_charge_124 ?_
    obtain ⟨M19, e19, h⟩ := h
    refine v_iast F (pc := 127) e19 dX5_charge_127 ?_
    refine v_aload_n C (pc := 128) (i := 0) dX5_charge_128 rfl ?_
    obtain ⟨x20, e20, h⟩ := h
    refine v_getR C (pc := 129) (ci := 5) 28 iwX5_charge_X5 rfl (by decide) flX5_charge_80 e20 dX5_charge_129 ?_
    refine v_iload C (pc := 132) (i := 5) dX5_charge_132 rfl ?_
    refine v_iconst C (pc := 134) (v := 0) dX5_charge_134 (by decide) ?_
    obtain ⟨M21, e21, h⟩ := h
    refine v_iast F (pc := 135) e21 dX5_charge_135 ?_
    refine v_aload_n C (pc := 136) (i := 0) dX5_charge_136 rfl ?_
    refine v_iload_n C (pc := 137) (i := 3) dX5_charge_137 rfl ?_
    obtain ⟨y23, hy23, h⟩ := h
    obtain ⟨fsy23, hfy23⟩ := hC_some hy23
    obtain ⟨x22, e22, h⟩ := h
    refine v_pV C (pc := 138) (ci := 5) [.int a3] 1 (cX5_heavy_met (kl κ) (kG κ) _ e22) hfy23 rfl gX5_charge_X5_heavy rfl hdX5_heavy rfl rfl rfl (by rw [hR]; exact ⟨Nat.le_of_ble_eq_true rfl, Nat.le_of_ble_eq_true rfl⟩) (by rw [hR]; decide) (Nat.le_of_ble_eq_true rfl) rfl dX5_charge_138 ?_
    exact v_eret (pc := 141) E rfl (nar_int _) ⟨_, rfl, h⟩ (by decide) (by decide) dX5_charge_141
  · rw [if_neg c12] at h
    refine v_iconst C (pc := 99) (v := 0) dX5_charge_99 (by decide) ?_
    exact v_eret (pc := 100) E rfl (nar_int _) ⟨_, rfl, h⟩ (by decide) (by decide) dX5_charge_100
def bX5_charge_62 (o : Nat) (Q : hM → Int32 → Prop) (M : hM) (a3 : Int32) (a4 : Int32) (a5 : Int32) (a6 : Int32) (s0 : Int32) : Prop :=
  if (a4 : Int32) = 0 then (
    bX5_charge_93 o Q M a3 a5 (some o) 1
  ) else (
    if (a6 : Int32) = 0 then (
      bX5_charge_93 o Q M a3 a5 (some o) 2
    ) else (
      if (s0 : Int32) = 0 then (
        bX5_charge_93 o Q M a3 a5 (some o) 3
      ) else (
        bX5_charge_93 o Q M a3 a5 (some o) 0
      )
    )
  )
set_option maxRecDepth 100000 in
set_option maxHeartbeats 4000000 in
theorem tbX5_charge_62 {κ : hKx} {M0 : hM} {sz : Nat} {o : Nat} {Q : hM → Int32 → Prop} (E : Ce κ RX5 cX5_charge wsX5_charge (some .int) M0 sz (hQi Q) (fun _ _ => False) 0 0) (hR : kR κ = rmX5_charge) (ht : ∀ x ∈ (kc κ).exceptionTable.toList, False)  {M : hM} {a3 : Int32} {a4 : Int32} {a5 : Int32} {a6 : Int32} {s0 : Int32}  (h : bX5_charge_62 o Q M a3 a4 a5 a6 s0) : VW κ 0 0 M 62 [some (va_rf (some o)), none, none, some (.int a3), some (.int a4), some (.int a5), some (.int a6), none] [.int s0] := by
  unfold bX5_charge_62 at h
  have F := E.1
  have C := F.1
  refine v_istore C (pc := 62) (i := 7) (lv' := [some (va_rf (some o)), none, none, some (.int a3), some (.int a4), some (.int a5), some (.int a6), some (.int s0)]) dX5_charge_62 rfl rfl ?_
  refine v_aload_n C (pc := 64) (i := 0) dX5_charge_64 rfl ?_
  refine v_iload C (pc := 65) (i := 4) dX5_charge_65 rfl ?_
  refine v_if_ne C (pc := 67) (tgt := 74) dX5_charge_67 (by decide) (fun c6 => ?_) (fun c6 => ?_)
  · rw [if_neg c6] at h
    refine v_iload C (pc := 74) (i := 6) dX5_charge_74 rfl ?_
    refine v_if_ne C (pc := 76) (tgt := 83) dX5_charge_76 (by decide) (fun c7 => ?_) (fun c7 => ?_)
    · rw [if_neg c7] at h
      refine v_iload C (pc := 83) (i := 7) dX5_charge_83 rfl ?_
      refine v_if_eq C (pc := 85) (tgt := 92) dX5_charge_85 (by decide) (fun c8 => ?_) (fun c8 => ?_)
      · rw [if_pos c8] at h
        refine v_iconst C (pc := 92) (v := 3) dX5_charge_92 (by decide) ?_
        refine v_mask (lv' := [some (va_rf (some o)), none, none, some (.int a3), none, some (.int a5), none, none]) [true, false, false, true, false, true, false, false] rfl rfl ?_
        exact tbX5_charge_93 E hR ht  h
      · rw [if_neg c8] at h
        refine v_iconst C (pc := 88) (v := 0) dX5_charge_88 (by decide) ?_
        refine v_goto C (pc := 89) (tgt := 93) dX5_charge_89 (by decide) ?_
        refine v_mask (lv' := [some (va_rf (some o)), none, none, some (.int a3), none, some (.int a5), none, none]) [true, false, false, true, false, true, false, false] rfl rfl ?_
        exact tbX5_charge_93 E hR ht  h
    · rw [if_pos c7] at h
      refine v_iconst C (pc := 79) (v := 2) dX5_charge_79 (by decide) ?_
      refine v_goto C (pc := 80) (tgt := 93) dX5_charge_80 (by decide) ?_
      refine v_mask (lv' := [some (va_rf (some o)), none, none, some (.int a3), none, some (.int a5), none, none]) [true, false, false, true, false, true, false, false] rfl rfl ?_
      exact tbX5_charge_93 E hR ht  h
  · rw [if_pos c6] at h
    refine v_iconst C (pc := 70) (v := 1) dX5_charge_70 (by decide) ?_
    refine v_goto C (pc := 71) (tgt := 93) dX5_charge_71 (by decide) ?_
    refine v_mask (lv' := [some (va_rf (some o)), none, none, some (.int a3), none, some (.int a5), none, none]) [true, false, false, true, false, true, false, false] rfl rfl ?_
    exact tbX5_charge_93 E hR ht  h
def bX5_charge_61 (o : Nat) (Q : hM → Int32 → Prop) (M : hM) (a3 : Int32) (a4 : Int32) (a5 : Int32) (a6 : Int32) : Prop :=
  bX5_charge_62 o Q M a3 a4 a5 a6 0
set_option maxRecDepth 100000 in
set_option maxHeartbeats 4000000 in
theorem tbX5_charge_61 {κ : hKx} {M0 : hM} {sz : Nat} {o : Nat} {Q : hM → Int32 → Prop} (E : Ce κ RX5 cX5_charge wsX5_charge (some .int) M0 sz (hQi Q) (fun _ _ => False) 0 0) (hR : kR κ = rmX5_charge) (ht : ∀ x ∈ (kc κ).exceptionTable.toList, False)  {M : hM} {a3 : Int32} {a4 : Int32} {a5 : Int32} {a6 : Int32}  (h : bX5_charge_61 o Q M a3 a4 a5 a6) : VW κ 0 0 M 61 [some (va_rf (some o)), none, none, some (.int a3), some (.int a4), some (.int a5), some (.int a6), none] [] := by
  unfold bX5_charge_61 at h
  have F := E.1
  have C := F.1
  refine v_iconst C (pc := 61) (v := 0) dX5_charge_61 (by decide) ?_
  exact tbX5_charge_62 E hR ht  h
def wX5_charge (M : hM) (o : Nat) (a1 : Int32) (a2 : Int32) (a3 : Int32) (Q : hM → Int32 → Prop) : Prop :=
  ∃ y2, hC M 5 (some o) = some y2 ∧
  ∃ x1, fX5_isIn M o a1 a2 = some x1 ∧
  ∃ y4, hC M 5 (some o) = some y4 ∧
  ∃ x3, fX5_areThere M o a3 = some x3 ∧
  if (x1 : Int32) = 0 then (
    bX5_charge_61 o Q M a3 x1 ((8 * a1) + a2) x3
  ) else (
    if (x3 : Int32) = 0 then (
      bX5_charge_61 o Q M a3 x1 ((8 * a1) + a2) x3
    ) else (
      ∃ x25, gR M 5 22 (some o) = some x25 ∧
      ∃ x26, aI M 0 x25 ((8 * a1) + a2) = some x26 ∧
      if (x26 : Int32) = 0 then (
        ∃ x28, gI M 5 1 (some o) = some x28 ∧
        ∃ y30, hC M 5 (some o) = some y30 ∧
        ∃ x29, fX5_isRight M o ((8 * a1) + a2) a3 x28 = some x29 ∧
        if (x29 : Int32) = 0 then (
          bX5_charge_61 o Q M a3 x1 ((8 * a1) + a2) x3
        ) else (
          bX5_charge_62 o Q M a3 x1 ((8 * a1) + a2) x3 1
        )
      ) else (
        bX5_charge_61 o Q M a3 x1 ((8 * a1) + a2) x3
      )
    )
  )
set_option maxRecDepth 100000 in
set_option maxHeartbeats 4000000 in
theorem cX5_charge_met (l : Launch) (hfl : l.stackTraces = false) (G : hG) (M : hM) {o : Nat} {a1 : Int32} {a2 : Int32} {a3 : Int32} {Q : hM → Int32 → Prop} (h : wX5_charge M o a1 a2 a3 Q) : hEMet l yX5_charge wsX5_charge rmX5_charge [.ref o, .int a1, .int a2, .int a3] G M (hQi Q) (fun _ _ => False) 0 0 := by
  refine he_entry (own := RX5) (cc := cX5_charge) (maxL := 8) (ret := (some .int)) (lv := [some (va_rf (some o)), some (.int a1), some (.int a2), some (.int a3), none, none, none, none]) hfl (by decide) rfl rfl (hcc rfl (hcc rfl (hcc rfl (hcc rfl hc0)))) (Nat.le_of_ble_eq_true rfl) rfl (fun κ sz hG hl hR E ht hn => ?_)
  subst hG; subst hl
  unfold wX5_charge at h
  have F := E.1
  have C := F.1
  refine v_aload_n C (pc := 0) (i := 0) dX5_charge_0 rfl ?_
  refine v_iload_n C (pc := 1) (i := 1) dX5_charge_1 rfl ?_
  refine v_iload_n C (pc := 2) (i := 2) dX5_charge_2 rfl ?_
  obtain ⟨y2, hy2, h⟩ := h
  obtain ⟨fsy2, hfy2⟩ := hC_some hy2
  obtain ⟨x1, e1, h⟩ := h
  refine v_pV C (pc := 3) (ci := 5) [.int a1, .int a2] 2 (cX5_isIn_met (kl κ) (kG κ) _ e1) hfy2 rfl gX5_charge_X5_isIn rfl hdX5_isIn rfl rfl rfl (by rw [hR]; exact ⟨Nat.le_of_ble_eq_true rfl, Nat.le_of_ble_eq_true rfl⟩) (by rw [hR]; decide) (Nat.le_of_ble_eq_true rfl) rfl dX5_charge_3 ?_
  refine v_istore C (pc := 6) (i := 4) (lv' := [some (va_rf (some o)), some (.int a1), some (.int a2), some (.int a3), some (.int x1), none, none, none]) dX5_charge_6 rfl rfl ?_
  refine v_bipush C (pc := 8) (v := 8) dX5_charge_8 (by decide) ?_
  refine v_iload_n C (pc := 10) (i := 1) dX5_charge_10 rfl ?_
  refine v_imul C (pc := 11) dX5_charge_11 ?_
  refine v_iload_n C (pc := 12) (i := 2) dX5_charge_12 rfl ?_
  refine v_iadd C (pc := 13) dX5_charge_13 ?_
  refine v_istore C (pc := 14) (i := 5) (lv' := [some (va_rf (some o)), some (.int a1), some (.int a2), some (.int a3), some (.int x1), some (.int ((8 * a1) + a2)), none, none]) dX5_charge_14 rfl rfl ?_
  refine v_aload_n C (pc := 16) (i := 0) dX5_charge_16 rfl ?_
  refine v_iload_n C (pc := 17) (i := 3) dX5_charge_17 rfl ?_
  obtain ⟨y4, hy4, h⟩ := h
  obtain ⟨fsy4, hfy4⟩ := hC_some hy4
  obtain ⟨x3, e3, h⟩ := h
  refine v_pV C (pc := 18) (ci := 5) [.int a3] 1 (cX5_areThere_met (kl κ) (kG κ) _ e3) hfy4 rfl gX5_charge_X5_areThere rfl hdX5_areThere rfl rfl rfl (by rw [hR]; exact ⟨Nat.le_of_ble_eq_true rfl, Nat.le_of_ble_eq_true rfl⟩) (by rw [hR]; decide) (Nat.le_of_ble_eq_true rfl) rfl dX5_charge_18 ?_
  refine v_istore C (pc := 21) (i := 6) (lv' := [some (va_rf (some o)), some (.int a1), some (.int a2), some (.int a3), some (.int x1), some (.int ((8 * a1) + a2)), some (.int x3), none]) dX5_charge_21 rfl rfl ?_
  refine v_iload C (pc := 23) (i := 4) dX5_charge_23 rfl ?_
  refine v_if_eq C (pc := 25) (tgt := 61) dX5_charge_25 (by decide) (fun c5 => ?_) (fun c5 => ?_)
  · rw [if_pos c5] at h
    refine v_mask (lv' := [some (va_rf (some o)), none, none, some (.int a3), some (.int x1), some (.int ((8 * a1) + a2)), some (.int x3), none]) [true, false, false, true, true, true, true, false] rfl rfl ?_
    exact tbX5_charge_61 E hR ht  h
  · rw [if_neg c5] at h
    refine v_iload C (pc := 28) (i := 6) dX5_charge_28 rfl ?_
    refine v_if_eq C (pc := 30) (tgt := 61) dX5_charge_30 (by decide) (fun c24 => ?_) (fun c24 => ?_)
    · rw [if_pos c24] at h
      refine v_mask (lv' := [some (va_rf (some o)), none, none, some (.int a3), some (.int x1), some (.int ((8 * a1) + a2)), some (.int x3), none]) [true, false, false, true, true, true, true, false] rfl rfl ?_
      exact tbX5_charge_61 E hR ht  h
    · rw [if_neg c24] at h
      refine v_aload_n C (pc := 33) (i := 0) dX5_charge_33 rfl ?_
      obtain ⟨x25, e25, h⟩ := h
      refine v_getR C (pc := 34) (ci := 5) 22 iwX5_charge_X5 rfl (by decide) flX5_charge_62 e25 dX5_charge_34 ?_
      refine v_iload C (pc := 37) (i := 5) dX5_charge_37 rfl ?_
      obtain ⟨x26, e26, h⟩ := h
      refine v_iald C (pc := 39) e26 dX5_charge_39 ?_
      refine v_if_ne C (pc := 40) (tgt := 61) dX5_charge_40 (by decide) (fun c27 => ?_) (fun c27 => ?_)
      · rw [if_neg c27] at h
        refine v_mask (lv' := [some (va_rf (some o)), none, none, some (.int a3), some (.int x1), some (.int ((8 * a1) + a2)), some (.int x3), none]) [true, false, false, true, true, true, true, false] rfl rfl ?_
        exact tbX5_charge_61 E hR ht  h
      · rw [if_pos c27] at h
        refine v_aload_n C (pc := 43) (i := 0) dX5_charge_43 rfl ?_
        refine v_iload C (pc := 44) (i := 5) dX5_charge_44 rfl ?_
        refine v_iload_n C (pc := 46) (i := 3) dX5_charge_46 rfl ?_
        refine v_aload_n C (pc := 47) (i := 0) dX5_charge_47 rfl ?_
        obtain ⟨x28, e28, h⟩ := h
        refine v_getI C (pc := 48) (ci := 5) 1 iwX5_charge_X5 rfl (by decide) flX5_charge_135 e28 dX5_charge_48 ?_
        obtain ⟨y30, hy30, h⟩ := h
        obtain ⟨fsy30, hfy30⟩ := hC_some hy30
        obtain ⟨x29, e29, h⟩ := h
        refine v_pV C (pc := 51) (ci := 5) [.int ((8 * a1) + a2), .int a3, .int x28] 3 (cX5_isRight_met (kl κ) (kG κ) _ e29) hfy30 rfl gX5_charge_X5_isRight rfl hdX5_isRight rfl rfl rfl (by rw [hR]; exact ⟨Nat.le_of_ble_eq_true rfl, Nat.le_of_ble_eq_true rfl⟩) (by rw [hR]; decide) (Nat.le_of_ble_eq_true rfl) rfl dX5_charge_51 ?_
        refine v_if_eq C (pc := 54) (tgt := 61) dX5_charge_54 (by decide) (fun c31 => ?_) (fun c31 => ?_)
        · rw [if_pos c31] at h
          refine v_mask (lv' := [some (va_rf (some o)), none, none, some (.int a3), some (.int x1), some (.int ((8 * a1) + a2)), some (.int x3), none]) [true, false, false, true, true, true, true, false] rfl rfl ?_
          exact tbX5_charge_61 E hR ht  h
        · rw [if_neg c31] at h
          refine v_iconst C (pc := 57) (v := 1) dX5_charge_57 (by decide) ?_
          refine v_goto C (pc := 58) (tgt := 62) dX5_charge_58 (by decide) ?_
          refine v_mask (lv' := [some (va_rf (some o)), none, none, some (.int a3), some (.int x1), some (.int ((8 * a1) + a2)), some (.int x3), none]) [true, false, false, true, true, true, true, false] rfl rfl ?_
          exact tbX5_charge_62 E hR ht  h
/-! X5_drop -/
abbrev rmX5_drop : Room := { frames := 2, cells := 0, slots := 0, locals := 44 }
theorem iwX5_drop_X5 : ∀ w ∈ u_ws RX5 TX5 38, w ∈ wsX5_drop := fun _ h => List.mem_cons_of_mem _ (List.mem_append_right _ (h))
theorem flX5_drop_104 : Cond.fieldLink RX5 104 "ChargehouseModel" "counts" "[I" ∈ wsX5_drop := List.mem_cons_of_mem _ (List.mem_append_left _ (List.mem_of_getElem? (i := 5) rfl))
theorem flX5_drop_135 : Cond.fieldLink RX5 135 "ChargehouseModel" "day" "I" ∈ wsX5_drop := List.mem_cons_of_mem _ (List.mem_append_left _ (List.mem_of_getElem? (i := 2) rfl))
theorem flX5_drop_62 : Cond.fieldLink RX5 62 "ChargehouseModel" "state" "[I" ∈ wsX5_drop := List.mem_cons_of_mem _ (List.mem_append_left _ (List.mem_of_getElem? (i := 0) rfl))
theorem flX5_drop_68 : Cond.fieldLink RX5 68 "ChargehouseModel" "since" "[I" ∈ wsX5_drop := List.mem_cons_of_mem _ (List.mem_append_left _ (List.mem_of_getElem? (i := 1) rfl))
theorem flX5_drop_71 : Cond.fieldLink RX5 71 "ChargehouseModel" "wasReviewed" "[Z" ∈ wsX5_drop := List.mem_cons_of_mem _ (List.mem_append_left _ (List.mem_of_getElem? (i := 3) rfl))
theorem flX5_drop_74 : Cond.fieldLink RX5 74 "ChargehouseModel" "isHeld" "[Z" ∈ wsX5_drop := List.mem_cons_of_mem _ (List.mem_append_left _ (List.mem_of_getElem? (i := 4) rfl))
def bX5_drop_39 (o : Nat) (Q : hM → Prop) (M : hM) (a4 : Int32) (s0 : Option Nat) (s1 : Int32) : Prop :=
  ∃ y8, hC M 5 s0 = some y8 ∧
  wX5_refused M y8 s1 (fun M9 x7 =>
  if (x7 : Int32) = 0 then (
    ∃ x11, gR M9 5 22 (some o) = some x11 ∧
    ∃ M12, sI M9 0 x11 a4 1 = some M12 ∧
    ∃ x13, gR M12 5 24 (some o) = some x13 ∧
    ∃ x14, gI M12 5 1 (some o) = some x14 ∧
    ∃ M15, sI M12 0 x13 a4 x14 = some M15 ∧
    ∃ x16, gR M15 5 25 (some o) = some x16 ∧
    ∃ M17, sZ M15 1 x16 a4 0 = some M17 ∧
    ∃ x18, gR M17 5 26 (some o) = some x18 ∧
    ∃ M19, sZ M17 1 x18 a4 0 = some M19 ∧
    ∃ x20, gR M19 5 37 (some o) = some x20 ∧
    ∃ x21, aI M19 0 x20 3 = some x21 ∧
    ∃ M22, sI M19 0 x20 3 (x21 + 1) = some M22 ∧
    Q M22
  ) else (
    Q M9
  ))
set_option maxRecDepth 100000 in
set_option maxHeartbeats 4000000 in
theorem tbX5_drop_39 {κ : hKx} {M0 : hM} {sz : Nat} {o : Nat} {Q : hM → Prop} (E : Ce κ RX5 cX5_drop wsX5_drop none M0 sz (hQv Q) (fun _ _ => False) 0 0) (hR : kR κ = rmX5_drop) (ht : ∀ x ∈ (kc κ).exceptionTable.toList, False)  {M : hM} {a4 : Int32} {s0 : Option Nat} {s1 : Int32}  (h : bX5_drop_39 o Q M a4 s0 s1) : VW κ 0 0 M 39 [some (va_rf (some o)), none, none, none, some (.int a4)] [.int s1, va_rf s0] := by
  unfold bX5_drop_39 at h
  have F := E.1
  have C := F.1
  obtain ⟨y8, hy8, hh⟩ := h
  skip
  obtain ⟨rfl, fsy8, hfy8⟩ := hC_inv hy8
  have h := hh
  clear hh
  refine v_nV F (pc := 39) (ci := 5) [.int s1] 1 (cX5_refused_met (kl κ) F.2.2.2.1 (kG κ) _ h) hfy8 rfl gX5_drop_X5_refused rfl hdX5_refused rfl rfl rfl (by rw [hR]; exact ⟨Nat.le_of_ble_eq_true rfl, Nat.le_of_ble_eq_true rfl⟩) (by rw [hR]; decide) (Nat.le_of_ble_eq_true rfl) rfl dX5_drop_39 (hk_i fun M9 x7 h => ?_)
  refine v_if_eq C (pc := 42) (tgt := 46) dX5_drop_42 (by decide) (fun c10 => ?_) (fun c10 => ?_)
  · rw [if_pos c10] at h
    refine v_aload_n C (pc := 46) (i := 0) dX5_drop_46 rfl ?_
    obtain ⟨x11, e11, h⟩ := h
    refine v_getR C (pc := 47) (ci := 5) 22 iwX5_drop_X5 rfl (by decide) flX5_drop_62 e11 dX5_drop_47 ?_
    refine v_iload C (pc := 50) (i := 4) dX5_drop_50 rfl ?_
    refine v_iconst C (pc := 52) (v := 1) dX5_drop_52 (by decide) ?_
    obtain ⟨M12, e12, h⟩ := h
    refine v_iast F (pc := 53) e12 dX5_drop_53 ?_
    refine v_aload_n C (pc := 54) (i := 0) dX5_drop_54 rfl ?_
    obtain ⟨x13, e13, h⟩ := h
    refine v_getR C (pc := 55) (ci := 5) 24 iwX5_drop_X5 rfl (by decide) flX5_drop_68 e13 dX5_drop_55 ?_
    refine v_iload C (pc := 58) (i := 4) dX5_drop_58 rfl ?_
    refine v_aload_n C (pc := 60) (i := 0) dX5_drop_60 rfl ?_
    obtain ⟨x14, e14, h⟩ := h
    refine v_getI C (pc := 61) (ci := 5) 1 iwX5_drop_X5 rfl (by decide) flX5_drop_135 e14 dX5_drop_61 ?_
    obtain ⟨M15, e15, h⟩ := h
    refine v_iast F (pc := 64) e15 dX5_drop_64 ?_
    refine v_aload_n C (pc := 65) (i := 0) dX5_drop_65 rfl ?_
    obtain ⟨x16, e16, h⟩ := h
    refine v_getR C (pc := 66) (ci := 5) 25 iwX5_drop_X5 rfl (by decide) flX5_drop_71 e16 dX5_drop_66 ?_
    refine v_iload C (pc := 69) (i := 4) dX5_drop_69 rfl ?_
    refine v_iconst C (pc := 71) (v := 0) dX5_drop_71 (by decide) ?_
    obtain ⟨M17, e17, h⟩ := h
    refine v_zast F (pc := 72) e17 dX5_drop_72 ?_
    refine v_aload_n C (pc := 73) (i := 0) dX5_drop_73 rfl ?_
    obtain ⟨x18, e18, h⟩ := h
    refine v_getR C (pc := 74) (ci := 5) 26 iwX5_drop_X5 rfl (by decide) flX5_drop_74 e18 dX5_drop_74 ?_
    refine v_iload C (pc := 77) (i := 4) dX5_drop_77 rfl ?_
    refine v_iconst C (pc := 79) (v := 0) dX5_drop_79 (by decide) ?_
    obtain ⟨M19, e19, h⟩ := h
    refine v_zast F (pc := 80) e19 dX5_drop_80 ?_
    refine v_aload_n C (pc := 81) (i := 0) dX5_drop_81 rfl ?_
    obtain ⟨x20, e20, h⟩ := h
    refine v_getR C (pc := 82) (ci := 5) 37 iwX5_drop_X5 rfl (by decide) flX5_drop_104 e20 dX5_drop_82 ?_
    refine v_iconst C (pc := 85) (v := 3) dX5_drop_85 (by decide) ?_
    refine v_dup2 C (pc := 86) dX5_drop_86 (rfl) (rf_cat _) ?_
    obtain ⟨x21, e21, h⟩ := h
    refine v_iald C (pc := 87) e21 dX5_drop_87 ?_
    refine v_iconst C (pc := 88) (v := 1) dX5_drop_88 (by decide) ?_
    refine v_iadd C (pc := 89) dX5_drop_89 ?_
    obtain ⟨M22, e22, h⟩ := h
    refine v_iast F (pc := 90) e22 dX5_drop_90 ?_
    exact v_eretV (pc := 91) E rfl ⟨rfl, h⟩ (by decide) (by decide) dX5_drop_91
  · rw [if_neg c10] at h
    exact v_eretV (pc := 45) E rfl ⟨rfl, h⟩ (by decide) (by decide) dX5_drop_45
def wX5_drop (M : hM) (o : Nat) (a1 : Int32) (a2 : Int32) (Q : hM → Prop) : Prop :=
  ∃ y2, hC M 5 (some o) = some y2 ∧
  ∃ x1, fX5_isIn M o a1 a2 = some x1 ∧
  if (x1 : Int32) = 0 then (
    bX5_drop_39 o Q M ((8 * a1) + a2) (some o) 1
  ) else (
    ∃ x4, gR M 5 22 (some o) = some x4 ∧
    ∃ x5, aI M 0 x4 ((8 * a1) + a2) = some x5 ∧
    if (x5 : Int32) = 0 then (
      bX5_drop_39 o Q M ((8 * a1) + a2) (some o) 0
    ) else (
      bX5_drop_39 o Q M ((8 * a1) + a2) (some o) 2
    )
  )
set_option maxRecDepth 100000 in
set_option maxHeartbeats 4000000 in
theorem cX5_drop_met (l : Launch) (hfl : l.stackTraces = false) (G : hG) (M : hM) {o : Nat} {a1 : Int32} {a2 : Int32} {Q : hM → Prop} (h : wX5_drop M o a1 a2 Q) : hEMet l yX5_drop wsX5_drop rmX5_drop [.ref o, .int a1, .int a2] G M (hQv Q) (fun _ _ => False) 0 0 := by
  refine he_entry (own := RX5) (cc := cX5_drop) (maxL := 5) (ret := none) (lv := [some (va_rf (some o)), some (.int a1), some (.int a2), none, none]) hfl (by decide) rfl rfl (hcc rfl (hcc rfl (hcc rfl hc0))) (Nat.le_of_ble_eq_true rfl) rfl (fun κ sz hG hl hR E ht hn => ?_)
  subst hG; subst hl
  unfold wX5_drop at h
  have F := E.1
  have C := F.1
  refine v_aload_n C (pc := 0) (i := 0) dX5_drop_0 rfl ?_
  refine v_iload_n C (pc := 1) (i := 1) dX5_drop_1 rfl ?_
  refine v_iload_n C (pc := 2) (i := 2) dX5_drop_2 rfl ?_
  obtain ⟨y2, hy2, h⟩ := h
  obtain ⟨fsy2, hfy2⟩ := hC_some hy2
  obtain ⟨x1, e1, h⟩ := h
  refine v_pV C (pc := 3) (ci := 5) [.int a1, .int a2] 2 (cX5_isIn_met (kl κ) (kG κ) _ e1) hfy2 rfl gX5_drop_X5_isIn rfl hdX5_isIn rfl rfl rfl (by rw [hR]; exact ⟨Nat.le_of_ble_eq_true rfl, Nat.le_of_ble_eq_true rfl⟩) (by rw [hR]; decide) (Nat.le_of_ble_eq_true rfl) rfl dX5_drop_3 ?_
  refine v_istore_n C (pc := 6) (i := 3) (lv' := [some (va_rf (some o)), some (.int a1), some (.int a2), some (.int x1), none]) dX5_drop_6 rfl rfl ?_
  refine v_bipush C (pc := 7) (v := 8) dX5_drop_7 (by decide) ?_
  refine v_iload_n C (pc := 9) (i := 1) dX5_drop_9 rfl ?_
  refine v_imul C (pc := 10) dX5_drop_10 ?_
  refine v_iload_n C (pc := 11) (i := 2) dX5_drop_11 rfl ?_
  refine v_iadd C (pc := 12) dX5_drop_12 ?_
  refine v_istore C (pc := 13) (i := 4) (lv' := [some (va_rf (some o)), some (.int a1), some (.int a2), some (.int x1), some (.int ((8 * a1) + a2))]) dX5_drop_13 rfl rfl ?_
  refine v_aload_n C (pc := 15) (i := 0) dX5_drop_15 rfl ?_
  refine v_iload_n C (pc := 16) (i := 3) dX5_drop_16 rfl ?_
  refine v_if_ne C (pc := 17) (tgt := 24) dX5_drop_17 (by decide) (fun c3 => ?_) (fun c3 => ?_)
  · rw [if_neg c3] at h
    refine v_aload_n C (pc := 24) (i := 0) dX5_drop_24 rfl ?_
    obtain ⟨x4, e4, h⟩ := h
    refine v_getR C (pc := 25) (ci := 5) 22 iwX5_drop_X5 rfl (by decide) flX5_drop_62 e4 dX5_drop_25 ?_
    refine v_iload C (pc := 28) (i := 4) dX5_drop_28 rfl ?_
    obtain ⟨x5, e5, h⟩ := h
    refine v_iald C (pc := 30) e5 dX5_drop_30 ?_
    refine v_if_ne C (pc := 31) (tgt := 38) dX5_drop_31 (by decide) (fun c6 => ?_) (fun c6 => ?_)
    · rw [if_neg c6] at h
      refine v_iconst C (pc := 38) (v := 2) dX5_drop_38 (by decide) ?_
      refine v_mask (lv' := [some (va_rf (some o)), none, none, none, some (.int ((8 * a1) + a2))]) [true, false, false, false, true] rfl rfl ?_
      exact tbX5_drop_39 E hR ht  h
    · rw [if_pos c6] at h
      refine v_iconst C (pc := 34) (v := 0) dX5_drop_34 (by decide) ?_
      refine v_goto C (pc := 35) (tgt := 39) dX5_drop_35 (by decide) ?_
      refine v_mask (lv' := [some (va_rf (some o)), none, none, none, some (.int ((8 * a1) + a2))]) [true, false, false, false, true] rfl rfl ?_
      exact tbX5_drop_39 E hR ht  h
  · rw [if_pos c3] at h
    refine v_iconst C (pc := 20) (v := 1) dX5_drop_20 (by decide) ?_
    refine v_goto C (pc := 21) (tgt := 39) dX5_drop_21 (by decide) ?_
    refine v_mask (lv' := [some (va_rf (some o)), none, none, none, some (.int ((8 * a1) + a2))]) [true, false, false, false, true] rfl rfl ?_
    exact tbX5_drop_39 E hR ht  h
/-! X5_review -/
abbrev rmX5_review : Room := { frames := 4, cells := 0, slots := 0, locals := 99 }
theorem iwX5_review_X5 : ∀ w ∈ u_ws RX5 TX5 38, w ∈ wsX5_review := fun _ h => List.mem_cons_of_mem _ (List.mem_append_right _ (h))
theorem flX5_review_104 : Cond.fieldLink RX5 104 "ChargehouseModel" "counts" "[I" ∈ wsX5_review := List.mem_cons_of_mem _ (List.mem_append_left _ (List.mem_append_left _ (List.mem_of_getElem? (i := 5) rfl)))
theorem flX5_review_111 : Cond.fieldLink RX5 111 "ChargehouseModel" "offences" "I" ∈ wsX5_review := List.mem_cons_of_mem _ (List.mem_append_left _ (List.mem_append_left _ (List.mem_of_getElem? (i := 4) rfl)))
theorem flX5_review_135 : Cond.fieldLink RX5 135 "ChargehouseModel" "day" "I" ∈ wsX5_review := List.mem_cons_of_mem _ (List.mem_append_left _ (List.mem_append_left _ (List.mem_of_getElem? (i := 1) rfl)))
theorem flX5_review_62 : Cond.fieldLink RX5 62 "ChargehouseModel" "state" "[I" ∈ wsX5_review := List.mem_cons_of_mem _ (List.mem_append_left _ (List.mem_append_left _ (List.mem_of_getElem? (i := 0) rfl)))
theorem flX5_review_68 : Cond.fieldLink RX5 68 "ChargehouseModel" "since" "[I" ∈ wsX5_review := List.mem_cons_of_mem _ (List.mem_append_left _ (List.mem_append_left _ (List.mem_of_getElem? (i := 2) rfl)))
theorem flX5_review_71 : Cond.fieldLink RX5 71 "ChargehouseModel" "wasReviewed" "[Z" ∈ wsX5_review := List.mem_cons_of_mem _ (List.mem_append_left _ (List.mem_append_left _ (List.mem_of_getElem? (i := 3) rfl)))
def bX5_review_184 (o : Nat) (Q : hM → Int32 → Prop) (M : hM) (a6 : Int32) (s0 : Option Nat) (s1 : Int32) (s2 : Int32) (s3 : Int32) : Prop :=
  ∃ M20, sI M 0 s0 s1 (s2 + s3) = some M20 ∧
  (a6 = 0 ∨ a6 = 1) ∧ Q M20 a6
set_option maxRecDepth 100000 in
set_option maxHeartbeats 4000000 in
theorem tbX5_review_184 {κ : hKx} {M0 : hM} {sz : Nat} {o : Nat} {Q : hM → Int32 → Prop} (E : Ce κ RX5 cX5_review wsX5_review (some .boolean) M0 sz (hQi Q) (fun _ _ => False) 0 0) (hR : kR κ = rmX5_review) (ht : ∀ x ∈ (kc κ).exceptionTable.toList, False)  {M : hM} {a6 : Int32} {s0 : Option Nat} {s1 : Int32} {s2 : Int32} {s3 : Int32}  (h : bX5_review_184 o Q M a6 s0 s1 s2 s3) : VW κ 0 0 M 184 [none, none, none, none, none, none, some (.int a6), none] [.int s3, .int s2, .int s1, va_rf s0] := by
  unfold bX5_review_184 at h
  have F := E.1
  have C := F.1
  refine v_iadd C (pc := 184) dX5_review_184 ?_
  obtain ⟨M20, e20, h⟩ := h
  refine v_iast F (pc := 185) e20 dX5_review_185 ?_
  refine v_iload C (pc := 186) (i := 6) dX5_review_186 rfl ?_
  obtain ⟨hb, h⟩ := h
  exact v_eret (pc := 188) E rfl (nar_bool hb) ⟨_, rfl, h⟩ (by decide) (by decide) dX5_review_188
def bX5_review_166 (o : Nat) (Q : hM → Int32 → Prop) (M : hM) (a6 : Int32) (s0 : Option Nat) (s1 : Int32) (s2 : Int32) : Prop :=
  ∃ M16, sI M 0 s0 s1 s2 = some M16 ∧
  ∃ x17, gR M16 5 37 (some o) = some x17 ∧
  ∃ x18, aI M16 0 x17 4 = some x18 ∧
  if (a6 : Int32) = 0 then (
    bX5_review_184 o Q M16 a6 x17 4 x18 0
  ) else (
    bX5_review_184 o Q M16 a6 x17 4 x18 1
  )
set_option maxRecDepth 100000 in
set_option maxHeartbeats 4000000 in
theorem tbX5_review_166 {κ : hKx} {M0 : hM} {sz : Nat} {o : Nat} {Q : hM → Int32 → Prop} (E : Ce κ RX5 cX5_review wsX5_review (some .boolean) M0 sz (hQi Q) (fun _ _ => False) 0 0) (hR : kR κ = rmX5_review) (ht : ∀ x ∈ (kc κ).exceptionTable.toList, False)  {M : hM} {a6 : Int32} {s0 : Option Nat} {s1 : Int32} {s2 : Int32}  (h : bX5_review_166 o Q M a6 s0 s1 s2) : VW κ 0 0 M 166 [some (va_rf (some o)), none, none, none, none, none, some (.int a6), none] [.int s2, .int s1, va_rf s0] := by
  unfold bX5_review_166 at h
  have F := E.1
  have C := F.1
  obtain ⟨M16, e16, h⟩ := h
  refine v_iast F (pc := 166) e16 dX5_review_166 ?_
  refine v_aload_n C (pc := 167) (i := 0) dX5_review_167 rfl ?_
  obtain ⟨x17, e17, h⟩ := h
  refine v_getR C (pc := 168) (ci := 5) 37 iwX5_review_X5 rfl (by decide) flX5_review_104 e17 dX5_review_168 ?_
  refine v_iconst C (pc := 171) (v := 4) dX5_review_171 (by decide) ?_
  refine v_dup2 C (pc := 172) dX5_review_172 (rfl) (rf_cat _) ?_
  obtain ⟨x18, e18, h⟩ := h
  refine v_iald C (pc := 173) e18 dX5_review_173 ?_
  refine v_iload C (pc := 174) (i := 6) dX5_review_174 rfl ?_
  refine v_if_eq C (pc := 176) (tgt := 183) dX5_review_176 (by decide) (fun c19 => ?_) (fun c19 => ?_)
  · rw [if_pos c19] at h
    refine v_iconst C (pc := 183) (v := 0) dX5_review_183 (by decide) ?_
    refine v_mask (lv' := [none, none, none, none, none, none, some (.int a6), none]) [false, false, false, false, false, false, true, false] rfl rfl ?_
    exact tbX5_review_184 E hR ht  h
  · rw [if_neg c19] at h
    refine v_iconst C (pc := 179) (v := 1) dX5_review_179 (by decide) ?_
    refine v_goto C (pc := 180) (tgt := 184) dX5_review_180 (by decide) ?_
    refine v_mask (lv' := [none, none, none, none, none, none, some (.int a6), none]) [false, false, false, false, false, false, true, false] rfl rfl ?_
    exact tbX5_review_184 E hR ht  h
def bX5_review_137 (o : Nat) (k105 : hM → Int32 → Int32 → Prop) (Q : hM → Int32 → Prop) (M : hM) (a4 : Int32) (a7 : Int32) : Prop :=
  k105 M 1 (a7 + 1)
set_option maxRecDepth 100000 in
set_option maxHeartbeats 4000000 in
theorem tbX5_review_137 {κ : hKx} {M0 : hM} {sz : Nat} {o : Nat} {Q : hM → Int32 → Prop} (E : Ce κ RX5 cX5_review wsX5_review (some .boolean) M0 sz (hQi Q) (fun _ _ => False) 0 0) (hR : kR κ = rmX5_review) (ht : ∀ x ∈ (kc κ).exceptionTable.toList, False) {k105 : hM → Int32 → Int32 → Prop} {M : hM} {a4 : Int32} {a7 : Int32} (hk105 : ∀ (M : hM) (a6 : Int32) (a7 : Int32), k105 M a6 a7 → VW κ 0 0 M 105 [some (va_rf (some o)), none, none, none, some (.int a4), none, some (.int a6), some (.int a7)] []) (h : bX5_review_137 o k105 Q M a4 a7) : VW κ 0 0 M 137 [some (va_rf (some o)), none, none, none, some (.int a4), none, none, some (.int a7)] [] := by
  unfold bX5_review_137 at h
  have F := E.1
  have C := F.1
  refine v_iconst C (pc := 137) (v := 1) dX5_review_137 (by decide) ?_
  refine v_goto C (pc := 138) (tgt := 142) dX5_review_138 (by decide) ?_
  refine v_istore C (pc := 142) (i := 6) (lv' := [some (va_rf (some o)), none, none, none, some (.int a4), none, some (.int 1), some (.int a7)]) dX5_review_142 rfl rfl ?_
  refine v_iinc C (pc := 144) (i := 7) (w := 1) (lv' := [some (va_rf (some o)), none, none, none, some (.int a4), none, some (.int 1), some (.int (a7 + 1))]) dX5_review_144 rfl (by decide) rfl ?_
  refine v_goto C (pc := 147) (tgt := 105) dX5_review_147 (by decide) ?_
  exact hk105 _ _ _ h
def lX5_review_105 (o : Nat) (Q : hM → Int32 → Prop) (a4 : Int32) : Nat → hM → Int32 → Int32 → Prop
  | 0, _, _ , _ => False
  | n + 1, M, a6, a7 =>
    ∃ x12, gI M 5 2 (some o) = some x12 ∧
    if (x12 : Int32) ≤ a7 then (
      ∃ x14, gR M 5 22 (some o) = some x14 ∧
      if (a6 : Int32) = 0 then (
        bX5_review_166 o Q M a6 x14 a4 1
      ) else (
        bX5_review_166 o Q M a6 x14 a4 0
      )
    ) else (
      if (a6 : Int32) = 0 then (
        ∃ x22, gR M 5 24 (some o) = some x22 ∧
        ∃ x23, aI M 0 x22 a4 = some x23 ∧
        ∃ y25, hC M 5 (some o) = some y25 ∧
        ∃ x24, fX5_why M o a4 a7 x23 = some x24 ∧
        if (x24 : Int32) = 0 then (
          bX5_review_137 o (lX5_review_105 o Q a4 n) Q M a4 a7
        ) else (
          (lX5_review_105 o Q a4 n) M 0 (a7 + 1)
        )
      ) else (
        bX5_review_137 o (lX5_review_105 o Q a4 n) Q M a4 a7
      )
    )
set_option maxRecDepth 100000 in
set_option maxHeartbeats 4000000 in
theorem tlX5_review_105 {κ : hKx} {M0 : hM} {sz : Nat} {o : Nat} {Q : hM → Int32 → Prop} (E : Ce κ RX5 cX5_review wsX5_review (some .boolean) M0 sz (hQi Q) (fun _ _ => False) 0 0) (hR : kR κ = rmX5_review) (ht : ∀ x ∈ (kc κ).exceptionTable.toList, False)  {a4 : Int32}  : ∀ (n : Nat) (M : hM) (a6 : Int32) (a7 : Int32), lX5_review_105 o Q a4 n M a6 a7 → VW κ 0 0 M 105 [some (va_rf (some o)), none, none, none, some (.int a4), none, some (.int a6), some (.int a7)] [] := by
  have F := E.1
  have C := F.1
  intro n
  induction n with
  | zero =>
    intro M a6 a7 h
    unfold lX5_review_105 at h
    exact h.elim
  | succ n ih =>
    intro M a6 a7 h
    unfold lX5_review_105 at h
    refine v_iload C (pc := 105) (i := 7) dX5_review_105 rfl ?_
    refine v_aload_n C (pc := 107) (i := 0) dX5_review_107 rfl ?_
    obtain ⟨x12, e12, h⟩ := h
    refine v_getI C (pc := 108) (ci := 5) 2 iwX5_review_X5 rfl (by decide) flX5_review_111 e12 dX5_review_108 ?_
    refine v_icmp_ge C (pc := 111) (tgt := 150) dX5_review_111 (by decide) (fun c13 => ?_) (fun c13 => ?_)
    · rw [if_pos c13] at h
      refine v_aload_n C (pc := 150) (i := 0) dX5_review_150 rfl ?_
      obtain ⟨x14, e14, h⟩ := h
      refine v_getR C (pc := 151) (ci := 5) 22 iwX5_review_X5 rfl (by decide) flX5_review_62 e14 dX5_review_151 ?_
      refine v_iload C (pc := 154) (i := 4) dX5_review_154 rfl ?_
      refine v_iload C (pc := 156) (i := 6) dX5_review_156 rfl ?_
      refine v_if_eq C (pc := 158) (tgt := 165) dX5_review_158 (by decide) (fun c15 => ?_) (fun c15 => ?_)
      · rw [if_pos c15] at h
        refine v_iconst C (pc := 165) (v := 1) dX5_review_165 (by decide) ?_
        refine v_mask (lv' := [some (va_rf (some o)), none, none, none, none, none, some (.int a6), none]) [true, false, false, false, false, false, true, false] rfl rfl ?_
        exact tbX5_review_166 E hR ht  h
      · rw [if_neg c15] at h
        refine v_iconst C (pc := 161) (v := 0) dX5_review_161 (by decide) ?_
        refine v_goto C (pc := 162) (tgt := 166) dX5_review_162 (by decide) ?_
        refine v_mask (lv' := [some (va_rf (some o)), none, none, none, none, none, some (.int a6), none]) [true, false, false, false, false, false, true, false] rfl rfl ?_
        exact tbX5_review_166 E hR ht  h
    · rw [if_neg c13] at h
      refine v_iload C (pc := 114) (i := 6) dX5_review_114 rfl ?_
      refine v_if_ne C (pc := 116) (tgt := 137) dX5_review_116 (by decide) (fun c21 => ?_) (fun c21 => ?_)
      · rw [if_neg c21] at h
        refine v_mask (lv' := [some (va_rf (some o)), none, none, none, some (.int a4), none, none, some (.int a7)]) [true, false, false, false, true, false, false, true] rfl rfl ?_
        exact tbX5_review_137 E hR ht (fun q0 q1 q2 h => ih q0 q1 q2 h) h
      · rw [if_pos c21] at h
        refine v_aload_n C (pc := 119) (i := 0) dX5_review_119 rfl ?_
        refine v_iload C (pc := 120) (i := 4) dX5_review_120 rfl ?_
        refine v_iload C (pc := 122) (i := 7) dX5_review_122 rfl ?_
        refine v_aload_n C (pc := 124) (i := 0) dX5_review_124 rfl ?_
        obtain ⟨x22, e22, h⟩ := h
        refine v_getR C (pc := 125) (ci := 5) 24 iwX5_review_X5 rfl (by decide) flX5_review_68 e22 dX5_review_125 ?_
        refine v_iload C (pc := 128) (i := 4) dX5_review_128 rfl ?_
        obtain ⟨x23, e23, h⟩ := h
        refine v_iald C (pc := 130) e23 dX5_review_130 ?_
        obtain ⟨y25, hy25, h⟩ := h
        obtain ⟨fsy25, hfy25⟩ := hC_some hy25
        obtain ⟨x24, e24, h⟩ := h
        refine v_pV C (pc := 131) (ci := 5) [.int a4, .int a7, .int x23] 3 (cX5_why_met (kl κ) (kG κ) _ e24) hfy25 rfl gX5_review_X5_why rfl hdX5_why rfl rfl rfl (by rw [hR]; exact ⟨Nat.le_of_ble_eq_true rfl, Nat.le_of_ble_eq_true rfl⟩) (by rw [hR]; decide) (Nat.le_of_ble_eq_true rfl) rfl dX5_review_131 ?_
        refine v_if_ne C (pc := 134) (tgt := 141) dX5_review_134 (by decide) (fun c26 => ?_) (fun c26 => ?_)
        · rw [if_neg c26] at h
          refine v_iconst C (pc := 141) (v := 0) dX5_review_141 (by decide) ?_
          refine v_istore C (pc := 142) (i := 6) (lv' := [some (va_rf (some o)), none, none, none, some (.int a4), none, some (.int 0), some (.int a7)]) dX5_review_142 rfl rfl ?_
          refine v_iinc C (pc := 144) (i := 7) (w := 1) (lv' := [some (va_rf (some o)), none, none, none, some (.int a4), none, some (.int 0), some (.int (a7 + 1))]) dX5_review_144 rfl (by decide) rfl ?_
          refine v_goto C (pc := 147) (tgt := 105) dX5_review_147 (by decide) ?_
          exact ih _ _ _ h
        · rw [if_pos c26] at h
          refine v_mask (lv' := [some (va_rf (some o)), none, none, none, some (.int a4), none, none, some (.int a7)]) [true, false, false, false, true, false, false, true] rfl rfl ?_
          exact tbX5_review_137 E hR ht (fun q0 q1 q2 h => ih q0 q1 q2 h) h
def bX5_review_83 (o : Nat) (Q : hM → Int32 → Prop) (M : hM) (a4 : Int32) (s0 : Option Nat) (s1 : Int32) : Prop :=
  ∃ y7, hC M 5 s0 = some y7 ∧
  wX5_refused M y7 s1 (fun M8 x6 =>
  if (x6 : Int32) = 0 then (
    ∃ x10, gR M8 5 25 (some o) = some x10 ∧
    ∃ M11, sZ M8 1 x10 a4 1 = some M11 ∧
    lX5_review_105 o Q a4 1000 M11 0 0
  ) else (
    Q M8 0
  ))
set_option maxRecDepth 100000 in
set_option maxHeartbeats 4000000 in
theorem tbX5_review_83 {κ : hKx} {M0 : hM} {sz : Nat} {o : Nat} {Q : hM → Int32 → Prop} (E : Ce κ RX5 cX5_review wsX5_review (some .boolean) M0 sz (hQi Q) (fun _ _ => False) 0 0) (hR : kR κ = rmX5_review) (ht : ∀ x ∈ (kc κ).exceptionTable.toList, False)  {M : hM} {a4 : Int32} {s0 : Option Nat} {s1 : Int32}  (h : bX5_review_83 o Q M a4 s0 s1) : VW κ 0 0 M 83 [some (va_rf (some o)), none, none, none, some (.int a4), none, none, none] [.int s1, va_rf s0] := by
  unfold bX5_review_83 at h
  have F := E.1
  have C := F.1
  obtain ⟨y7, hy7, hh⟩ := h
  skip
  obtain ⟨rfl, fsy7, hfy7⟩ := hC_inv hy7
  have h := hh
  clear hh
  refine v_nV F (pc := 83) (ci := 5) [.int s1] 1 (cX5_refused_met (kl κ) F.2.2.2.1 (kG κ) _ h) hfy7 rfl gX5_review_X5_refused rfl hdX5_refused rfl rfl rfl (by rw [hR]; exact ⟨Nat.le_of_ble_eq_true rfl, Nat.le_of_ble_eq_true rfl⟩) (by rw [hR]; decide) (Nat.le_of_ble_eq_true rfl) rfl dX5_review_83 (hk_i fun M8 x6 h => ?_)
  refine v_if_eq C (pc := 86) (tgt := 91) dX5_review_86 (by decide) (fun c9 => ?_) (fun c9 => ?_)
  · rw [if_pos c9] at h
    refine v_aload_n C (pc := 91) (i := 0) dX5_review_91 rfl ?_
    obtain ⟨x10, e10, h⟩ := h
    refine v_getR C (pc := 92) (ci := 5) 25 iwX5_review_X5 rfl (by decide) flX5_review_71 e10 dX5_review_92 ?_
    refine v_iload C (pc := 95) (i := 4) dX5_review_95 rfl ?_
    refine v_iconst C (pc := 97) (v := 1) dX5_review_97 (by decide) ?_
    obtain ⟨M11, e11, h⟩ := h
    refine v_zast F (pc := 98) e11 dX5_review_98 ?_
    refine v_iconst C (pc := 99) (v := 0) dX5_review_99 (by decide) ?_
    refine v_istore C (pc := 100) (i := 6) (lv' := [some (va_rf (some o)), none, none, none, some (.int a4), none, some (.int 0), none]) dX5_review_100 rfl rfl ?_
    refine v_iconst C (pc := 102) (v := 0) dX5_review_102 (by decide) ?_
    refine v_istore C (pc := 103) (i := 7) (lv' := [some (va_rf (some o)), none, none, none, some (.int a4), none, some (.int 0), some (.int 0)]) dX5_review_103 rfl rfl ?_
    exact tlX5_review_105 E hR ht  1000 _ _ _ h
  · rw [if_neg c9] at h
    refine v_iconst C (pc := 89) (v := 0) dX5_review_89 (by decide) ?_
    exact v_eret (pc := 90) E rfl (by decide +kernel) ⟨_, rfl, h⟩ (by decide) (by decide) dX5_review_90
def bX5_review_62 (o : Nat) (Q : hM → Int32 → Prop) (M : hM) (a3 : Int32) (a4 : Int32) (s0 : Int32) : Prop :=
  if (a3 : Int32) = 0 then (
    bX5_review_83 o Q M a4 (some o) 1
  ) else (
    if (s0 : Int32) = 0 then (
      bX5_review_83 o Q M a4 (some o) 2
    ) else (
      bX5_review_83 o Q M a4 (some o) 0
    )
  )
set_option maxRecDepth 100000 in
set_option maxHeartbeats 4000000 in
theorem tbX5_review_62 {κ : hKx} {M0 : hM} {sz : Nat} {o : Nat} {Q : hM → Int32 → Prop} (E : Ce κ RX5 cX5_review wsX5_review (some .boolean) M0 sz (hQi Q) (fun _ _ => False) 0 0) (hR : kR κ = rmX5_review) (ht : ∀ x ∈ (kc κ).exceptionTable.toList, False)  {M : hM} {a3 : Int32} {a4 : Int32} {s0 : Int32}  (h : bX5_review_62 o Q M a3 a4 s0) : VW κ 0 0 M 62 [some (va_rf (some o)), none, none, some (.int a3), some (.int a4), none, none, none] [.int s0] := by
  unfold bX5_review_62 at h
  have F := E.1
  have C := F.1
  refine v_istore C (pc := 62) (i := 5) (lv' := [some (va_rf (some o)), none, none, some (.int a3), some (.int a4), some (.int s0), none, none]) dX5_review_62 rfl rfl ?_
  refine v_aload_n C (pc := 64) (i := 0) dX5_review_64 rfl ?_
  refine v_iload_n C (pc := 65) (i := 3) dX5_review_65 rfl ?_
  refine v_if_ne C (pc := 66) (tgt := 73) dX5_review_66 (by decide) (fun c4 => ?_) (fun c4 => ?_)
  · rw [if_neg c4] at h
    refine v_iload C (pc := 73) (i := 5) dX5_review_73 rfl ?_
    refine v_if_eq C (pc := 75) (tgt := 82) dX5_review_75 (by decide) (fun c5 => ?_) (fun c5 => ?_)
    · rw [if_pos c5] at h
      refine v_iconst C (pc := 82) (v := 2) dX5_review_82 (by decide) ?_
      refine v_mask (lv' := [some (va_rf (some o)), none, none, none, some (.int a4), none, none, none]) [true, false, false, false, true, false, false, false] rfl rfl ?_
      exact tbX5_review_83 E hR ht  h
    · rw [if_neg c5] at h
      refine v_iconst C (pc := 78) (v := 0) dX5_review_78 (by decide) ?_
      refine v_goto C (pc := 79) (tgt := 83) dX5_review_79 (by decide) ?_
      refine v_mask (lv' := [some (va_rf (some o)), none, none, none, some (.int a4), none, none, none]) [true, false, false, false, true, false, false, false] rfl rfl ?_
      exact tbX5_review_83 E hR ht  h
  · rw [if_pos c4] at h
    refine v_iconst C (pc := 69) (v := 1) dX5_review_69 (by decide) ?_
    refine v_goto C (pc := 70) (tgt := 83) dX5_review_70 (by decide) ?_
    refine v_mask (lv' := [some (va_rf (some o)), none, none, none, some (.int a4), none, none, none]) [true, false, false, false, true, false, false, false] rfl rfl ?_
    exact tbX5_review_83 E hR ht  h
def bX5_review_61 (o : Nat) (Q : hM → Int32 → Prop) (M : hM) (a3 : Int32) (a4 : Int32) : Prop :=
  bX5_review_62 o Q M a3 a4 0
set_option maxRecDepth 100000 in
set_option maxHeartbeats 4000000 in
theorem tbX5_review_61 {κ : hKx} {M0 : hM} {sz : Nat} {o : Nat} {Q : hM → Int32 → Prop} (E : Ce κ RX5 cX5_review wsX5_review (some .boolean) M0 sz (hQi Q) (fun _ _ => False) 0 0) (hR : kR κ = rmX5_review) (ht : ∀ x ∈ (kc κ).exceptionTable.toList, False)  {M : hM} {a3 : Int32} {a4 : Int32}  (h : bX5_review_61 o Q M a3 a4) : VW κ 0 0 M 61 [some (va_rf (some o)), none, none, some (.int a3), some (.int a4), none, none, none] [] := by
  unfold bX5_review_61 at h
  have F := E.1
  have C := F.1
  refine v_iconst C (pc := 61) (v := 0) dX5_review_61 (by decide) ?_
  exact tbX5_review_62 E hR ht  h
def wX5_review (M : hM) (o : Nat) (a1 : Int32) (a2 : Int32) (Q : hM → Int32 → Prop) : Prop :=
  ∃ y2, hC M 5 (some o) = some y2 ∧
  ∃ x1, fX5_isIn M o a1 a2 = some x1 ∧
  if (x1 : Int32) = 0 then (
    bX5_review_61 o Q M x1 ((8 * a1) + a2)
  ) else (
    ∃ x27, gR M 5 22 (some o) = some x27 ∧
    ∃ x28, aI M 0 x27 ((8 * a1) + a2) = some x28 ∧
    if (x28 : Int32) = 1 then (
      ∃ x30, gI M 5 1 (some o) = some x30 ∧
      ∃ x31, gR M 5 24 (some o) = some x31 ∧
      ∃ x32, aI M 0 x31 ((8 * a1) + a2) = some x32 ∧
      if (30 : Int32) < (x30 - x32) then (
        bX5_review_61 o Q M x1 ((8 * a1) + a2)
      ) else (
        ∃ x34, gR M 5 25 (some o) = some x34 ∧
        ∃ x35, aI M 1 x34 ((8 * a1) + a2) = some x35 ∧
        if (x35 : Int32) = 0 then (
          bX5_review_62 o Q M x1 ((8 * a1) + a2) 1
        ) else (
          bX5_review_61 o Q M x1 ((8 * a1) + a2)
        )
      )
    ) else (
      bX5_review_61 o Q M x1 ((8 * a1) + a2)
    )
  )
set_option maxRecDepth 100000 in
set_option maxHeartbeats 4000000 in
theorem cX5_review_met (l : Launch) (hfl : l.stackTraces = false) (G : hG) (M : hM) {o : Nat} {a1 : Int32} {a2 : Int32} {Q : hM → Int32 → Prop} (h : wX5_review M o a1 a2 Q) : hEMet l yX5_review wsX5_review rmX5_review [.ref o, .int a1, .int a2] G M (hQi Q) (fun _ _ => False) 0 0 := by
  refine he_entry (own := RX5) (cc := cX5_review) (maxL := 8) (ret := (some .boolean)) (lv := [some (va_rf (some o)), some (.int a1), some (.int a2), none, none, none, none, none]) hfl (by decide) rfl rfl (hcc rfl (hcc rfl (hcc rfl hc0))) (Nat.le_of_ble_eq_true rfl) rfl (fun κ sz hG hl hR E ht hn => ?_)
  subst hG; subst hl
  unfold wX5_review at h
  have F := E.1
  have C := F.1
  refine v_aload_n C (pc := 0) (i := 0) dX5_review_0 rfl ?_
  refine v_iload_n C (pc := 1) (i := 1) dX5_review_1 rfl ?_
  refine v_iload_n C (pc := 2) (i := 2) dX5_review_2 rfl ?_
  obtain ⟨y2, hy2, h⟩ := h
  obtain ⟨fsy2, hfy2⟩ := hC_some hy2
  obtain ⟨x1, e1, h⟩ := h
  refine v_pV C (pc := 3) (ci := 5) [.int a1, .int a2] 2 (cX5_isIn_met (kl κ) (kG κ) _ e1) hfy2 rfl gX5_review_X5_isIn rfl hdX5_isIn rfl rfl rfl (by rw [hR]; exact ⟨Nat.le_of_ble_eq_true rfl, Nat.le_of_ble_eq_true rfl⟩) (by rw [hR]; decide) (Nat.le_of_ble_eq_true rfl) rfl dX5_review_3 ?_
  refine v_istore_n C (pc := 6) (i := 3) (lv' := [some (va_rf (some o)), some (.int a1), some (.int a2), some (.int x1), none, none, none, none]) dX5_review_6 rfl rfl ?_
  refine v_bipush C (pc := 7) (v := 8) dX5_review_7 (by decide) ?_
  refine v_iload_n C (pc := 9) (i := 1) dX5_review_9 rfl ?_
  refine v_imul C (pc := 10) dX5_review_10 ?_
  refine v_iload_n C (pc := 11) (i := 2) dX5_review_11 rfl ?_
  refine v_iadd C (pc := 12) dX5_review_12 ?_
  refine v_istore C (pc := 13) (i := 4) (lv' := [some (va_rf (some o)), some (.int a1), some (.int a2), some (.int x1), some (.int ((8 * a1) + a2)), none, none, none]) dX5_review_13 rfl rfl ?_
  refine v_iload_n C (pc := 15) (i := 3) dX5_review_15 rfl ?_
  refine v_if_eq C (pc := 16) (tgt := 61) dX5_review_16 (by decide) (fun c3 => ?_) (fun c3 => ?_)
  · rw [if_pos c3] at h
    refine v_mask (lv' := [some (va_rf (some o)), none, none, some (.int x1), some (.int ((8 * a1) + a2)), none, none, none]) [true, false, false, true, true, false, false, false] rfl rfl ?_
    exact tbX5_review_61 E hR ht  h
  · rw [if_neg c3] at h
    refine v_aload_n C (pc := 19) (i := 0) dX5_review_19 rfl ?_
    obtain ⟨x27, e27, h⟩ := h
    refine v_getR C (pc := 20) (ci := 5) 22 iwX5_review_X5 rfl (by decide) flX5_review_62 e27 dX5_review_20 ?_
    refine v_iload C (pc := 23) (i := 4) dX5_review_23 rfl ?_
    obtain ⟨x28, e28, h⟩ := h
    refine v_iald C (pc := 25) e28 dX5_review_25 ?_
    refine v_iconst C (pc := 26) (v := 1) dX5_review_26 (by decide) ?_
    refine v_icmp_ne C (pc := 27) (tgt := 61) dX5_review_27 (by decide) (fun c29 => ?_) (fun c29 => ?_)
    · rw [if_neg c29] at h
      refine v_mask (lv' := [some (va_rf (some o)), none, none, some (.int x1), some (.int ((8 * a1) + a2)), none, none, none]) [true, false, false, true, true, false, false, false] rfl rfl ?_
      exact tbX5_review_61 E hR ht  h
    · rw [if_pos c29] at h
      refine v_aload_n C (pc := 30) (i := 0) dX5_review_30 rfl ?_
      obtain ⟨x30, e30, h⟩ := h
      refine v_getI C (pc := 31) (ci := 5) 1 iwX5_review_X5 rfl (by decide) flX5_review_135 e30 dX5_review_31 ?_
      refine v_aload_n C (pc := 34) (i := 0) dX5_review_34 rfl ?_
      obtain ⟨x31, e31, h⟩ := h
      refine v_getR C (pc := 35) (ci := 5) 24 iwX5_review_X5 rfl (by decide) flX5_review_68 e31 dX5_review_35 ?_
      refine v_iload C (pc := 38) (i := 4) dX5_review_38 rfl ?_
      obtain ⟨x32, e32, h⟩ := h
      refine v_iald C (pc := 40) e32 dX5_review_40 ?_
      refine v_isub C (pc := 41) dX5_review_41 ?_
      refine v_bipush C (pc := 42) (v := 30) dX5_review_42 (by decide) ?_
      refine v_icmp_gt C (pc := 44) (tgt := 61) dX5_review_44 (by decide) (fun c33 => ?_) (fun c33 => ?_)
      · rw [if_pos c33] at h
        refine v_mask (lv' := [some (va_rf (some o)), none, none, some (.int x1), some (.int ((8 * a1) + a2)), none, none, none]) [true, false, false, true, true, false, false, false] rfl rfl ?_
        exact tbX5_review_61 E hR ht  h
      · rw [if_neg c33] at h
        refine v_aload_n C (pc := 47) (i := 0) dX5_review_47 rfl ?_
        obtain ⟨x34, e34, h⟩ := h
        refine v_getR C (pc := 48) (ci := 5) 25 iwX5_review_X5 rfl (by decide) flX5_review_71 e34 dX5_review_48 ?_
        refine v_iload C (pc := 51) (i := 4) dX5_review_51 rfl ?_
        obtain ⟨x35, e35, h⟩ := h
        refine v_zald C (pc := 53) e35 dX5_review_53 ?_
        refine v_if_ne C (pc := 54) (tgt := 61) dX5_review_54 (by decide) (fun c36 => ?_) (fun c36 => ?_)
        · rw [if_neg c36] at h
          refine v_mask (lv' := [some (va_rf (some o)), none, none, some (.int x1), some (.int ((8 * a1) + a2)), none, none, none]) [true, false, false, true, true, false, false, false] rfl rfl ?_
          exact tbX5_review_61 E hR ht  h
        · rw [if_pos c36] at h
          refine v_iconst C (pc := 57) (v := 1) dX5_review_57 (by decide) ?_
          refine v_goto C (pc := 58) (tgt := 62) dX5_review_58 (by decide) ?_
          refine v_mask (lv' := [some (va_rf (some o)), none, none, some (.int x1), some (.int ((8 * a1) + a2)), none, none, none]) [true, false, false, true, true, false, false, false] rfl rfl ?_
          exact tbX5_review_62 E hR ht  h
/-! X5_spend -/
abbrev rmX5_spend : Room := { frames := 0, cells := 0, slots := 0, locals := 0 }
theorem iwX5_spend_X5 : ∀ w ∈ u_ws RX5 TX5 38, w ∈ wsX5_spend := fun _ h => List.mem_cons_of_mem _ (List.mem_append_right _ (h))
theorem flX5_spend_101 : Cond.fieldLink RX5 101 "ChargehouseModel" "byWhat" "[I" ∈ wsX5_spend := List.mem_cons_of_mem _ (List.mem_append_left _ (List.mem_of_getElem? (i := 4) rfl))
theorem flX5_spend_135 : Cond.fieldLink RX5 135 "ChargehouseModel" "day" "I" ∈ wsX5_spend := List.mem_cons_of_mem _ (List.mem_append_left _ (List.mem_of_getElem? (i := 3) rfl))
theorem flX5_spend_153 : Cond.fieldLink RX5 153 "ChargehouseModel" "spendings" "I" ∈ wsX5_spend := List.mem_cons_of_mem _ (List.mem_append_left _ (List.mem_of_getElem? (i := 1) rfl))
theorem flX5_spend_62 : Cond.fieldLink RX5 62 "ChargehouseModel" "state" "[I" ∈ wsX5_spend := List.mem_cons_of_mem _ (List.mem_append_left _ (List.mem_of_getElem? (i := 6) rfl))
theorem flX5_spend_65 : Cond.fieldLink RX5 65 "ChargehouseModel" "charges" "[I" ∈ wsX5_spend := List.mem_cons_of_mem _ (List.mem_append_left _ (List.mem_of_getElem? (i := 5) rfl))
theorem flX5_spend_74 : Cond.fieldLink RX5 74 "ChargehouseModel" "isHeld" "[Z" ∈ wsX5_spend := List.mem_cons_of_mem _ (List.mem_append_left _ (List.mem_of_getElem? (i := 8) rfl))
theorem flX5_spend_80 : Cond.fieldLink RX5 80 "ChargehouseModel" "later" "[I" ∈ wsX5_spend := List.mem_cons_of_mem _ (List.mem_append_left _ (List.mem_of_getElem? (i := 7) rfl))
theorem flX5_spend_95 : Cond.fieldLink RX5 95 "ChargehouseModel" "ofWhom" "[I" ∈ wsX5_spend := List.mem_cons_of_mem _ (List.mem_append_left _ (List.mem_of_getElem? (i := 0) rfl))
theorem flX5_spend_98 : Cond.fieldLink RX5 98 "ChargehouseModel" "when" "[I" ∈ wsX5_spend := List.mem_cons_of_mem _ (List.mem_append_left _ (List.mem_of_getElem? (i := 2) rfl))
def wX5_spend (M : hM) (o : Nat) (a1 : Int32) (Q : hM → Prop) : Prop :=
  ∃ x1, gR M 5 34 (some o) = some x1 ∧
  ∃ x2, gI M 5 33 (some o) = some x2 ∧
  ∃ M3, sI M 0 x1 x2 a1 = some M3 ∧
  ∃ x4, gR M3 5 35 (some o) = some x4 ∧
  ∃ x5, gI M3 5 33 (some o) = some x5 ∧
  ∃ x6, gI M3 5 1 (some o) = some x6 ∧
  ∃ M7, sI M3 0 x4 x5 x6 = some M7 ∧
  ∃ x8, gR M7 5 36 (some o) = some x8 ∧
  ∃ x9, gI M7 5 33 (some o) = some x9 ∧
  ∃ x10, gR M7 5 23 (some o) = some x10 ∧
  ∃ x11, aI M7 0 x10 a1 = some x11 ∧
  ∃ M12, sI M7 0 x8 x9 x11 = some M12 ∧
  ∃ x13, gI M12 5 33 (some o) = some x13 ∧
  ∃ M14, pV M12 5 33 (some o) (.int (x13 + 1)) = some M14 ∧
  ∃ x15, gR M14 5 22 (some o) = some x15 ∧
  ∃ M16, sI M14 0 x15 a1 0 = some M16 ∧
  ∃ x17, gR M16 5 23 (some o) = some x17 ∧
  ∃ M18, sI M16 0 x17 a1 0 = some M18 ∧
  ∃ x19, gR M18 5 28 (some o) = some x19 ∧
  ∃ M20, sI M18 0 x19 a1 0 = some M20 ∧
  ∃ x21, gR M20 5 26 (some o) = some x21 ∧
  ∃ M22, sZ M20 1 x21 a1 0 = some M22 ∧
  Q M22
set_option maxRecDepth 100000 in
set_option maxHeartbeats 4000000 in
theorem cX5_spend_met (l : Launch) (hfl : l.stackTraces = false) (G : hG) (M : hM) {o : Nat} {a1 : Int32} {Q : hM → Prop} (h : wX5_spend M o a1 Q) : hEMet l yX5_spend wsX5_spend rmX5_spend [.ref o, .int a1] G M (hQv Q) (fun _ _ => False) 0 0 := by
  refine he_entry (own := RX5) (cc := cX5_spend) (maxL := 2) (ret := none) (lv := [some (va_rf (some o)), some (.int a1)]) hfl (by decide) rfl rfl (hcc rfl (hcc rfl hc0)) (Nat.le_of_ble_eq_true rfl) rfl (fun κ sz hG hl hR E ht hn => ?_)
  subst hG; subst hl
  unfold wX5_spend at h
  have F := E.1
  have C := F.1
  refine v_aload_n C (pc := 0) (i := 0) dX5_spend_0 rfl ?_
  obtain ⟨x1, e1, h⟩ := h
  refine v_getR C (pc := 1) (ci := 5) 34 iwX5_spend_X5 rfl (by decide) flX5_spend_95 e1 dX5_spend_1 ?_
  refine v_aload_n C (pc := 4) (i := 0) dX5_spend_4 rfl ?_
  obtain ⟨x2, e2, h⟩ := h
  refine v_getI C (pc := 5) (ci := 5) 33 iwX5_spend_X5 rfl (by decide) flX5_spend_153 e2 dX5_spend_5 ?_
  refine v_iload_n C (pc := 8) (i := 1) dX5_spend_8 rfl ?_
  obtain ⟨M3, e3, h⟩ := h
  refine v_iast F (pc := 9) e3 dX5_spend_9 ?_
  refine v_aload_n C (pc := 10) (i := 0) dX5_spend_10 rfl ?_
  obtain ⟨x4, e4, h⟩ := h
  refine v_getR C (pc := 11) (ci := 5) 35 iwX5_spend_X5 rfl (by decide) flX5_spend_98 e4 dX5_spend_11 ?_
  refine v_aload_n C (pc := 14) (i := 0) dX5_spend_14 rfl ?_
  obtain ⟨x5, e5, h⟩ := h
  refine v_getI C (pc := 15) (ci := 5) 33 iwX5_spend_X5 rfl (by decide) flX5_spend_153 e5 dX5_spend_15 ?_
  refine v_aload_n C (pc := 18) (i := 0) dX5_spend_18 rfl ?_
  obtain ⟨x6, e6, h⟩ := h
  refine v_getI C (pc := 19) (ci := 5) 1 iwX5_spend_X5 rfl (by decide) flX5_spend_135 e6 dX5_spend_19 ?_
  obtain ⟨M7, e7, h⟩ := h
  refine v_iast F (pc := 22) e7 dX5_spend_22 ?_
  refine v_aload_n C (pc := 23) (i := 0) dX5_spend_23 rfl ?_
  obtain ⟨x8, e8, h⟩ := h
  refine v_getR C (pc := 24) (ci := 5) 36 iwX5_spend_X5 rfl (by decide) flX5_spend_101 e8 dX5_spend_24 ?_
  refine v_aload_n C (pc := 27) (i := 0) dX5_spend_27 rfl ?_
  obtain ⟨x9, e9, h⟩ := h
  refine v_getI C (pc := 28) (ci := 5) 33 iwX5_spend_X5 rfl (by decide) flX5_spend_153 e9 dX5_spend_28 ?_
  refine v_aload_n C (pc := 31) (i := 0) dX5_spend_31 rfl ?_
  obtain ⟨x10, e10, h⟩ := h
  refine v_getR C (pc := 32) (ci := 5) 23 iwX5_spend_X5 rfl (by decide) flX5_spend_65 e10 dX5_spend_32 ?_
  refine v_iload_n C (pc := 35) (i := 1) dX5_spend_35 rfl ?_
  obtain ⟨x11, e11, h⟩ := h
  refine v_iald C (pc := 36) e11 dX5_spend_36 ?_
  obtain ⟨M12, e12, h⟩ := h
  refine v_iast F (pc := 37) e12 dX5_spend_37 ?_
  refine v_aload_n C (pc := 38) (i := 0) dX5_spend_38 rfl ?_
  refine v_dup C (pc := 39) dX5_spend_39 (rf_cat _) ?_
  obtain ⟨x13, e13, h⟩ := h
  refine v_getI C (pc := 40) (ci := 5) 33 iwX5_spend_X5 rfl (by decide) flX5_spend_153 e13 dX5_spend_40 ?_
  refine v_iconst C (pc := 43) (v := 1) dX5_spend_43 (by decide) ?_
  refine v_iadd C (pc := 44) dX5_spend_44 ?_
  obtain ⟨M14, e14, h⟩ := h
  refine v_put F (pc := 45) (ci := 5) (ty := .int) 33 iwX5_spend_X5 tyX5 tyX5_ok nmX5 rfl (by decide) flX5_spend_153 rfl rfl (nar_int _) (fit_int _) e14 dX5_spend_45 ?_
  refine v_aload_n C (pc := 48) (i := 0) dX5_spend_48 rfl ?_
  obtain ⟨x15, e15, h⟩ := h
  refine v_getR C (pc := 49) (ci := 5) 22 iwX5_spend_X5 rfl (by decide) flX5_spend_62 e15 dX5_spend_49 ?_
  refine v_iload_n C (pc := 52) (i := 1) dX5_spend_52 rfl ?_
  refine v_iconst C (pc := 53) (v := 0) dX5_spend_53 (by decide) ?_
  obtain ⟨M16, e16, h⟩ := h
  refine v_iast F (pc := 54) e16 dX5_spend_54 ?_
  refine v_aload_n C (pc := 55) (i := 0) dX5_spend_55 rfl ?_
  obtain ⟨x17, e17, h⟩ := h
  refine v_getR C (pc := 56) (ci := 5) 23 iwX5_spend_X5 rfl (by decide) flX5_spend_65 e17 dX5_spend_56 ?_
  refine v_iload_n C (pc := 59) (i := 1) dX5_spend_59 rfl ?_
  refine v_iconst C (pc := 60) (v := 0) dX5_spend_60 (by decide) ?_
  obtain ⟨M18, e18, h⟩ := h
  refine v_iast F (pc := 61) e18 dX5_spend_61 ?_
  refine v_aload_n C (pc := 62) (i := 0) dX5_spend_62 rfl ?_
  obtain ⟨x19, e19, h⟩ := h
  refine v_getR C (pc := 63) (ci := 5) 28 iwX5_spend_X5 rfl (by decide) flX5_spend_80 e19 dX5_spend_63 ?_
  refine v_iload_n C (pc := 66) (i := 1) dX5_spend_66 rfl ?_
  refine v_iconst C (pc := 67) (v := 0) dX5_spend_67 (by decide) ?_
  obtain ⟨M20, e20, h⟩ := h
  refine v_iast F (pc := 68) e20 dX5_spend_68 ?_
  refine v_aload_n C (pc := 69) (i := 0) dX5_spend_69 rfl ?_
  obtain ⟨x21, e21, h⟩ := h
  refine v_getR C (pc := 70) (ci := 5) 26 iwX5_spend_X5 rfl (by decide) flX5_spend_74 e21 dX5_spend_70 ?_
  refine v_iload_n C (pc := 73) (i := 1) dX5_spend_73 rfl ?_
  refine v_iconst C (pc := 74) (v := 0) dX5_spend_74 (by decide) ?_
  obtain ⟨M22, e22, h⟩ := h
  refine v_zast F (pc := 75) e22 dX5_spend_75 ?_
  exact v_eretV (pc := 76) E rfl ⟨rfl, h⟩ (by decide) (by decide) dX5_spend_76
