/-! X0_init -/
abbrev rmX0_init : Room := { frames := 1, cells := 1, slots := 8, locals := 22 }
theorem iwX0_init_X0 : ∀ w ∈ u_ws RX0 TX0 14, w ∈ wsX0_init := fun _ h => List.mem_cons_of_mem _ (List.mem_append_right _ (h))
theorem flX0_init_15 : Cond.fieldLink RX0 15 "Chargehouse$Accused" "firstAnsweredOn" "[I" ∈ wsX0_init := List.mem_cons_of_mem _ (List.mem_append_left _ (List.mem_of_getElem? (i := 5) rfl))
theorem flX0_init_19 : Cond.fieldLink RX0 19 "Chargehouse$Accused" "file" "LChargehouse$CaseFile;" ∈ wsX0_init := List.mem_cons_of_mem _ (List.mem_append_left _ (List.mem_of_getElem? (i := 6) rfl))
theorem flX0_init_23 : Cond.fieldLink RX0 23 "Chargehouse$Accused" "person" "I" ∈ wsX0_init := List.mem_cons_of_mem _ (List.mem_append_left _ (List.mem_of_getElem? (i := 7) rfl))
theorem flX0_init_9 : Cond.fieldLink RX0 9 "Chargehouse$Accused" "state" "I" ∈ wsX0_init := List.mem_cons_of_mem _ (List.mem_append_left _ (List.mem_of_getElem? (i := 3) rfl))
def lX0_init_29 (o : Nat) (Q : hM → Prop) : Nat → hM → Int32 → Prop
  | 0, _, _ => False
  | n + 1, M, a3 =>
    ∃ x6, gR M 0 13 (some o) = some x6 ∧
    ∃ x7, aL M 0 x6 = some x7 ∧
    if (x7 : Int32) ≤ a3 then (
      Q M
    ) else (
      ∃ x9, gR M 0 13 (some o) = some x9 ∧
      ∃ M10, sI M 0 x9 a3 (-1) = some M10 ∧
      (lX0_init_29 o Q n) M10 (a3 + 1)
    )
set_option maxRecDepth 100000 in
set_option maxHeartbeats 4000000 in
theorem tlX0_init_29 {κ : hKx} {M0 : hM} {sz : Nat} {o : Nat} {Q : hM → Prop} (E : Ce κ RX0 cX0_init wsX0_init none M0 sz (hQv Q) (fun _ _ => False) 1 8) (hR : kR κ = rmX0_init) (ht : ∀ x ∈ (kc κ).exceptionTable.toList, False) (hn : (kM κ).name = "<init>")    : ∀ (n : Nat) (M : hM) (a3 : Int32), lX0_init_29 o Q n M a3 → VW κ 1 8 M 29 [some (va_rf (some o)), none, none, some (.int a3)] [] := by
  have F := E.1
  have C := F.1
  intro n
  induction n with
  | zero =>
    intro M a3 h
    unfold lX0_init_29 at h
    exact h.elim
  | succ n ih =>
    intro M a3 h
    unfold lX0_init_29 at h
    refine v_iload_n C (pc := 29) (i := 3) dX0_init_29 rfl ?_
    refine v_aload_n C (pc := 30) (i := 0) dX0_init_30 rfl ?_
    obtain ⟨x6, e6, h⟩ := h
    refine v_getR C (pc := 31) (ci := 0) 13 iwX0_init_X0 rfl (by decide) flX0_init_15 e6 dX0_init_31 ?_
    obtain ⟨x7, e7, h⟩ := h
    refine v_alen C (pc := 34) 0 rfl e7 dX0_init_34 ?_
    refine v_icmp_ge C (pc := 35) (tgt := 51) dX0_init_35 (by decide) (fun c8 => ?_) (fun c8 => ?_)
    · rw [if_pos c8] at h
      exact v_eretV (pc := 51) E rfl ⟨rfl, h⟩ (by decide) (by decide) dX0_init_51
    · rw [if_neg c8] at h
      refine v_aload_n C (pc := 38) (i := 0) dX0_init_38 rfl ?_
      obtain ⟨x9, e9, h⟩ := h
      refine v_getR C (pc := 39) (ci := 0) 13 iwX0_init_X0 rfl (by decide) flX0_init_15 e9 dX0_init_39 ?_
      refine v_iload_n C (pc := 42) (i := 3) dX0_init_42 rfl ?_
      refine v_iconst C (pc := 43) (v := (-1)) dX0_init_43 (by decide) ?_
      obtain ⟨M10, e10, h⟩ := h
      refine v_iast F (pc := 44) e10 dX0_init_44 ?_
      refine v_iinc C (pc := 45) (i := 3) (w := 1) (lv' := [some (va_rf (some o)), none, none, some (.int (a3 + 1))]) dX0_init_45 rfl (by decide) rfl ?_
      refine v_goto C (pc := 48) (tgt := 29) dX0_init_48 (by decide) ?_
      exact ih _ _ h
def wX0_init (M : hM) (o : Nat) (a1 : Option Nat) (a2 : Int32) (Q : hM → Prop) : Prop :=
  ∃ M1, pV M 0 2 (some o) (.int 0) = some M1 ∧
  ∀ q2 : Nat, M1 q2 = none →
  ∃ M3, pV (hst M1 q2 (.inl (0, 8, .inl (fun _ => 0)))) 0 13 (some o) (va_rf (some q2)) = some M3 ∧
  ∃ M4, pV M3 0 0 (some o) (va_rf a1) = some M4 ∧
  ∃ M5, pV M4 0 1 (some o) (.int a2) = some M5 ∧
  lX0_init_29 o Q 1000 M5 0
set_option maxRecDepth 100000 in
set_option maxHeartbeats 4000000 in
theorem cX0_init_met (l : Launch) (hfl : l.stackTraces = false) (G : hG) (M : hM) {o : Nat} {a1 : Option Nat} {a2 : Int32} {Q : hM → Prop} (h : wX0_init M o a1 a2 Q) : hEMet l yX0_init wsX0_init rmX0_init [.ref o, va_rf a1, .int a2] G M (hQv Q) (fun _ _ => False) 1 8 := by
  refine he_entry (own := RX0) (cc := cX0_init) (maxL := 4) (ret := none) (lv := [some (va_rf (some o)), some (va_rf a1), some (.int a2), none]) hfl (by decide) rfl rfl (hcc rfl (hcc (rf_cat _) (hcc rfl hc0))) (Nat.le_of_ble_eq_true rfl) rfl (fun κ sz hG hl hR E ht hn => ?_)
  subst hG; subst hl
  have hn := hn rfl
  unfold wX0_init at h
  have F := E.1
  have C := F.1
  refine v_aload_n C (pc := 0) (i := 0) dX0_init_0 rfl ?_
  refine v_objInit C (pc := 1) (r := some o) rfl (List.mem_cons_of_mem _ (List.mem_append_left _ (List.mem_of_getElem? (i := 0) rfl))) (List.mem_cons_of_mem _ (List.mem_append_left _ (List.mem_of_getElem? (i := 1) rfl))) (List.mem_cons_of_mem _ (List.mem_append_left _ (List.mem_of_getElem? (i := 2) rfl))) (by rw [hR]; decide) (by rw [hR]; exact Nat.le_of_ble_eq_true rfl) dX0_init_1 ?_
  refine v_aload_n C (pc := 4) (i := 0) dX0_init_4 rfl ?_
  refine v_iconst C (pc := 5) (v := 0) dX0_init_5 (by decide) ?_
  obtain ⟨M1, e1, h⟩ := h
  refine v_put F (pc := 6) (ci := 0) (ty := .int) 2 iwX0_init_X0 tyX0 tyX0_ok nmX0 rfl (by decide) flX0_init_9 rfl rfl (nar_int _) (fit_int _) e1 dX0_init_6 ?_
  refine v_aload_n C (pc := 9) (i := 0) dX0_init_9 rfl ?_
  refine v_bipush C (pc := 10) (v := 8) dX0_init_10 (by decide) ?_
  refine v_newa F (pc := 12) 0 (atype := .int) (ty := .int) (N := 8) (x := (8, .inl (fun _ => 0))) rfl (List.mem_cons_of_mem _ (List.mem_append_left _ (List.mem_of_getElem? (i := 4) rfl))) rfl (fun q => q) (fun _ => rfl) (by decide) (by decide) (by decide) (by rw [hR]; decide) (by rw [hR]; decide) dX0_init_12 (fun q2 hqq2 => ?_)
  have h := h q2 hqq2
  obtain ⟨M3, e3, h⟩ := h
  refine v_putF F (pc := 14) (ci := 0) (ty := tyX0 13) 13 iwX0_init_X0 tyX0 tyX0_ok nmX0 rfl (by decide) flX0_init_15 rfl hn rfl rfl (nar_refA _ _) (fit_refA _ _) e3 dX0_init_14 ?_
  refine v_aload_n C (pc := 17) (i := 0) dX0_init_17 rfl ?_
  refine v_aload_n C (pc := 18) (i := 1) dX0_init_18 rfl ?_
  obtain ⟨M4, e4, h⟩ := h
  refine v_putF F (pc := 19) (ci := 0) (ty := tyX0 0) 0 iwX0_init_X0 tyX0 tyX0_ok nmX0 rfl (by decide) flX0_init_19 rfl hn rfl rfl (nar_refO _ _) (fit_refO _ _) e4 dX0_init_19 ?_
  refine v_aload_n C (pc := 22) (i := 0) dX0_init_22 rfl ?_
  refine v_iload_n C (pc := 23) (i := 2) dX0_init_23 rfl ?_
  obtain ⟨M5, e5, h⟩ := h
  refine v_putF F (pc := 24) (ci := 0) (ty := .int) 1 iwX0_init_X0 tyX0 tyX0_ok nmX0 rfl (by decide) flX0_init_23 rfl hn rfl rfl (nar_int _) (fit_int _) e5 dX0_init_24 ?_
  refine v_iconst C (pc := 27) (v := 0) dX0_init_27 (by decide) ?_
  refine v_istore_n C (pc := 28) (i := 3) (lv' := [some (va_rf (some o)), some (va_rf a1), some (.int a2), some (.int 0)]) dX0_init_28 rfl (lw_bi (j := 2) rfl) rfl ?_
  refine v_mask (lv' := [some (va_rf (some o)), none, none, some (.int 0)]) [true, false, false, true] rfl rfl ?_
  exact tlX0_init_29 E hR ht hn  1000 _ _ h
/-! X0_isReleasedAfter -/
abbrev rmX0_isReleasedAfter : Room := { frames := 3, cells := 0, slots := 0, locals := 61 }
theorem iwX0_isReleasedAfter_X0 : ∀ w ∈ u_ws RX0 TX0 14, w ∈ wsX0_isReleasedAfter := fun _ h => List.mem_cons_of_mem _ (List.mem_append_right _ (h))
theorem flX0_isReleasedAfter_33 : Cond.fieldLink RX0 33 "Chargehouse$Accused" "daysWhileCharged" "I" ∈ wsX0_isReleasedAfter := List.mem_cons_of_mem _ (List.mem_append_left _ (List.mem_of_getElem? (i := 5) rfl))
theorem flX0_isReleasedAfter_40 : Cond.fieldLink RX0 40 "Chargehouse$Accused" "daysWhileOpen" "I" ∈ wsX0_isReleasedAfter := List.mem_cons_of_mem _ (List.mem_append_left _ (List.mem_of_getElem? (i := 6) rfl))
theorem flX0_isReleasedAfter_52 : Cond.fieldLink RX0 52 "Chargehouse$Accused" "isInCustody" "Z" ∈ wsX0_isReleasedAfter := List.mem_cons_of_mem _ (List.mem_append_left _ (List.mem_of_getElem? (i := 7) rfl))
theorem flX0_isReleasedAfter_9 : Cond.fieldLink RX0 9 "Chargehouse$Accused" "state" "I" ∈ wsX0_isReleasedAfter := List.mem_cons_of_mem _ (List.mem_append_left _ (List.mem_of_getElem? (i := 4) rfl))
def bX0_isReleasedAfter_53 (o : Nat) (Q : hM → Int32 → Prop) (M : hM) (s0 : Option Nat) (s1 : Int32) : Prop :=
  ∃ M8, pZ M 0 7 s0 s1 = some M8 ∧
  ∃ x9, gI M8 0 7 (some o) = some x9 ∧
  if (x9 : Int32) = 0 then (
    Q M8 1
  ) else (
    Q M8 0
  )
set_option maxRecDepth 100000 in
set_option maxHeartbeats 4000000 in
theorem tbX0_isReleasedAfter_53 {κ : hKx} {M0 : hM} {sz : Nat} {o : Nat} {Q : hM → Int32 → Prop} (E : Ce κ RX0 cX0_isReleasedAfter wsX0_isReleasedAfter (some .boolean) M0 sz (hQi Q) (fun _ _ => False) 0 0) (hR : kR κ = rmX0_isReleasedAfter) (ht : ∀ x ∈ (kc κ).exceptionTable.toList, False)  {M : hM} {s0 : Option Nat} {s1 : Int32}  (h : bX0_isReleasedAfter_53 o Q M s0 s1) : VW κ 0 0 M 53 [some (va_rf (some o)), none, none, none] [.int s1, va_rf s0] := by
  unfold bX0_isReleasedAfter_53 at h
  have F := E.1
  have C := F.1
  obtain ⟨M8, e8, h⟩ := h
  obtain ⟨hbe8, e8⟩ := pZ_inv e8
  refine v_put F (pc := 53) (ci := 0) (ty := .boolean) 7 iwX0_isReleasedAfter_X0 tyX0 tyX0_ok nmX0 rfl (by decide) flX0_isReleasedAfter_52 rfl rfl (nar_bool hbe8) (fit_bool hbe8) e8 dX0_isReleasedAfter_53 ?_
  refine v_aload_n C (pc := 56) (i := 0) dX0_isReleasedAfter_56 rfl ?_
  obtain ⟨x9, e9, h⟩ := h
  refine v_getI C (pc := 57) (ci := 0) 7 iwX0_isReleasedAfter_X0 rfl (by decide) flX0_isReleasedAfter_52 e9 dX0_isReleasedAfter_57 ?_
  refine v_if_ne C (pc := 60) (tgt := 67) dX0_isReleasedAfter_60 (by decide) (fun c10 => ?_) (fun c10 => ?_)
  · rw [if_neg c10] at h
    refine v_iconst C (pc := 67) (v := 0) dX0_isReleasedAfter_67 (by decide) ?_
    exact v_eret (pc := 68) E rfl (by decide +kernel) ⟨_, rfl, h⟩ (by decide) (by decide) dX0_isReleasedAfter_68
  · rw [if_pos c10] at h
    refine v_iconst C (pc := 63) (v := 1) dX0_isReleasedAfter_63 (by decide) ?_
    refine v_goto C (pc := 64) (tgt := 68) dX0_isReleasedAfter_64 (by decide) ?_
    exact v_eret (pc := 68) E rfl (by decide +kernel) ⟨_, rfl, h⟩ (by decide) (by decide) dX0_isReleasedAfter_68
def bX0_isReleasedAfter_42 (o : Nat) (Q : hM → Int32 → Prop) (M : hM) (a2 : Int32) (a3 : Int32) : Prop :=
  if (a2 : Int32) ≤ a3 then (
    bX0_isReleasedAfter_53 o Q M (some o) 0
  ) else (
    bX0_isReleasedAfter_53 o Q M (some o) 1
  )
set_option maxRecDepth 100000 in
set_option maxHeartbeats 4000000 in
theorem tbX0_isReleasedAfter_42 {κ : hKx} {M0 : hM} {sz : Nat} {o : Nat} {Q : hM → Int32 → Prop} (E : Ce κ RX0 cX0_isReleasedAfter wsX0_isReleasedAfter (some .boolean) M0 sz (hQi Q) (fun _ _ => False) 0 0) (hR : kR κ = rmX0_isReleasedAfter) (ht : ∀ x ∈ (kc κ).exceptionTable.toList, False)  {M : hM} {a2 : Int32} {a3 : Int32}  (h : bX0_isReleasedAfter_42 o Q M a2 a3) : VW κ 0 0 M 42 [some (va_rf (some o)), none, some (.int a2), some (.int a3)] [] := by
  unfold bX0_isReleasedAfter_42 at h
  have F := E.1
  have C := F.1
  refine v_aload_n C (pc := 42) (i := 0) dX0_isReleasedAfter_42 rfl ?_
  refine v_iload_n C (pc := 43) (i := 3) dX0_isReleasedAfter_43 rfl ?_
  refine v_iload_n C (pc := 44) (i := 2) dX0_isReleasedAfter_44 rfl ?_
  refine v_icmp_ge C (pc := 45) (tgt := 52) dX0_isReleasedAfter_45 (by decide) (fun c7 => ?_) (fun c7 => ?_)
  · rw [if_pos c7] at h
    refine v_iconst C (pc := 52) (v := 0) dX0_isReleasedAfter_52 (by decide) ?_
    refine v_mask (lv' := [some (va_rf (some o)), none, none, none]) [true, false, false, false] rfl rfl ?_
    exact tbX0_isReleasedAfter_53 E hR ht  h
  · rw [if_neg c7] at h
    refine v_iconst C (pc := 48) (v := 1) dX0_isReleasedAfter_48 (by decide) ?_
    refine v_goto C (pc := 49) (tgt := 53) dX0_isReleasedAfter_49 (by decide) ?_
    refine v_mask (lv' := [some (va_rf (some o)), none, none, none]) [true, false, false, false] rfl rfl ?_
    exact tbX0_isReleasedAfter_53 E hR ht  h
def wX0_isReleasedAfter (M : hM) (o : Nat) (a1 : Int32) (Q : hM → Int32 → Prop) : Prop :=
  ∃ y2, hC M 0 (some o) = some y2 ∧
  ∃ x1, fX0_daysLeft M o = some x1 ∧
  ∃ x3, gI M 0 2 (some o) = some x3 ∧
  if (x3 : Int32) = 2 then (
    ∃ x11, gI M 0 9 (some o) = some x11 ∧
    ∃ M12, pV M 0 9 (some o) (.int (x11 + (if x1 < a1 then x1 else a1))) = some M12 ∧
    bX0_isReleasedAfter_42 o Q M12 x1 (if x1 < a1 then x1 else a1)
  ) else (
    ∃ x5, gI M 0 8 (some o) = some x5 ∧
    ∃ M6, pV M 0 8 (some o) (.int (x5 + (if x1 < a1 then x1 else a1))) = some M6 ∧
    bX0_isReleasedAfter_42 o Q M6 x1 (if x1 < a1 then x1 else a1)
  )
set_option maxRecDepth 100000 in
set_option maxHeartbeats 4000000 in
theorem cX0_isReleasedAfter_met (l : Launch) (hfl : l.stackTraces = false) (G : hG) (M : hM) {o : Nat} {a1 : Int32} {Q : hM → Int32 → Prop} (h : wX0_isReleasedAfter M o a1 Q) : hEMet l yX0_isReleasedAfter wsX0_isReleasedAfter rmX0_isReleasedAfter [.ref o, .int a1] G M (hQi Q) (fun _ _ => False) 0 0 := by
  refine he_entry (own := RX0) (cc := cX0_isReleasedAfter) (maxL := 4) (ret := (some .boolean)) (lv := [some (va_rf (some o)), some (.int a1), none, none]) hfl (by decide) rfl rfl (hcc rfl (hcc rfl hc0)) (Nat.le_of_ble_eq_true rfl) rfl (fun κ sz hG hl hR E ht hn => ?_)
  subst hG; subst hl
  unfold wX0_isReleasedAfter at h
  have F := E.1
  have C := F.1
  refine v_aload_n C (pc := 0) (i := 0) dX0_isReleasedAfter_0 rfl ?_
  obtain ⟨y2, hy2, h⟩ := h
  obtain ⟨fsy2, hfy2⟩ := hC_some hy2
  obtain ⟨x1, e1, h⟩ := h
  refine v_pV C (pc := 1) (ci := 0) [] 0 (cX0_daysLeft_met (kl κ) (kG κ) _ e1) hfy2 rfl gX0_isReleasedAfter_X0_daysLeft rfl hdX0_daysLeft rfl rfl rfl (by rw [hR]; exact ⟨Nat.le_of_ble_eq_true rfl, Nat.le_of_ble_eq_true rfl⟩) (by rw [hR]; decide) (Nat.le_of_ble_eq_true rfl) rfl dX0_isReleasedAfter_1 ?_
  refine v_istore_n C (pc := 4) (i := 2) (lv' := [some (va_rf (some o)), some (.int a1), some (.int x1), none]) dX0_isReleasedAfter_4 rfl (lw_bi (j := 1) rfl) rfl ?_
  refine v_iload_n C (pc := 5) (i := 1) dX0_isReleasedAfter_5 rfl ?_
  refine v_iload_n C (pc := 6) (i := 2) dX0_isReleasedAfter_6 rfl ?_
  refine v_min C (pc := 7) (List.mem_cons_of_mem _ (List.mem_append_left _ (List.mem_of_getElem? (i := 0) rfl))) (List.mem_cons_of_mem _ (List.mem_append_left _ (List.mem_of_getElem? (i := 1) rfl))) (List.mem_cons_of_mem _ (List.mem_append_left _ (List.mem_of_getElem? (i := 2) rfl))) (List.mem_cons_of_mem _ (List.mem_append_left _ (List.mem_of_getElem? (i := 3) rfl))) (by rw [hR]; decide) (by rw [hR]; exact Nat.le_of_ble_eq_true rfl) (by rw [hR]; decide) (by rw [hR]; decide) dX0_isReleasedAfter_7 ?_
  refine v_istore_n C (pc := 10) (i := 3) (lv' := [some (va_rf (some o)), some (.int a1), some (.int x1), some (.int (if x1 < a1 then x1 else a1))]) dX0_isReleasedAfter_10 rfl (lw_bi (j := 2) rfl) rfl ?_
  refine v_aload_n C (pc := 11) (i := 0) dX0_isReleasedAfter_11 rfl ?_
  obtain ⟨x3, e3, h⟩ := h
  refine v_getI C (pc := 12) (ci := 0) 2 iwX0_isReleasedAfter_X0 rfl (by decide) flX0_isReleasedAfter_9 e3 dX0_isReleasedAfter_12 ?_
  refine v_iconst C (pc := 15) (v := 2) dX0_isReleasedAfter_15 (by decide) ?_
  refine v_icmp_ne C (pc := 16) (tgt := 32) dX0_isReleasedAfter_16 (by decide) (fun c4 => ?_) (fun c4 => ?_)
  · rw [if_neg c4] at h
    refine v_aload_n C (pc := 32) (i := 0) dX0_isReleasedAfter_32 rfl ?_
    refine v_dup C (pc := 33) dX0_isReleasedAfter_33 (rf_cat _) ?_
    obtain ⟨x5, e5, h⟩ := h
    refine v_getI C (pc := 34) (ci := 0) 8 iwX0_isReleasedAfter_X0 rfl (by decide) flX0_isReleasedAfter_40 e5 dX0_isReleasedAfter_34 ?_
    refine v_iload_n C (pc := 37) (i := 3) dX0_isReleasedAfter_37 rfl ?_
    refine v_iadd C (pc := 38) dX0_isReleasedAfter_38 ?_
    obtain ⟨M6, e6, h⟩ := h
    refine v_put F (pc := 39) (ci := 0) (ty := .int) 8 iwX0_isReleasedAfter_X0 tyX0 tyX0_ok nmX0 rfl (by decide) flX0_isReleasedAfter_40 rfl rfl (nar_int _) (fit_int _) e6 dX0_isReleasedAfter_39 ?_
    refine v_mask (lv' := [some (va_rf (some o)), none, some (.int x1), some (.int (if x1 < a1 then x1 else a1))]) [true, false, true, true] rfl rfl ?_
    exact tbX0_isReleasedAfter_42 E hR ht  h
  · rw [if_pos c4] at h
    refine v_aload_n C (pc := 19) (i := 0) dX0_isReleasedAfter_19 rfl ?_
    refine v_dup C (pc := 20) dX0_isReleasedAfter_20 (rf_cat _) ?_
    obtain ⟨x11, e11, h⟩ := h
    refine v_getI C (pc := 21) (ci := 0) 9 iwX0_isReleasedAfter_X0 rfl (by decide) flX0_isReleasedAfter_33 e11 dX0_isReleasedAfter_21 ?_
    refine v_iload_n C (pc := 24) (i := 3) dX0_isReleasedAfter_24 rfl ?_
    refine v_iadd C (pc := 25) dX0_isReleasedAfter_25 ?_
    obtain ⟨M12, e12, h⟩ := h
    refine v_put F (pc := 26) (ci := 0) (ty := .int) 9 iwX0_isReleasedAfter_X0 tyX0 tyX0_ok nmX0 rfl (by decide) flX0_isReleasedAfter_33 rfl rfl (nar_int _) (fit_int _) e12 dX0_isReleasedAfter_26 ?_
    refine v_goto C (pc := 29) (tgt := 42) dX0_isReleasedAfter_29 (by decide) ?_
    refine v_mask (lv' := [some (va_rf (some o)), none, some (.int x1), some (.int (if x1 < a1 then x1 else a1))]) [true, false, true, true] rfl rfl ?_
    exact tbX0_isReleasedAfter_42 E hR ht  h
/-! X0_answerCharges -/
abbrev rmX0_answerCharges : Room := { frames := 1, cells := 0, slots := 0, locals := 21 }
theorem iwX0_answerCharges_X0 : ∀ w ∈ u_ws RX0 TX0 14, w ∈ wsX0_answerCharges := fun _ h => List.mem_cons_of_mem _ (List.mem_append_right _ (h))
theorem flX0_answerCharges_15 : Cond.fieldLink RX0 15 "Chargehouse$Accused" "firstAnsweredOn" "[I" ∈ wsX0_answerCharges := List.mem_cons_of_mem _ (List.mem_append_left _ (List.mem_of_getElem? (i := 0) rfl))
theorem flX0_answerCharges_33 : Cond.fieldLink RX0 33 "Chargehouse$Accused" "daysWhileCharged" "I" ∈ wsX0_answerCharges := List.mem_cons_of_mem _ (List.mem_append_left _ (List.mem_of_getElem? (i := 3) rfl))
theorem flX0_answerCharges_52 : Cond.fieldLink RX0 52 "Chargehouse$Accused" "isInCustody" "Z" ∈ wsX0_answerCharges := List.mem_cons_of_mem _ (List.mem_append_left _ (List.mem_of_getElem? (i := 4) rfl))
theorem flX0_answerCharges_56 : Cond.fieldLink RX0 56 "Chargehouse$Accused" "charges" "I" ∈ wsX0_answerCharges := List.mem_cons_of_mem _ (List.mem_append_left _ (List.mem_of_getElem? (i := 1) rfl))
theorem flX0_answerCharges_59 : Cond.fieldLink RX0 59 "Chargehouse$Accused" "convictedOf" "I" ∈ wsX0_answerCharges := List.mem_cons_of_mem _ (List.mem_append_left _ (List.mem_of_getElem? (i := 2) rfl))
theorem flX0_answerCharges_9 : Cond.fieldLink RX0 9 "Chargehouse$Accused" "state" "I" ∈ wsX0_answerCharges := List.mem_cons_of_mem _ (List.mem_append_left _ (List.mem_of_getElem? (i := 5) rfl))
def lX0_answerCharges_2 (o : Nat) (Q : hM → Prop) (a1 : Int32) (a2 : Int32) : Nat → hM → Int32 → Prop
  | 0, _, _ => False
  | n + 1, M, a3 =>
    ∃ x1, gR M 0 13 (some o) = some x1 ∧
    ∃ x2, aL M 0 x1 = some x2 ∧
    if (x2 : Int32) ≤ a3 then (
      ∃ x4, gI M 0 12 (some o) = some x4 ∧
      ∃ M5, pV M 0 12 (some o) (.int (x4 ||| a1)) = some M5 ∧
      ∃ M6, pV M5 0 3 (some o) (.int 0) = some M6 ∧
      ∃ M7, pV M6 0 9 (some o) (.int 0) = some M7 ∧
      ∃ M8, pZ M7 0 7 (some o) 0 = some M8 ∧
      ∃ M9, pV M8 0 2 (some o) (.int 0) = some M9 ∧
      Q M9
    ) else (
      ∃ x10, gI M 0 3 (some o) = some x10 ∧
      ∃ x11, fX4_hasBit x10 a3 = some x11 ∧
      if (x11 : Int32) = 0 then (
        (lX0_answerCharges_2 o Q a1 a2 n) M (a3 + 1)
      ) else (
        ∃ x13, gR M 0 13 (some o) = some x13 ∧
        ∃ x14, aI M 0 x13 a3 = some x14 ∧
        if (x14 : Int32) = (-1) then (
          ∃ x16, gR M 0 13 (some o) = some x16 ∧
          ∃ M17, sI M 0 x16 a3 a2 = some M17 ∧
          (lX0_answerCharges_2 o Q a1 a2 n) M17 (a3 + 1)
        ) else (
          (lX0_answerCharges_2 o Q a1 a2 n) M (a3 + 1)
        )
      )
    )
set_option maxRecDepth 100000 in
set_option maxHeartbeats 4000000 in
theorem tlX0_answerCharges_2 {κ : hKx} {M0 : hM} {sz : Nat} {o : Nat} {Q : hM → Prop} (E : Ce κ RX0 cX0_answerCharges wsX0_answerCharges none M0 sz (hQv Q) (fun _ _ => False) 0 0) (hR : kR κ = rmX0_answerCharges) (ht : ∀ x ∈ (kc κ).exceptionTable.toList, False)  {a1 : Int32} {a2 : Int32}  : ∀ (n : Nat) (M : hM) (a3 : Int32), lX0_answerCharges_2 o Q a1 a2 n M a3 → VW κ 0 0 M 2 [some (va_rf (some o)), some (.int a1), some (.int a2), some (.int a3)] [] := by
  have F := E.1
  have C := F.1
  intro n
  induction n with
  | zero =>
    intro M a3 h
    unfold lX0_answerCharges_2 at h
    exact h.elim
  | succ n ih =>
    intro M a3 h
    unfold lX0_answerCharges_2 at h
    refine v_iload_n C (pc := 2) (i := 3) dX0_answerCharges_2 rfl ?_
    refine v_aload_n C (pc := 3) (i := 0) dX0_answerCharges_3 rfl ?_
    obtain ⟨x1, e1, h⟩ := h
    refine v_getR C (pc := 4) (ci := 0) 13 iwX0_answerCharges_X0 rfl (by decide) flX0_answerCharges_15 e1 dX0_answerCharges_4 ?_
    obtain ⟨x2, e2, h⟩ := h
    refine v_alen C (pc := 7) 0 rfl e2 dX0_answerCharges_7 ?_
    refine v_icmp_ge C (pc := 8) (tgt := 45) dX0_answerCharges_8 (by decide) (fun c3 => ?_) (fun c3 => ?_)
    · rw [if_pos c3] at h
      refine v_aload_n C (pc := 45) (i := 0) dX0_answerCharges_45 rfl ?_
      refine v_dup C (pc := 46) dX0_answerCharges_46 (rf_cat _) ?_
      obtain ⟨x4, e4, h⟩ := h
      refine v_getI C (pc := 47) (ci := 0) 12 iwX0_answerCharges_X0 rfl (by decide) flX0_answerCharges_59 e4 dX0_answerCharges_47 ?_
      refine v_iload_n C (pc := 50) (i := 1) dX0_answerCharges_50 rfl ?_
      refine v_ior C (pc := 51) dX0_answerCharges_51 ?_
      obtain ⟨M5, e5, h⟩ := h
      refine v_put F (pc := 52) (ci := 0) (ty := .int) 12 iwX0_answerCharges_X0 tyX0 tyX0_ok nmX0 rfl (by decide) flX0_answerCharges_59 rfl rfl (nar_int _) (fit_int _) e5 dX0_answerCharges_52 ?_
      refine v_aload_n C (pc := 55) (i := 0) dX0_answerCharges_55 rfl ?_
      refine v_iconst C (pc := 56) (v := 0) dX0_answerCharges_56 (by decide) ?_
      obtain ⟨M6, e6, h⟩ := h
      refine v_put F (pc := 57) (ci := 0) (ty := .int) 3 iwX0_answerCharges_X0 tyX0 tyX0_ok nmX0 rfl (by decide) flX0_answerCharges_56 rfl rfl (nar_int _) (fit_int _) e6 dX0_answerCharges_57 ?_
      refine v_aload_n C (pc := 60) (i := 0) dX0_answerCharges_60 rfl ?_
      refine v_iconst C (pc := 61) (v := 0) dX0_answerCharges_61 (by decide) ?_
      obtain ⟨M7, e7, h⟩ := h
      refine v_put F (pc := 62) (ci := 0) (ty := .int) 9 iwX0_answerCharges_X0 tyX0 tyX0_ok nmX0 rfl (by decide) flX0_answerCharges_33 rfl rfl (nar_int _) (fit_int _) e7 dX0_answerCharges_62 ?_
      refine v_aload_n C (pc := 65) (i := 0) dX0_answerCharges_65 rfl ?_
      refine v_iconst C (pc := 66) (v := 0) dX0_answerCharges_66 (by decide) ?_
      obtain ⟨M8, e8, h⟩ := h
      obtain ⟨hbe8, e8⟩ := pZ_inv e8
      refine v_put F (pc := 67) (ci := 0) (ty := .boolean) 7 iwX0_answerCharges_X0 tyX0 tyX0_ok nmX0 rfl (by decide) flX0_answerCharges_52 rfl rfl (nar_bool hbe8) (fit_bool hbe8) e8 dX0_answerCharges_67 ?_
      refine v_aload_n C (pc := 70) (i := 0) dX0_answerCharges_70 rfl ?_
      refine v_iconst C (pc := 71) (v := 0) dX0_answerCharges_71 (by decide) ?_
      obtain ⟨M9, e9, h⟩ := h
      refine v_put F (pc := 72) (ci := 0) (ty := .int) 2 iwX0_answerCharges_X0 tyX0 tyX0_ok nmX0 rfl (by decide) flX0_answerCharges_9 rfl rfl (nar_int _) (fit_int _) e9 dX0_answerCharges_72 ?_
      exact v_eretV (pc := 75) E rfl ⟨rfl, h⟩ (by decide) (by decide) dX0_answerCharges_75
    · rw [if_neg c3] at h
      refine v_aload_n C (pc := 11) (i := 0) dX0_answerCharges_11 rfl ?_
      obtain ⟨x10, e10, h⟩ := h
      refine v_getI C (pc := 12) (ci := 0) 3 iwX0_answerCharges_X0 rfl (by decide) flX0_answerCharges_56 e10 dX0_answerCharges_12 ?_
      refine v_iload_n C (pc := 15) (i := 3) dX0_answerCharges_15 rfl ?_
      obtain ⟨x11, e11, h⟩ := h
      refine v_pN C (host := RX4) (pc := 16) [.int x10, .int a3] 2 (cX4_hasBit_met (kl κ) (kG κ) _ e11) (by decide) gX0_answerCharges_X4_hasBit_n29 rfl (List.mem_cons_of_mem _ (List.mem_append_left _ (List.mem_of_getElem? (i := 6) rfl))) (List.mem_cons_of_mem _ (List.mem_append_left _ (List.mem_of_getElem? (i := 7) rfl))) hdsX4_hasBit rfl rfl rfl (by rw [hR]; exact ⟨Nat.le_of_ble_eq_true rfl, Nat.le_of_ble_eq_true rfl⟩) (by rw [hR]; decide) (Nat.le_of_ble_eq_true rfl) rfl dX0_answerCharges_16 ?_
      refine v_if_eq C (pc := 19) (tgt := 39) dX0_answerCharges_19 (by decide) (fun c12 => ?_) (fun c12 => ?_)
      · rw [if_pos c12] at h
        refine v_iinc C (pc := 39) (i := 3) (w := 1) (lv' := [some (va_rf (some o)), some (.int a1), some (.int a2), some (.int (a3 + 1))]) dX0_answerCharges_39 rfl (by decide) rfl ?_
        refine v_goto C (pc := 42) (tgt := 2) dX0_answerCharges_42 (by decide) ?_
        exact ih _ _ h
      · rw [if_neg c12] at h
        refine v_aload_n C (pc := 22) (i := 0) dX0_answerCharges_22 rfl ?_
        obtain ⟨x13, e13, h⟩ := h
        refine v_getR C (pc := 23) (ci := 0) 13 iwX0_answerCharges_X0 rfl (by decide) flX0_answerCharges_15 e13 dX0_answerCharges_23 ?_
        refine v_iload_n C (pc := 26) (i := 3) dX0_answerCharges_26 rfl ?_
        obtain ⟨x14, e14, h⟩ := h
        refine v_iald C (pc := 27) e14 dX0_answerCharges_27 ?_
        refine v_iconst C (pc := 28) (v := (-1)) dX0_answerCharges_28 (by decide) ?_
        refine v_icmp_ne C (pc := 29) (tgt := 39) dX0_answerCharges_29 (by decide) (fun c15 => ?_) (fun c15 => ?_)
        · rw [if_neg c15] at h
          refine v_iinc C (pc := 39) (i := 3) (w := 1) (lv' := [some (va_rf (some o)), some (.int a1), some (.int a2), some (.int (a3 + 1))]) dX0_answerCharges_39 rfl (by decide) rfl ?_
          refine v_goto C (pc := 42) (tgt := 2) dX0_answerCharges_42 (by decide) ?_
          exact ih _ _ h
        · rw [if_pos c15] at h
          refine v_aload_n C (pc := 32) (i := 0) dX0_answerCharges_32 rfl ?_
          obtain ⟨x16, e16, h⟩ := h
          refine v_getR C (pc := 33) (ci := 0) 13 iwX0_answerCharges_X0 rfl (by decide) flX0_answerCharges_15 e16 dX0_answerCharges_33 ?_
          refine v_iload_n C (pc := 36) (i := 3) dX0_answerCharges_36 rfl ?_
          refine v_iload_n C (pc := 37) (i := 2) dX0_answerCharges_37 rfl ?_
          obtain ⟨M17, e17, h⟩ := h
          refine v_iast F (pc := 38) e17 dX0_answerCharges_38 ?_
          refine v_iinc C (pc := 39) (i := 3) (w := 1) (lv' := [some (va_rf (some o)), some (.int a1), some (.int a2), some (.int (a3 + 1))]) dX0_answerCharges_39 rfl (by decide) rfl ?_
          refine v_goto C (pc := 42) (tgt := 2) dX0_answerCharges_42 (by decide) ?_
          exact ih _ _ h
def wX0_answerCharges (M : hM) (o : Nat) (a1 : Int32) (a2 : Int32) (Q : hM → Prop) : Prop :=
  lX0_answerCharges_2 o Q a1 a2 1000 M 0
set_option maxRecDepth 100000 in
set_option maxHeartbeats 4000000 in
theorem cX0_answerCharges_met (l : Launch) (hfl : l.stackTraces = false) (G : hG) (M : hM) {o : Nat} {a1 : Int32} {a2 : Int32} {Q : hM → Prop} (h : wX0_answerCharges M o a1 a2 Q) : hEMet l yX0_answerCharges wsX0_answerCharges rmX0_answerCharges [.ref o, .int a1, .int a2] G M (hQv Q) (fun _ _ => False) 0 0 := by
  refine he_entry (own := RX0) (cc := cX0_answerCharges) (maxL := 4) (ret := none) (lv := [some (va_rf (some o)), some (.int a1), some (.int a2), none]) hfl (by decide) rfl rfl (hcc rfl (hcc rfl (hcc rfl hc0))) (Nat.le_of_ble_eq_true rfl) rfl (fun κ sz hG hl hR E ht hn => ?_)
  subst hG; subst hl
  unfold wX0_answerCharges at h
  have F := E.1
  have C := F.1
  refine v_iconst C (pc := 0) (v := 0) dX0_answerCharges_0 (by decide) ?_
  refine v_istore_n C (pc := 1) (i := 3) (lv' := [some (va_rf (some o)), some (.int a1), some (.int a2), some (.int 0)]) dX0_answerCharges_1 rfl (lw_bi (j := 2) rfl) rfl ?_
  exact tlX0_answerCharges_2 E hR ht  1000 _ _ h
/-! X1_init -/
abbrev rmX1_init : Room := { frames := 1, cells := 1, slots := 8, locals := 22 }
theorem iwX1_init_X1 : ∀ w ∈ u_ws RX1 TX1 5, w ∈ wsX1_init := fun _ h => List.mem_cons_of_mem _ (List.mem_append_right _ (h))
theorem flX1_init_11 : Cond.fieldLink RX1 11 "Chargehouse$CaseFile" "rows" "[LChargehouse$Accused;" ∈ wsX1_init := List.mem_cons_of_mem _ (List.mem_append_left _ (List.mem_of_getElem? (i := 4) rfl))
theorem flX1_init_17 : Cond.fieldLink RX1 17 "Chargehouse$CaseFile" "number" "I" ∈ wsX1_init := List.mem_cons_of_mem _ (List.mem_append_left _ (List.mem_of_getElem? (i := 5) rfl))
theorem flX1_init_21 : Cond.fieldLink RX1 21 "Chargehouse$CaseFile" "event" "I" ∈ wsX1_init := List.mem_cons_of_mem _ (List.mem_append_left _ (List.mem_of_getElem? (i := 6) rfl))
theorem flX1_init_24 : Cond.fieldLink RX1 24 "Chargehouse$CaseFile" "accused" "I" ∈ wsX1_init := List.mem_cons_of_mem _ (List.mem_append_left _ (List.mem_of_getElem? (i := 7) rfl))
theorem flX1_init_27 : Cond.fieldLink RX1 27 "Chargehouse$CaseFile" "points" "I" ∈ wsX1_init := List.mem_cons_of_mem _ (List.mem_append_left _ (List.mem_of_getElem? (i := 8) rfl))
def wX1_init (M : hM) (o : Nat) (a1 : Int32) (a2 : Int32) (a3 : Int32) (a4 : Int32) (Q : hM → Prop) : Prop :=
  ∀ q1 : Nat, M q1 = none →
  ∃ M2, pV (hst M q1 (.inl (6, 8, .inr (.inr (.inr (.inr (fun _ => none))))))) 1 4 (some o) (va_rf (some q1)) = some M2 ∧
  ∃ M3, pV M2 1 0 (some o) (.int a1) = some M3 ∧
  ∃ M4, pV M3 1 1 (some o) (.int a2) = some M4 ∧
  ∃ M5, pV M4 1 2 (some o) (.int a3) = some M5 ∧
  ∃ M6, pV M5 1 3 (some o) (.int a4) = some M6 ∧
  Q M6
set_option maxRecDepth 100000 in
set_option maxHeartbeats 4000000 in
theorem cX1_init_met (l : Launch) (hfl : l.stackTraces = false) (G : hG) (M : hM) {o : Nat} {a1 : Int32} {a2 : Int32} {a3 : Int32} {a4 : Int32} {Q : hM → Prop} (h : wX1_init M o a1 a2 a3 a4 Q) : hEMet l yX1_init wsX1_init rmX1_init [.ref o, .int a1, .int a2, .int a3, .int a4] G M (hQv Q) (fun _ _ => False) 1 8 := by
  refine he_entry (own := RX1) (cc := cX1_init) (maxL := 5) (ret := none) (lv := [some (va_rf (some o)), some (.int a1), some (.int a2), some (.int a3), some (.int a4)]) hfl (by decide) rfl rfl (hcc rfl (hcc rfl (hcc rfl (hcc rfl (hcc rfl hc0))))) (Nat.le_of_ble_eq_true rfl) rfl (fun κ sz hG hl hR E ht hn => ?_)
  subst hG; subst hl
  have hn := hn rfl
  unfold wX1_init at h
  have F := E.1
  have C := F.1
  refine v_aload_n C (pc := 0) (i := 0) dX1_init_0 rfl ?_
  refine v_objInit C (pc := 1) (r := some o) rfl (List.mem_cons_of_mem _ (List.mem_append_left _ (List.mem_of_getElem? (i := 0) rfl))) (List.mem_cons_of_mem _ (List.mem_append_left _ (List.mem_of_getElem? (i := 1) rfl))) (List.mem_cons_of_mem _ (List.mem_append_left _ (List.mem_of_getElem? (i := 2) rfl))) (by rw [hR]; decide) (by rw [hR]; exact Nat.le_of_ble_eq_true rfl) dX1_init_1 ?_
  refine v_aload_n C (pc := 4) (i := 0) dX1_init_4 rfl ?_
  refine v_bipush C (pc := 5) (v := 8) dX1_init_5 (by decide) ?_
  refine v_anewa F (pc := 7) 6 (Cn := RX0) (N := 8) (List.mem_cons_of_mem _ (List.mem_append_left _ (List.mem_of_getElem? (i := 3) rfl))) (by decide) rfl (by decide) (by decide) (by decide) (by rw [hR]; decide) (by rw [hR]; decide) dX1_init_7 (fun q1 hqq1 => ?_)
  have h := h q1 hqq1
  obtain ⟨M2, e2, h⟩ := h
  refine v_putF F (pc := 10) (ci := 1) (ty := tyX1 4) 4 iwX1_init_X1 tyX1 tyX1_ok nmX1 rfl (by decide) flX1_init_11 rfl hn rfl rfl (nar_refA _ _) (fit_refA _ _) e2 dX1_init_10 ?_
  refine v_aload_n C (pc := 13) (i := 0) dX1_init_13 rfl ?_
  refine v_iload_n C (pc := 14) (i := 1) dX1_init_14 rfl ?_
  obtain ⟨M3, e3, h⟩ := h
  refine v_putF F (pc := 15) (ci := 1) (ty := .int) 0 iwX1_init_X1 tyX1 tyX1_ok nmX1 rfl (by decide) flX1_init_17 rfl hn rfl rfl (nar_int _) (fit_int _) e3 dX1_init_15 ?_
  refine v_aload_n C (pc := 18) (i := 0) dX1_init_18 rfl ?_
  refine v_iload_n C (pc := 19) (i := 2) dX1_init_19 rfl ?_
  obtain ⟨M4, e4, h⟩ := h
  refine v_putF F (pc := 20) (ci := 1) (ty := .int) 1 iwX1_init_X1 tyX1 tyX1_ok nmX1 rfl (by decide) flX1_init_21 rfl hn rfl rfl (nar_int _) (fit_int _) e4 dX1_init_20 ?_
  refine v_aload_n C (pc := 23) (i := 0) dX1_init_23 rfl ?_
  refine v_iload_n C (pc := 24) (i := 3) dX1_init_24 rfl ?_
  obtain ⟨M5, e5, h⟩ := h
  refine v_putF F (pc := 25) (ci := 1) (ty := .int) 2 iwX1_init_X1 tyX1 tyX1_ok nmX1 rfl (by decide) flX1_init_24 rfl hn rfl rfl (nar_int _) (fit_int _) e5 dX1_init_25 ?_
  refine v_aload_n C (pc := 28) (i := 0) dX1_init_28 rfl ?_
  refine v_iload C (pc := 29) (i := 4) dX1_init_29 rfl ?_
  obtain ⟨M6, e6, h⟩ := h
  refine v_putF F (pc := 31) (ci := 1) (ty := .int) 3 iwX1_init_X1 tyX1 tyX1_ok nmX1 rfl (by decide) flX1_init_27 rfl hn rfl rfl (nar_int _) (fit_int _) e6 dX1_init_31 ?_
  exact v_eretV (pc := 34) E rfl ⟨rfl, h⟩ (by decide) (by decide) dX1_init_34
/-! X1_passInCustody -/
abbrev rmX1_passInCustody : Room := { frames := 4, cells := 0, slots := 0, locals := 84 }
theorem iwX1_passInCustody_X0 : ∀ w ∈ u_ws RX0 TX0 14, w ∈ wsX1_passInCustody := fun _ h => List.mem_cons_of_mem _ (List.mem_append_right _ (h))
theorem iwX1_passInCustody_X1 : ∀ w ∈ u_ws RX1 TX1 5, w ∈ wsX1_passInCustody := fun _ h => List.mem_cons_of_mem _ (List.mem_append_left _ (List.mem_append_right _ (h)))
theorem flX1_passInCustody_11 : Cond.fieldLink RX1 11 "Chargehouse$CaseFile" "rows" "[LChargehouse$Accused;" ∈ wsX1_passInCustody := List.mem_cons_of_mem _ (List.mem_append_left _ (List.mem_append_left _ (List.mem_append_left _ (List.mem_of_getElem? (i := 0) rfl))))
theorem flX1_passInCustody_30 : Cond.fieldLink RX1 30 "Chargehouse$Accused" "isInCustody" "Z" ∈ wsX1_passInCustody := List.mem_cons_of_mem _ (List.mem_append_left _ (List.mem_append_left _ (List.mem_append_left _ (List.mem_of_getElem? (i := 1) rfl))))
def lX1_passInCustody_14 (o : Nat) (Q : hM → Int32 → Prop) (a1 : Int32) (a3 : Option Nat) (a4 : Int32) : Nat → hM → Int32 → Int32 → Prop
  | 0, _, _ , _ => False
  | n + 1, M, a2, a5 =>
    if (a4 : Int32) ≤ a5 then (
      Q M a2
    ) else (
      ∃ x4, aR M 6 a3 a5 = some x4 ∧
      if x4 = none then (
        (lX1_passInCustody_14 o Q a1 a3 a4 n) M a2 (a5 + 1)
      ) else (
        ∃ x6, gI M 0 7 x4 = some x6 ∧
        if (x6 : Int32) = 0 then (
          (lX1_passInCustody_14 o Q a1 a3 a4 n) M a2 (a5 + 1)
        ) else (
          ∃ y9, hC M 0 x4 = some y9 ∧
          wX0_isReleasedAfter M y9 a1 (fun M10 x8 =>
          if (x8 : Int32) = 0 then (
            (lX1_passInCustody_14 o Q a1 a3 a4 n) M10 a2 (a5 + 1)
          ) else (
            (lX1_passInCustody_14 o Q a1 a3 a4 n) M10 (a2 + 1) (a5 + 1)
          ))
        )
      )
    )
set_option maxRecDepth 100000 in
set_option maxHeartbeats 4000000 in
theorem tlX1_passInCustody_14 {κ : hKx} {M0 : hM} {sz : Nat} {o : Nat} {Q : hM → Int32 → Prop} (E : Ce κ RX1 cX1_passInCustody wsX1_passInCustody (some .int) M0 sz (hQi Q) (fun _ _ => False) 0 0) (hR : kR κ = rmX1_passInCustody) (ht : ∀ x ∈ (kc κ).exceptionTable.toList, False)  {a1 : Int32} {a3 : Option Nat} {a4 : Int32}  : ∀ (n : Nat) (M : hM) (a2 : Int32) (a5 : Int32), lX1_passInCustody_14 o Q a1 a3 a4 n M a2 a5 → VW κ 0 0 M 14 [none, some (.int a1), some (.int a2), some (va_rf a3), some (.int a4), some (.int a5), none] [] := by
  have F := E.1
  have C := F.1
  intro n
  induction n with
  | zero =>
    intro M a2 a5 h
    unfold lX1_passInCustody_14 at h
    exact h.elim
  | succ n ih =>
    intro M a2 a5 h
    unfold lX1_passInCustody_14 at h
    refine v_iload C (pc := 14) (i := 5) dX1_passInCustody_14 rfl ?_
    refine v_iload C (pc := 16) (i := 4) dX1_passInCustody_16 rfl ?_
    refine v_icmp_ge C (pc := 18) (tgt := 58) dX1_passInCustody_18 (by decide) (fun c3 => ?_) (fun c3 => ?_)
    · rw [if_pos c3] at h
      refine v_iload_n C (pc := 58) (i := 2) dX1_passInCustody_58 rfl ?_
      exact v_eret (pc := 59) E rfl (nar_int _) ⟨_, rfl, h⟩ (by decide) (by decide) dX1_passInCustody_59
    · rw [if_neg c3] at h
      refine v_aload_n C (pc := 21) (i := 3) dX1_passInCustody_21 rfl ?_
      refine v_iload C (pc := 22) (i := 5) dX1_passInCustody_22 rfl ?_
      obtain ⟨x4, e4, h⟩ := h
      refine v_aald C (pc := 24) 6 rfl e4 dX1_passInCustody_24 ?_
      refine v_astore C (pc := 25) (i := 6) (lv' := [none, some (.int a1), some (.int a2), some (va_rf a3), some (.int a4), some (.int a5), some (va_rf x4)]) dX1_passInCustody_25 rfl (lw_bi (j := 5) rfl) rfl ?_
      refine v_aload C (pc := 27) (i := 6) dX1_passInCustody_27 rfl ?_
      refine v_ifnull C (pc := 29) (tgt := 52) dX1_passInCustody_29 (by decide) (fun c5 => ?_) (fun c5 => ?_)
      · rw [if_pos c5] at h
        refine v_iinc C (pc := 52) (i := 5) (w := 1) (lv' := [none, some (.int a1), some (.int a2), some (va_rf a3), some (.int a4), some (.int (a5 + 1)), some (va_rf x4)]) dX1_passInCustody_52 rfl (by decide) rfl ?_
        refine v_goto C (pc := 55) (tgt := 14) dX1_passInCustody_55 (by decide) ?_
        refine v_mask (lv' := [none, some (.int a1), some (.int a2), some (va_rf a3), some (.int a4), some (.int (a5 + 1)), none]) [false, true, true, true, true, true, false] rfl rfl ?_
        exact ih _ _ _ h
      · rw [if_neg c5] at h
        refine v_aload C (pc := 32) (i := 6) dX1_passInCustody_32 rfl ?_
        obtain ⟨x6, e6, h⟩ := h
        refine v_getI C (pc := 34) (ci := 0) 7 iwX1_passInCustody_X0 rfl (by decide) flX1_passInCustody_30 e6 dX1_passInCustody_34 ?_
        refine v_if_eq C (pc := 37) (tgt := 52) dX1_passInCustody_37 (by decide) (fun c7 => ?_) (fun c7 => ?_)
        · rw [if_pos c7] at h
          refine v_iinc C (pc := 52) (i := 5) (w := 1) (lv' := [none, some (.int a1), some (.int a2), some (va_rf a3), some (.int a4), some (.int (a5 + 1)), some (va_rf x4)]) dX1_passInCustody_52 rfl (by decide) rfl ?_
          refine v_goto C (pc := 55) (tgt := 14) dX1_passInCustody_55 (by decide) ?_
          refine v_mask (lv' := [none, some (.int a1), some (.int a2), some (va_rf a3), some (.int a4), some (.int (a5 + 1)), none]) [false, true, true, true, true, true, false] rfl rfl ?_
          exact ih _ _ _ h
        · rw [if_neg c7] at h
          refine v_aload C (pc := 40) (i := 6) dX1_passInCustody_40 rfl ?_
          refine v_iload_n C (pc := 42) (i := 1) dX1_passInCustody_42 rfl ?_
          obtain ⟨y9, hy9, hh⟩ := h
          skip
          obtain ⟨rfl, fsy9, hfy9⟩ := hC_inv hy9
          have h := hh
          clear hh
          refine v_nV F (pc := 43) (ci := 0) [.int a1] 1 (cX0_isReleasedAfter_met (kl κ) F.2.2.2.1 (kG κ) _ h) hfy9 rfl gX1_passInCustody_X0_isReleasedAfter rfl hdX0_isReleasedAfter rfl rfl rfl (by rw [hR]; exact ⟨Nat.le_of_ble_eq_true rfl, Nat.le_of_ble_eq_true rfl⟩) (by rw [hR]; decide) (Nat.le_of_ble_eq_true rfl) rfl dX1_passInCustody_43 (hk_i fun M10 x8 h => ?_)
          refine v_if_eq C (pc := 46) (tgt := 52) dX1_passInCustody_46 (by decide) (fun c11 => ?_) (fun c11 => ?_)
          · rw [if_pos c11] at h
            refine v_iinc C (pc := 52) (i := 5) (w := 1) (lv' := [none, some (.int a1), some (.int a2), some (va_rf a3), some (.int a4), some (.int (a5 + 1)), some (va_rf (some y9))]) dX1_passInCustody_52 rfl (by decide) rfl ?_
            refine v_goto C (pc := 55) (tgt := 14) dX1_passInCustody_55 (by decide) ?_
            refine v_mask (lv' := [none, some (.int a1), some (.int a2), some (va_rf a3), some (.int a4), some (.int (a5 + 1)), none]) [false, true, true, true, true, true, false] rfl rfl ?_
            exact ih _ _ _ h
          · rw [if_neg c11] at h
            refine v_iinc C (pc := 49) (i := 2) (w := 1) (lv' := [none, some (.int a1), some (.int (a2 + 1)), some (va_rf a3), some (.int a4), some (.int a5), some (va_rf (some y9))]) dX1_passInCustody_49 rfl (by decide) rfl ?_
            refine v_iinc C (pc := 52) (i := 5) (w := 1) (lv' := [none, some (.int a1), some (.int (a2 + 1)), some (va_rf a3), some (.int a4), some (.int (a5 + 1)), some (va_rf (some y9))]) dX1_passInCustody_52 rfl (by decide) rfl ?_
            refine v_goto C (pc := 55) (tgt := 14) dX1_passInCustody_55 (by decide) ?_
            refine v_mask (lv' := [none, some (.int a1), some (.int (a2 + 1)), some (va_rf a3), some (.int a4), some (.int (a5 + 1)), none]) [false, true, true, true, true, true, false] rfl rfl ?_
            exact ih _ _ _ h
def wX1_passInCustody (M : hM) (o : Nat) (a1 : Int32) (Q : hM → Int32 → Prop) : Prop :=
  ∃ x1, gR M 1 4 (some o) = some x1 ∧
  ∃ x2, aL M 6 x1 = some x2 ∧
  lX1_passInCustody_14 o Q a1 x1 x2 1000 M 0 0
set_option maxRecDepth 100000 in
set_option maxHeartbeats 4000000 in
theorem cX1_passInCustody_met (l : Launch) (hfl : l.stackTraces = false) (G : hG) (M : hM) {o : Nat} {a1 : Int32} {Q : hM → Int32 → Prop} (h : wX1_passInCustody M o a1 Q) : hEMet l yX1_passInCustody wsX1_passInCustody rmX1_passInCustody [.ref o, .int a1] G M (hQi Q) (fun _ _ => False) 0 0 := by
  refine he_entry (own := RX1) (cc := cX1_passInCustody) (maxL := 7) (ret := (some .int)) (lv := [some (va_rf (some o)), some (.int a1), none, none, none, none, none]) hfl (by decide) rfl rfl (hcc rfl (hcc rfl hc0)) (Nat.le_of_ble_eq_true rfl) rfl (fun κ sz hG hl hR E ht hn => ?_)
  subst hG; subst hl
  unfold wX1_passInCustody at h
  have F := E.1
  have C := F.1
  refine v_iconst C (pc := 0) (v := 0) dX1_passInCustody_0 (by decide) ?_
  refine v_istore_n C (pc := 1) (i := 2) (lv' := [some (va_rf (some o)), some (.int a1), some (.int 0), none, none, none, none]) dX1_passInCustody_1 rfl (lw_bi (j := 1) rfl) rfl ?_
  refine v_aload_n C (pc := 2) (i := 0) dX1_passInCustody_2 rfl ?_
  obtain ⟨x1, e1, h⟩ := h
  refine v_getR C (pc := 3) (ci := 1) 4 iwX1_passInCustody_X1 rfl (by decide) flX1_passInCustody_11 e1 dX1_passInCustody_3 ?_
  refine v_astore_n C (pc := 6) (i := 3) (lv' := [some (va_rf (some o)), some (.int a1), some (.int 0), some (va_rf x1), none, none, none]) dX1_passInCustody_6 rfl (lw_bi (j := 2) rfl) rfl ?_
  refine v_aload_n C (pc := 7) (i := 3) dX1_passInCustody_7 rfl ?_
  obtain ⟨x2, e2, h⟩ := h
  refine v_alen C (pc := 8) 6 rfl e2 dX1_passInCustody_8 ?_
  refine v_istore C (pc := 9) (i := 4) (lv' := [some (va_rf (some o)), some (.int a1), some (.int 0), some (va_rf x1), some (.int x2), none, none]) dX1_passInCustody_9 rfl (lw_br (j := 3) rfl) rfl ?_
  refine v_iconst C (pc := 11) (v := 0) dX1_passInCustody_11 (by decide) ?_
  refine v_istore C (pc := 12) (i := 5) (lv' := [some (va_rf (some o)), some (.int a1), some (.int 0), some (va_rf x1), some (.int x2), some (.int 0), none]) dX1_passInCustody_12 rfl (lw_bi (j := 4) rfl) rfl ?_
  refine v_mask (lv' := [none, some (.int a1), some (.int 0), some (va_rf x1), some (.int x2), some (.int 0), none]) [false, true, true, true, true, true, false] rfl rfl ?_
  exact tlX1_passInCustody_14 E hR ht  1000 _ _ _ h
/-! X2_init -/
abbrev rmX2_init : Room := { frames := 1, cells := 0, slots := 0, locals := 22 }
theorem iwX2_init_X2 : ∀ w ∈ u_ws RX2 TX2 10, w ∈ wsX2_init := fun _ h => List.mem_cons_of_mem _ (List.mem_append_right _ (h))
theorem flX2_init_15 : Cond.fieldLink RX2 15 "Chargehouse$Item" "file" "I" ∈ wsX2_init := List.mem_cons_of_mem _ (List.mem_append_left _ (List.mem_of_getElem? (i := 4) rfl))
theorem flX2_init_18 : Cond.fieldLink RX2 18 "Chargehouse$Item" "element" "I" ∈ wsX2_init := List.mem_cons_of_mem _ (List.mem_append_left _ (List.mem_of_getElem? (i := 5) rfl))
theorem flX2_init_21 : Cond.fieldLink RX2 21 "Chargehouse$Item" "weight" "I" ∈ wsX2_init := List.mem_cons_of_mem _ (List.mem_append_left _ (List.mem_of_getElem? (i := 6) rfl))
theorem flX2_init_24 : Cond.fieldLink RX2 24 "Chargehouse$Item" "against" "I" ∈ wsX2_init := List.mem_cons_of_mem _ (List.mem_append_left _ (List.mem_of_getElem? (i := 7) rfl))
theorem flX2_init_27 : Cond.fieldLink RX2 27 "Chargehouse$Item" "how" "I" ∈ wsX2_init := List.mem_cons_of_mem _ (List.mem_append_left _ (List.mem_of_getElem? (i := 8) rfl))
theorem flX2_init_30 : Cond.fieldLink RX2 30 "Chargehouse$Item" "isSensitive" "Z" ∈ wsX2_init := List.mem_cons_of_mem _ (List.mem_append_left _ (List.mem_of_getElem? (i := 9) rfl))
theorem flX2_init_34 : Cond.fieldLink RX2 34 "Chargehouse$Item" "cameOn" "I" ∈ wsX2_init := List.mem_cons_of_mem _ (List.mem_append_left _ (List.mem_of_getElem? (i := 10) rfl))
theorem flX2_init_9 : Cond.fieldLink RX2 9 "Chargehouse$Item" "admittedOn" "I" ∈ wsX2_init := List.mem_cons_of_mem _ (List.mem_append_left _ (List.mem_of_getElem? (i := 3) rfl))
def wX2_init (M : hM) (o : Nat) (a1 : Int32) (a2 : Int32) (a3 : Int32) (a4 : Int32) (a5 : Int32) (a6 : Int32) (a7 : Int32) (Q : hM → Prop) : Prop :=
  ∃ M1, pV M 2 7 (some o) (.int (-1)) = some M1 ∧
  ∃ M2, pV M1 2 0 (some o) (.int a1) = some M2 ∧
  ∃ M3, pV M2 2 1 (some o) (.int a2) = some M3 ∧
  ∃ M4, pV M3 2 2 (some o) (.int a3) = some M4 ∧
  ∃ M5, pV M4 2 3 (some o) (.int a4) = some M5 ∧
  ∃ M6, pV M5 2 4 (some o) (.int a5) = some M6 ∧
  ∃ M7, pZ M6 2 5 (some o) a6 = some M7 ∧
  ∃ M8, pV M7 2 6 (some o) (.int a7) = some M8 ∧
  Q M8
set_option maxRecDepth 100000 in
set_option maxHeartbeats 4000000 in
theorem cX2_init_met (l : Launch) (hfl : l.stackTraces = false) (G : hG) (M : hM) {o : Nat} {a1 : Int32} {a2 : Int32} {a3 : Int32} {a4 : Int32} {a5 : Int32} {a6 : Int32} {a7 : Int32} {Q : hM → Prop} (h : wX2_init M o a1 a2 a3 a4 a5 a6 a7 Q) : hEMet l yX2_init wsX2_init rmX2_init [.ref o, .int a1, .int a2, .int a3, .int a4, .int a5, .int a6, .int a7] G M (hQv Q) (fun _ _ => False) 0 0 := by
  refine he_entry (own := RX2) (cc := cX2_init) (maxL := 8) (ret := none) (lv := [some (va_rf (some o)), some (.int a1), some (.int a2), some (.int a3), some (.int a4), some (.int a5), some (.int a6), some (.int a7)]) hfl (by decide) rfl rfl (hcc rfl (hcc rfl (hcc rfl (hcc rfl (hcc rfl (hcc rfl (hcc rfl (hcc rfl hc0)))))))) (Nat.le_of_ble_eq_true rfl) rfl (fun κ sz hG hl hR E ht hn => ?_)
  subst hG; subst hl
  have hn := hn rfl
  unfold wX2_init at h
  have F := E.1
  have C := F.1
  refine v_aload_n C (pc := 0) (i := 0) dX2_init_0 rfl ?_
  refine v_objInit C (pc := 1) (r := some o) rfl (List.mem_cons_of_mem _ (List.mem_append_left _ (List.mem_of_getElem? (i := 0) rfl))) (List.mem_cons_of_mem _ (List.mem_append_left _ (List.mem_of_getElem? (i := 1) rfl))) (List.mem_cons_of_mem _ (List.mem_append_left _ (List.mem_of_getElem? (i := 2) rfl))) (by rw [hR]; decide) (by rw [hR]; exact Nat.le_of_ble_eq_true rfl) dX2_init_1 ?_
  refine v_aload_n C (pc := 4) (i := 0) dX2_init_4 rfl ?_
  refine v_iconst C (pc := 5) (v := (-1)) dX2_init_5 (by decide) ?_
  obtain ⟨M1, e1, h⟩ := h
  refine v_put F (pc := 6) (ci := 2) (ty := .int) 7 iwX2_init_X2 tyX2 tyX2_ok nmX2 rfl (by decide) flX2_init_9 rfl rfl (nar_int _) (fit_int _) e1 dX2_init_6 ?_
  refine v_aload_n C (pc := 9) (i := 0) dX2_init_9 rfl ?_
  refine v_iload_n C (pc := 10) (i := 1) dX2_init_10 rfl ?_
  obtain ⟨M2, e2, h⟩ := h
  refine v_putF F (pc := 11) (ci := 2) (ty := .int) 0 iwX2_init_X2 tyX2 tyX2_ok nmX2 rfl (by decide) flX2_init_15 rfl hn rfl rfl (nar_int _) (fit_int _) e2 dX2_init_11 ?_
  refine v_aload_n C (pc := 14) (i := 0) dX2_init_14 rfl ?_
  refine v_iload_n C (pc := 15) (i := 2) dX2_init_15 rfl ?_
  obtain ⟨M3, e3, h⟩ := h
  refine v_putF F (pc := 16) (ci := 2) (ty := .int) 1 iwX2_init_X2 tyX2 tyX2_ok nmX2 rfl (by decide) flX2_init_18 rfl hn rfl rfl (nar_int _) (fit_int _) e3 dX2_init_16 ?_
  refine v_aload_n C (pc := 19) (i := 0) dX2_init_19 rfl ?_
  refine v_iload_n C (pc := 20) (i := 3) dX2_init_20 rfl ?_
  obtain ⟨M4, e4, h⟩ := h
  refine v_putF F (pc := 21) (ci := 2) (ty := .int) 2 iwX2_init_X2 tyX2 tyX2_ok nmX2 rfl (by decide) flX2_init_21 rfl hn rfl rfl (nar_int _) (fit_int _) e4 dX2_init_21 ?_
  refine v_aload_n C (pc := 24) (i := 0) dX2_init_24 rfl ?_
  refine v_iload C (pc := 25) (i := 4) dX2_init_25 rfl ?_
  obtain ⟨M5, e5, h⟩ := h
  refine v_putF F (pc := 27) (ci := 2) (ty := .int) 3 iwX2_init_X2 tyX2 tyX2_ok nmX2 rfl (by decide) flX2_init_24 rfl hn rfl rfl (nar_int _) (fit_int _) e5 dX2_init_27 ?_
  refine v_aload_n C (pc := 30) (i := 0) dX2_init_30 rfl ?_
  refine v_iload C (pc := 31) (i := 5) dX2_init_31 rfl ?_
  obtain ⟨M6, e6, h⟩ := h
  refine v_putF F (pc := 33) (ci := 2) (ty := .int) 4 iwX2_init_X2 tyX2 tyX2_ok nmX2 rfl (by decide) flX2_init_27 rfl hn rfl rfl (nar_int _) (fit_int _) e6 dX2_init_33 ?_
  refine v_aload_n C (pc := 36) (i := 0) dX2_init_36 rfl ?_
  refine v_iload C (pc := 37) (i := 6) dX2_init_37 rfl ?_
  obtain ⟨M7, e7, h⟩ := h
  obtain ⟨hbe7, e7⟩ := pZ_inv e7
  refine v_putF F (pc := 39) (ci := 2) (ty := .boolean) 5 iwX2_init_X2 tyX2 tyX2_ok nmX2 rfl (by decide) flX2_init_30 rfl hn rfl rfl (nar_bool hbe7) (fit_bool hbe7) e7 dX2_init_39 ?_
  refine v_aload_n C (pc := 42) (i := 0) dX2_init_42 rfl ?_
  refine v_iload C (pc := 43) (i := 7) dX2_init_43 rfl ?_
  obtain ⟨M8, e8, h⟩ := h
  refine v_putF F (pc := 45) (ci := 2) (ty := .int) 6 iwX2_init_X2 tyX2 tyX2_ok nmX2 rfl (by decide) flX2_init_34 rfl hn rfl rfl (nar_int _) (fit_int _) e8 dX2_init_45 ?_
  exact v_eretV (pc := 48) E rfl ⟨rfl, h⟩ (by decide) (by decide) dX2_init_48
/-! X3_init -/
abbrev rmX3_init : Room := { frames := 1, cells := 0, slots := 0, locals := 22 }
theorem iwX3_init_X3 : ∀ w ∈ u_ws RX3 TX3 4, w ∈ wsX3_init := fun _ h => List.mem_cons_of_mem _ (List.mem_append_right _ (h))
theorem flX3_init_13 : Cond.fieldLink RX3 13 "Chargehouse$Offence" "gravity" "I" ∈ wsX3_init := List.mem_cons_of_mem _ (List.mem_append_left _ (List.mem_of_getElem? (i := 4) rfl))
theorem flX3_init_16 : Cond.fieldLink RX3 16 "Chargehouse$Offence" "limit" "I" ∈ wsX3_init := List.mem_cons_of_mem _ (List.mem_append_left _ (List.mem_of_getElem? (i := 5) rfl))
theorem flX3_init_7 : Cond.fieldLink RX3 7 "Chargehouse$Offence" "elements" "I" ∈ wsX3_init := List.mem_cons_of_mem _ (List.mem_append_left _ (List.mem_of_getElem? (i := 3) rfl))
def wX3_init (M : hM) (o : Nat) (a1 : Int32) (a2 : Int32) (a3 : Int32) (Q : hM → Prop) : Prop :=
  ∃ M1, pV M 3 0 (some o) (.int a1) = some M1 ∧
  ∃ M2, pV M1 3 1 (some o) (.int a2) = some M2 ∧
  ∃ M3, pV M2 3 2 (some o) (.int a3) = some M3 ∧
  Q M3
set_option maxRecDepth 100000 in
set_option maxHeartbeats 4000000 in
theorem cX3_init_met (l : Launch) (hfl : l.stackTraces = false) (G : hG) (M : hM) {o : Nat} {a1 : Int32} {a2 : Int32} {a3 : Int32} {Q : hM → Prop} (h : wX3_init M o a1 a2 a3 Q) : hEMet l yX3_init wsX3_init rmX3_init [.ref o, .int a1, .int a2, .int a3] G M (hQv Q) (fun _ _ => False) 0 0 := by
  refine he_entry (own := RX3) (cc := cX3_init) (maxL := 4) (ret := none) (lv := [some (va_rf (some o)), some (.int a1), some (.int a2), some (.int a3)]) hfl (by decide) rfl rfl (hcc rfl (hcc rfl (hcc rfl (hcc rfl hc0)))) (Nat.le_of_ble_eq_true rfl) rfl (fun κ sz hG hl hR E ht hn => ?_)
  subst hG; subst hl
  have hn := hn rfl
  unfold wX3_init at h
  have F := E.1
  have C := F.1
  refine v_aload_n C (pc := 0) (i := 0) dX3_init_0 rfl ?_
  refine v_objInit C (pc := 1) (r := some o) rfl (List.mem_cons_of_mem _ (List.mem_append_left _ (List.mem_of_getElem? (i := 0) rfl))) (List.mem_cons_of_mem _ (List.mem_append_left _ (List.mem_of_getElem? (i := 1) rfl))) (List.mem_cons_of_mem _ (List.mem_append_left _ (List.mem_of_getElem? (i := 2) rfl))) (by rw [hR]; decide) (by rw [hR]; exact Nat.le_of_ble_eq_true rfl) dX3_init_1 ?_
  refine v_aload_n C (pc := 4) (i := 0) dX3_init_4 rfl ?_
  refine v_iload_n C (pc := 5) (i := 1) dX3_init_5 rfl ?_
  obtain ⟨M1, e1, h⟩ := h
  refine v_putF F (pc := 6) (ci := 3) (ty := .int) 0 iwX3_init_X3 tyX3 tyX3_ok nmX3 rfl (by decide) flX3_init_7 rfl hn rfl rfl (nar_int _) (fit_int _) e1 dX3_init_6 ?_
  refine v_aload_n C (pc := 9) (i := 0) dX3_init_9 rfl ?_
  refine v_iload_n C (pc := 10) (i := 2) dX3_init_10 rfl ?_
  obtain ⟨M2, e2, h⟩ := h
  refine v_putF F (pc := 11) (ci := 3) (ty := .int) 1 iwX3_init_X3 tyX3 tyX3_ok nmX3 rfl (by decide) flX3_init_13 rfl hn rfl rfl (nar_int _) (fit_int _) e2 dX3_init_11 ?_
  refine v_aload_n C (pc := 14) (i := 0) dX3_init_14 rfl ?_
  refine v_iload_n C (pc := 15) (i := 3) dX3_init_15 rfl ?_
  obtain ⟨M3, e3, h⟩ := h
  refine v_putF F (pc := 16) (ci := 3) (ty := .int) 2 iwX3_init_X3 tyX3 tyX3_ok nmX3 rfl (by decide) flX3_init_16 rfl hn rfl rfl (nar_int _) (fit_int _) e3 dX3_init_16 ?_
  exact v_eretV (pc := 19) E rfl ⟨rfl, h⟩ (by decide) (by decide) dX3_init_19
/-! X4_init -/
abbrev rmX4_init : Room := { frames := 1, cells := 3, slots := 54, locals := 22 }
theorem iwX4_init_X4 : ∀ w ∈ u_ws RX4 TX4 13, w ∈ wsX4_init := fun _ h => List.mem_cons_of_mem _ (List.mem_append_right _ (h))
theorem flX4_init_11 : Cond.fieldLink RX4 11 "Chargehouse" "offenceRows" "[LChargehouse$Offence;" ∈ wsX4_init := List.mem_cons_of_mem _ (List.mem_append_left _ (List.mem_of_getElem? (i := 4) rfl))
theorem flX4_init_17 : Cond.fieldLink RX4 17 "Chargehouse" "fileRows" "[LChargehouse$CaseFile;" ∈ wsX4_init := List.mem_cons_of_mem _ (List.mem_append_left _ (List.mem_of_getElem? (i := 6) rfl))
theorem flX4_init_23 : Cond.fieldLink RX4 23 "Chargehouse" "itemRows" "[LChargehouse$Item;" ∈ wsX4_init := List.mem_cons_of_mem _ (List.mem_append_left _ (List.mem_of_getElem? (i := 8) rfl))
def wX4_init (M : hM) (o : Nat)  (Q : hM → Prop) : Prop :=
  ∀ q1 : Nat, M q1 = none →
  ∃ M2, pV (hst M q1 (.inl (3, 8, .inr (.inr (.inr (.inr (fun _ => none))))))) 4 0 (some o) (va_rf (some q1)) = some M2 ∧
  ∀ q3 : Nat, M2 q3 = none →
  ∃ M4, pV (hst M2 q3 (.inl (4, 6, .inr (.inr (.inr (.inr (fun _ => none))))))) 4 1 (some o) (va_rf (some q3)) = some M4 ∧
  ∀ q5 : Nat, M4 q5 = none →
  ∃ M6, pV (hst M4 q5 (.inl (5, 40, .inr (.inr (.inr (.inr (fun _ => none))))))) 4 2 (some o) (va_rf (some q5)) = some M6 ∧
  Q M6
set_option maxRecDepth 100000 in
set_option maxHeartbeats 4000000 in
theorem cX4_init_met (l : Launch) (hfl : l.stackTraces = false) (G : hG) (M : hM) {o : Nat}  {Q : hM → Prop} (h : wX4_init M o Q) : hEMet l yX4_init wsX4_init rmX4_init [.ref o] G M (hQv Q) (fun _ _ => False) 3 54 := by
  refine he_entry (own := RX4) (cc := cX4_init) (maxL := 1) (ret := none) (lv := [some (va_rf (some o))]) hfl (by decide) rfl rfl (hcc rfl hc0) (Nat.le_of_ble_eq_true rfl) rfl (fun κ sz hG hl hR E ht hn => ?_)
  subst hG; subst hl
  have hn := hn rfl
  unfold wX4_init at h
  have F := E.1
  have C := F.1
  refine v_aload_n C (pc := 0) (i := 0) dX4_init_0 rfl ?_
  refine v_objInit C (pc := 1) (r := some o) rfl (List.mem_cons_of_mem _ (List.mem_append_left _ (List.mem_of_getElem? (i := 0) rfl))) (List.mem_cons_of_mem _ (List.mem_append_left _ (List.mem_of_getElem? (i := 1) rfl))) (List.mem_cons_of_mem _ (List.mem_append_left _ (List.mem_of_getElem? (i := 2) rfl))) (by rw [hR]; decide) (by rw [hR]; exact Nat.le_of_ble_eq_true rfl) dX4_init_1 ?_
  refine v_aload_n C (pc := 4) (i := 0) dX4_init_4 rfl ?_
  refine v_bipush C (pc := 5) (v := 8) dX4_init_5 (by decide) ?_
  refine v_anewa F (pc := 7) 3 (Cn := RX3) (N := 8) (List.mem_cons_of_mem _ (List.mem_append_left _ (List.mem_of_getElem? (i := 3) rfl))) (by decide) rfl (by decide) (by decide) (by decide) (by rw [hR]; decide) (by rw [hR]; decide) dX4_init_7 (fun q1 hqq1 => ?_)
  have h := h q1 hqq1
  obtain ⟨M2, e2, h⟩ := h
  refine v_putF F (pc := 10) (ci := 4) (ty := tyX4 0) 0 iwX4_init_X4 tyX4 tyX4_ok nmX4 rfl (by decide) flX4_init_11 rfl hn rfl rfl (nar_refA _ _) (fit_refA _ _) e2 dX4_init_10 ?_
  refine v_aload_n C (pc := 13) (i := 0) dX4_init_13 rfl ?_
  refine v_bipush C (pc := 14) (v := 6) dX4_init_14 (by decide) ?_
  refine v_anewa F (pc := 16) 4 (Cn := RX1) (N := 6) (List.mem_cons_of_mem _ (List.mem_append_left _ (List.mem_of_getElem? (i := 5) rfl))) (by decide) rfl (by decide) (by decide) (by decide) (by rw [hR]; decide) (by rw [hR]; decide) dX4_init_16 (fun q3 hqq3 => ?_)
  have h := h q3 hqq3
  obtain ⟨M4, e4, h⟩ := h
  refine v_putF F (pc := 19) (ci := 4) (ty := tyX4 1) 1 iwX4_init_X4 tyX4 tyX4_ok nmX4 rfl (by decide) flX4_init_17 rfl hn rfl rfl (nar_refA _ _) (fit_refA _ _) e4 dX4_init_19 ?_
  refine v_aload_n C (pc := 22) (i := 0) dX4_init_22 rfl ?_
  refine v_bipush C (pc := 23) (v := 40) dX4_init_23 (by decide) ?_
  refine v_anewa F (pc := 25) 5 (Cn := RX2) (N := 40) (List.mem_cons_of_mem _ (List.mem_append_left _ (List.mem_of_getElem? (i := 7) rfl))) (by decide) rfl (by decide) (by decide) (by decide) (by rw [hR]; decide) (by rw [hR]; decide) dX4_init_25 (fun q5 hqq5 => ?_)
  have h := h q5 hqq5
  obtain ⟨M6, e6, h⟩ := h
  refine v_putF F (pc := 28) (ci := 4) (ty := tyX4 2) 2 iwX4_init_X4 tyX4 tyX4_ok nmX4 rfl (by decide) flX4_init_23 rfl hn rfl rfl (nar_refA _ _) (fit_refA _ _) e6 dX4_init_28 ?_
  exact v_eretV (pc := 31) E rfl ⟨rfl, h⟩ (by decide) (by decide) dX4_init_31
/-! X4_offence -/
abbrev rmX4_offence : Room := { frames := 6, cells := 1, slots := 6, locals := 90 }
theorem iwX4_offence_X3 : ∀ w ∈ u_ws RX3 TX3 4, w ∈ wsX4_offence := fun _ h => List.mem_cons_of_mem _ (List.mem_append_left _ (List.mem_append_left _ (List.mem_append_right _ (h))))
theorem iwX4_offence_X4 : ∀ w ∈ u_ws RX4 TX4 13, w ∈ wsX4_offence := fun _ h => List.mem_cons_of_mem _ (List.mem_append_left _ (List.mem_append_left _ (List.mem_append_left _ (List.mem_append_right _ (h)))))
theorem flX4_offence_11 : Cond.fieldLink RX4 11 "Chargehouse" "offenceRows" "[LChargehouse$Offence;" ∈ wsX4_offence := List.mem_cons_of_mem _ (List.mem_append_left _ (List.mem_append_left _ (List.mem_append_left _ (List.mem_append_left _ (List.mem_of_getElem? (i := 5) rfl)))))
theorem flX4_offence_38 : Cond.fieldLink RX4 38 "Chargehouse" "offenceCount" "I" ∈ wsX4_offence := List.mem_cons_of_mem _ (List.mem_append_left _ (List.mem_append_left _ (List.mem_append_left _ (List.mem_append_left _ (List.mem_of_getElem? (i := 4) rfl)))))
def wX4_offence (M : hM) (o : Nat) (a1 : Int32) (a2 : Int32) (a3 : Int32) (Q : hM → Int32 → Prop) (X : String → hM → Prop) : Prop :=
  ∃ x1, fX4_isWithin a1 1 1023 = some x1 ∧
  if (x1 : Int32) = 0 then (
    X "java/lang/IllegalArgumentException" M
  ) else (
    ∃ x3, fX4_isWithin a2 1 9 = some x3 ∧
    if (x3 : Int32) = 0 then (
      X "java/lang/IllegalArgumentException" M
    ) else (
      ∃ x5, fX4_isWithin a3 1 2000 = some x5 ∧
      if (x5 : Int32) = 0 then (
        X "java/lang/IllegalArgumentException" M
      ) else (
        ∃ x7, gI M 4 3 (some o) = some x7 ∧
        ∃ x8, gR M 4 0 (some o) = some x8 ∧
        ∃ x9, aL M 3 x8 = some x9 ∧
        if (x7 : Int32) < x9 then (
          ∃ x11, gR M 4 0 (some o) = some x11 ∧
          ∃ x12, gI M 4 3 (some o) = some x12 ∧
          ∀ q13 : Nat, M q13 = none →
          wX3_init (hst M q13 (.inr (3, [.int 0, .int 0, .int 0, .int 0]))) q13 a1 a2 a3 (fun M15 =>
          ∃ M16, sR M15 3 x11 x12 3 (some q13) = some M16 ∧
          ∃ x17, gI M16 4 3 (some o) = some x17 ∧
          ∃ M18, pV M16 4 3 (some o) (.int (x17 + 1)) = some M18 ∧
          ∃ x19, gI M18 4 3 (some o) = some x19 ∧
          Q M18 (x19 - 1))
        ) else (
          X "java/lang/IllegalStateException" M
        )
      )
    )
  )
set_option maxRecDepth 100000 in
set_option maxHeartbeats 4000000 in
theorem cX4_offence_met (l : Launch) (hfl : l.stackTraces = false) (G : hG) (M : hM) {o : Nat} {a1 : Int32} {a2 : Int32} {a3 : Int32} {Q : hM → Int32 → Prop} {X : String → hM → Prop} (h : wX4_offence M o a1 a2 a3 Q X) : hEMet l yX4_offence wsX4_offence rmX4_offence [.ref o, .int a1, .int a2, .int a3] G M (hQi Q) X 1 6 := by
  refine he_entry (own := RX4) (cc := cX4_offence) (maxL := 4) (ret := (some .int)) (lv := [some (va_rf (some o)), some (.int a1), some (.int a2), some (.int a3)]) hfl (by decide) rfl rfl (hcc rfl (hcc rfl (hcc rfl (hcc rfl hc0)))) (Nat.le_of_ble_eq_true rfl) rfl (fun κ sz hG hl hR E ht hn => ?_)
  subst hG; subst hl
  unfold wX4_offence at h
  have F := E.1
  have C := F.1
  refine v_iload_n C (pc := 0) (i := 1) dX4_offence_0 rfl ?_
  refine v_iconst C (pc := 1) (v := 1) dX4_offence_1 (by decide) ?_
  refine v_sipush C (pc := 2) (v := 1023) dX4_offence_2 (by decide) ?_
  obtain ⟨x1, e1, h⟩ := h
  refine v_pS C (pc := 5) [.int a1, .int 1, .int 1023] 3 (cX4_isWithin_met (kl κ) (kG κ) _ e1) gX4_offence_X4_isWithin rfl hdsX4_isWithin rfl rfl rfl (by rw [hR]; exact ⟨Nat.le_of_ble_eq_true rfl, Nat.le_of_ble_eq_true rfl⟩) (by rw [hR]; decide) (Nat.le_of_ble_eq_true rfl) rfl dX4_offence_5 ?_
  refine v_if_eq C (pc := 8) (tgt := 32) dX4_offence_8 (by decide) (fun c2 => ?_) (fun c2 => ?_)
  · rw [if_pos c2] at h
    exact v_throw E ht (cls := "java/lang/IllegalArgumentException") (text := "elements, gravity or limit is out of range") (is := 33) (ic := 35) rfl (by decide +kernel) (List.mem_cons_of_mem _ (List.mem_append_left _ (List.mem_append_left _ (List.mem_append_left _ (List.mem_append_left _ (List.mem_of_getElem? (i := 0) rfl)))))) (List.mem_cons_of_mem _ (List.mem_append_left _ (List.mem_append_left _ (List.mem_append_left _ (List.mem_append_left _ (List.mem_of_getElem? (i := 1) rfl)))))) (by decide +kernel) (fun _ h => List.mem_cons_of_mem _ (List.mem_append_left _ (List.mem_append_right _ (h)))) hnt_IAE hgood_IAE h (by rw [hR]; decide) (by rw [hR]; exact Nat.le_of_ble_eq_true rfl) (by rw [hR]; decide) (by rw [hR]; decide) (by decide) (by decide) dX4_offence_32 dX4_offence_35 dX4_offence_36 dX4_offence_38 dX4_offence_41
  · rw [if_neg c2] at h
    refine v_iload_n C (pc := 11) (i := 2) dX4_offence_11 rfl ?_
    refine v_iconst C (pc := 12) (v := 1) dX4_offence_12 (by decide) ?_
    refine v_bipush C (pc := 13) (v := 9) dX4_offence_13 (by decide) ?_
    obtain ⟨x3, e3, h⟩ := h
    refine v_pS C (pc := 15) [.int a2, .int 1, .int 9] 3 (cX4_isWithin_met (kl κ) (kG κ) _ e3) gX4_offence_X4_isWithin rfl hdsX4_isWithin rfl rfl rfl (by rw [hR]; exact ⟨Nat.le_of_ble_eq_true rfl, Nat.le_of_ble_eq_true rfl⟩) (by rw [hR]; decide) (Nat.le_of_ble_eq_true rfl) rfl dX4_offence_15 ?_
    refine v_if_eq C (pc := 18) (tgt := 32) dX4_offence_18 (by decide) (fun c4 => ?_) (fun c4 => ?_)
    · rw [if_pos c4] at h
      exact v_throw E ht (cls := "java/lang/IllegalArgumentException") (text := "elements, gravity or limit is out of range") (is := 33) (ic := 35) rfl (by decide +kernel) (List.mem_cons_of_mem _ (List.mem_append_left _ (List.mem_append_left _ (List.mem_append_left _ (List.mem_append_left _ (List.mem_of_getElem? (i := 0) rfl)))))) (List.mem_cons_of_mem _ (List.mem_append_left _ (List.mem_append_left _ (List.mem_append_left _ (List.mem_append_left _ (List.mem_of_getElem? (i := 1) rfl)))))) (by decide +kernel) (fun _ h => List.mem_cons_of_mem _ (List.mem_append_left _ (List.mem_append_right _ (h)))) hnt_IAE hgood_IAE h (by rw [hR]; decide) (by rw [hR]; exact Nat.le_of_ble_eq_true rfl) (by rw [hR]; decide) (by rw [hR]; decide) (by decide) (by decide) dX4_offence_32 dX4_offence_35 dX4_offence_36 dX4_offence_38 dX4_offence_41
    · rw [if_neg c4] at h
      refine v_iload_n C (pc := 21) (i := 3) dX4_offence_21 rfl ?_
      refine v_iconst C (pc := 22) (v := 1) dX4_offence_22 (by decide) ?_
      refine v_sipush C (pc := 23) (v := 2000) dX4_offence_23 (by decide) ?_
      obtain ⟨x5, e5, h⟩ := h
      refine v_pS C (pc := 26) [.int a3, .int 1, .int 2000] 3 (cX4_isWithin_met (kl κ) (kG κ) _ e5) gX4_offence_X4_isWithin rfl hdsX4_isWithin rfl rfl rfl (by rw [hR]; exact ⟨Nat.le_of_ble_eq_true rfl, Nat.le_of_ble_eq_true rfl⟩) (by rw [hR]; decide) (Nat.le_of_ble_eq_true rfl) rfl dX4_offence_26 ?_
      refine v_if_ne C (pc := 29) (tgt := 42) dX4_offence_29 (by decide) (fun c6 => ?_) (fun c6 => ?_)
      · rw [if_neg c6] at h
        refine v_aload_n C (pc := 42) (i := 0) dX4_offence_42 rfl ?_
        obtain ⟨x7, e7, h⟩ := h
        refine v_getI C (pc := 43) (ci := 4) 3 iwX4_offence_X4 rfl (by decide) flX4_offence_38 e7 dX4_offence_43 ?_
        refine v_aload_n C (pc := 46) (i := 0) dX4_offence_46 rfl ?_
        obtain ⟨x8, e8, h⟩ := h
        refine v_getR C (pc := 47) (ci := 4) 0 iwX4_offence_X4 rfl (by decide) flX4_offence_11 e8 dX4_offence_47 ?_
        obtain ⟨x9, e9, h⟩ := h
        refine v_alen C (pc := 50) 3 rfl e9 dX4_offence_50 ?_
        refine v_icmp_lt C (pc := 51) (tgt := 64) dX4_offence_51 (by decide) (fun c10 => ?_) (fun c10 => ?_)
        · rw [if_pos c10] at h
          refine v_aload_n C (pc := 64) (i := 0) dX4_offence_64 rfl ?_
          obtain ⟨x11, e11, h⟩ := h
          refine v_getR C (pc := 65) (ci := 4) 0 iwX4_offence_X4 rfl (by decide) flX4_offence_11 e11 dX4_offence_65 ?_
          refine v_aload_n C (pc := 68) (i := 0) dX4_offence_68 rfl ?_
          obtain ⟨x12, e12, h⟩ := h
          refine v_getI C (pc := 69) (ci := 4) 3 iwX4_offence_X4 rfl (by decide) flX4_offence_38 e12 dX4_offence_69 ?_
          refine v_new F (pc := 72) (ci := 3) (fs := [.int 0, .int 0, .int 0, .int 0]) iwX4_offence_X3 tyX3 tyX3_ok (List.mem_cons_of_mem _ (List.mem_append_left _ (List.mem_append_left _ (List.mem_append_left _ (List.mem_append_left _ (List.mem_of_getElem? (i := 6) rfl)))))) (List.mem_cons_of_mem _ (List.mem_append_left _ (List.mem_append_left _ (List.mem_append_left _ (List.mem_append_left _ (List.mem_of_getElem? (i := 7) rfl)))))) (List.mem_cons_of_mem _ (List.mem_append_left _ (List.mem_append_left _ (List.mem_append_left _ (List.mem_append_left _ (List.mem_of_getElem? (i := 8) rfl)))))) rfl hdfX3 (by rw [hR]; decide) (by rw [hR]; decide) dX4_offence_72 (fun q13 hqq13 => ?_)
          have h := h q13 hqq13
          refine v_dup C (pc := 75) dX4_offence_75 (rf_cat _) ?_
          refine v_iload_n C (pc := 76) (i := 1) dX4_offence_76 rfl ?_
          refine v_iload_n C (pc := 77) (i := 2) dX4_offence_77 rfl ?_
          refine v_iload_n C (pc := 78) (i := 3) dX4_offence_78 rfl ?_
          refine v_nI F (pc := 79) [.int a1, .int a2, .int a3] 3 (cX3_init_met (kl κ) F.2.2.2.1 (kG κ) _ h) gX4_offence_X3_init rfl rfl (List.mem_cons_of_mem _ (List.mem_append_left _ (List.mem_append_left _ (List.mem_append_left _ (List.mem_append_left _ (List.mem_of_getElem? (i := 8) rfl)))))) (List.mem_cons_of_mem _ (List.mem_append_left _ (List.mem_append_left _ (List.mem_append_left _ (List.mem_append_left _ (List.mem_of_getElem? (i := 13) rfl)))))) (List.mem_cons_of_mem _ (List.mem_append_left _ (List.mem_append_left _ (List.mem_append_left _ (List.mem_append_left _ (List.mem_of_getElem? (i := 14) rfl)))))) hdsX3_init rfl rfl rfl (by rw [hR]; exact ⟨Nat.le_of_ble_eq_true rfl, Nat.le_of_ble_eq_true rfl⟩) (by rw [hR]; decide) (Nat.le_of_ble_eq_true rfl) rfl dX4_offence_79 (hk_v fun M15 h => ?_)
          obtain ⟨M16, e16, h⟩ := h
          refine v_aast F (pc := 82) (ci := 3) 3 rfl rfl e16 dX4_offence_82 ?_
          refine v_aload_n C (pc := 83) (i := 0) dX4_offence_83 rfl ?_
          refine v_dup C (pc := 84) dX4_offence_84 (rf_cat _) ?_
          obtain ⟨x17, e17, h⟩ := h
          refine v_getI C (pc := 85) (ci := 4) 3 iwX4_offence_X4 rfl (by decide) flX4_offence_38 e17 dX4_offence_85 ?_
          refine v_iconst C (pc := 88) (v := 1) dX4_offence_88 (by decide) ?_
          refine v_iadd C (pc := 89) dX4_offence_89 ?_
          obtain ⟨M18, e18, h⟩ := h
          refine v_put F (pc := 90) (ci := 4) (ty := .int) 3 iwX4_offence_X4 tyX4 tyX4_ok nmX4 rfl (by decide) flX4_offence_38 rfl rfl (nar_int _) (fit_int _) e18 dX4_offence_90 ?_
          refine v_aload_n C (pc := 93) (i := 0) dX4_offence_93 rfl ?_
          obtain ⟨x19, e19, h⟩ := h
          refine v_getI C (pc := 94) (ci := 4) 3 iwX4_offence_X4 rfl (by decide) flX4_offence_38 e19 dX4_offence_94 ?_
          refine v_iconst C (pc := 97) (v := 1) dX4_offence_97 (by decide) ?_
          refine v_isub C (pc := 98) dX4_offence_98 ?_
          exact v_eret (pc := 99) E rfl (nar_int _) ⟨_, rfl, h⟩ (by decide) (by decide) dX4_offence_99
        · rw [if_neg c10] at h
          exact v_throw E ht (cls := "java/lang/IllegalStateException") (text := "no more offences can be told") (is := 44) (ic := 46) rfl (by decide +kernel) (List.mem_cons_of_mem _ (List.mem_append_left _ (List.mem_append_left _ (List.mem_append_left _ (List.mem_append_left _ (List.mem_of_getElem? (i := 2) rfl)))))) (List.mem_cons_of_mem _ (List.mem_append_left _ (List.mem_append_left _ (List.mem_append_left _ (List.mem_append_left _ (List.mem_of_getElem? (i := 3) rfl)))))) (by decide +kernel) (fun _ h => List.mem_cons_of_mem _ (List.mem_append_right _ (h))) hnt_ISE hgood_ISE h (by rw [hR]; decide) (by rw [hR]; exact Nat.le_of_ble_eq_true rfl) (by rw [hR]; decide) (by rw [hR]; decide) (by decide) (by decide) dX4_offence_54 dX4_offence_57 dX4_offence_58 dX4_offence_60 dX4_offence_63
      · rw [if_pos c6] at h
        exact v_throw E ht (cls := "java/lang/IllegalArgumentException") (text := "elements, gravity or limit is out of range") (is := 33) (ic := 35) rfl (by decide +kernel) (List.mem_cons_of_mem _ (List.mem_append_left _ (List.mem_append_left _ (List.mem_append_left _ (List.mem_append_left _ (List.mem_of_getElem? (i := 0) rfl)))))) (List.mem_cons_of_mem _ (List.mem_append_left _ (List.mem_append_left _ (List.mem_append_left _ (List.mem_append_left _ (List.mem_of_getElem? (i := 1) rfl)))))) (by decide +kernel) (fun _ h => List.mem_cons_of_mem _ (List.mem_append_left _ (List.mem_append_right _ (h)))) hnt_IAE hgood_IAE h (by rw [hR]; decide) (by rw [hR]; exact Nat.le_of_ble_eq_true rfl) (by rw [hR]; decide) (by rw [hR]; decide) (by decide) (by decide) dX4_offence_32 dX4_offence_35 dX4_offence_36 dX4_offence_38 dX4_offence_41
/-! X4_exclude -/
abbrev rmX4_exclude : Room := { frames := 6, cells := 1, slots := 6, locals := 90 }
theorem iwX4_exclude_X3 : ∀ w ∈ u_ws RX3 TX3 4, w ∈ wsX4_exclude := fun _ h => List.mem_cons_of_mem _ (List.mem_append_left _ (List.mem_append_left _ (List.mem_append_left _ (List.mem_append_right _ (h)))))
theorem flX4_exclude_65 : Cond.fieldLink RX4 65 "Chargehouse$Offence" "excluded" "I" ∈ wsX4_exclude := List.mem_cons_of_mem _ (List.mem_append_left _ (List.mem_append_left _ (List.mem_append_left _ (List.mem_append_left _ (List.mem_of_getElem? (i := 4) rfl)))))
def wX4_exclude (M : hM) (o : Nat) (a1 : Int32) (a2 : Int32) (Q : hM → Int32 → Prop) (X : String → hM → Prop) : Prop :=
  ∃ y2, hC M 4 (some o) = some y2 ∧
  ∃ x1, fX4_offenceAt M o a1 = some x1 ∧
  ∃ y4, hC M 4 (some o) = some y4 ∧
  ∃ x3, fX4_offenceAt M o a2 = some x3 ∧
  if x1 = none then (
    X "java/lang/IndexOutOfBoundsException" M
  ) else (
    if x3 = none then (
      X "java/lang/IndexOutOfBoundsException" M
    ) else (
      if (a1 : Int32) = a2 then (
        X "java/lang/IllegalArgumentException" M
      ) else (
        ∃ y9, hC M 3 x1 = some y9 ∧
        ∃ x8, fX3_excludes M y9 a2 = some x8 ∧
        ∃ x10, gI M 3 3 (some y9) = some x10 ∧
        ∃ M11, pV M 3 3 (some y9) (.int (x10 ||| (1 <<< (a2 &&& 31)))) = some M11 ∧
        ∃ x12, gI M11 3 3 x3 = some x12 ∧
        ∃ M13, pV M11 3 3 x3 (.int (x12 ||| (1 <<< (a1 &&& 31)))) = some M13 ∧
        (x8 = 0 ∨ x8 = 1) ∧ Q M13 x8
      )
    )
  )
set_option maxRecDepth 100000 in
set_option maxHeartbeats 4000000 in
theorem cX4_exclude_met (l : Launch) (hfl : l.stackTraces = false) (G : hG) (M : hM) {o : Nat} {a1 : Int32} {a2 : Int32} {Q : hM → Int32 → Prop} {X : String → hM → Prop} (h : wX4_exclude M o a1 a2 Q X) : hEMet l yX4_exclude wsX4_exclude rmX4_exclude [.ref o, .int a1, .int a2] G M (hQi Q) X 1 6 := by
  refine he_entry (own := RX4) (cc := cX4_exclude) (maxL := 6) (ret := (some .boolean)) (lv := [some (va_rf (some o)), some (.int a1), some (.int a2), none, none, none]) hfl (by decide) rfl rfl (hcc rfl (hcc rfl (hcc rfl hc0))) (Nat.le_of_ble_eq_true rfl) rfl (fun κ sz hG hl hR E ht hn => ?_)
  subst hG; subst hl
  unfold wX4_exclude at h
  have F := E.1
  have C := F.1
  refine v_aload_n C (pc := 0) (i := 0) dX4_exclude_0 rfl ?_
  refine v_iload_n C (pc := 1) (i := 1) dX4_exclude_1 rfl ?_
  obtain ⟨y2, hy2, h⟩ := h
  obtain ⟨fsy2, hfy2⟩ := hC_some hy2
  obtain ⟨x1, e1, h⟩ := h
  refine v_pV C (pc := 2) (ci := 4) [.int a1] 1 (cX4_offenceAt_met (kl κ) (kG κ) _ e1) hfy2 rfl gX4_exclude_X4_offenceAt rfl hdX4_offenceAt rfl rfl rfl (by rw [hR]; exact ⟨Nat.le_of_ble_eq_true rfl, Nat.le_of_ble_eq_true rfl⟩) (by rw [hR]; decide) (Nat.le_of_ble_eq_true rfl) rfl dX4_exclude_2 ?_
  refine v_astore_n C (pc := 5) (i := 3) (lv' := [some (va_rf (some o)), some (.int a1), some (.int a2), some (va_rf x1), none, none]) dX4_exclude_5 rfl (lw_bi (j := 2) rfl) rfl ?_
  refine v_aload_n C (pc := 6) (i := 0) dX4_exclude_6 rfl ?_
  refine v_iload_n C (pc := 7) (i := 2) dX4_exclude_7 rfl ?_
  obtain ⟨y4, hy4, h⟩ := h
  obtain ⟨fsy4, hfy4⟩ := hC_some hy4
  obtain ⟨x3, e3, h⟩ := h
  refine v_pV C (pc := 8) (ci := 4) [.int a2] 1 (cX4_offenceAt_met (kl κ) (kG κ) _ e3) hfy4 rfl gX4_exclude_X4_offenceAt rfl hdX4_offenceAt rfl rfl rfl (by rw [hR]; exact ⟨Nat.le_of_ble_eq_true rfl, Nat.le_of_ble_eq_true rfl⟩) (by rw [hR]; decide) (Nat.le_of_ble_eq_true rfl) rfl dX4_exclude_8 ?_
  refine v_astore C (pc := 11) (i := 4) (lv' := [some (va_rf (some o)), some (.int a1), some (.int a2), some (va_rf x1), some (va_rf x3), none]) dX4_exclude_11 rfl (lw_br (j := 3) rfl) rfl ?_
  refine v_aload_n C (pc := 13) (i := 3) dX4_exclude_13 rfl ?_
  refine v_ifnull C (pc := 14) (tgt := 22) dX4_exclude_14 (by decide) (fun c5 => ?_) (fun c5 => ?_)
  · rw [if_pos c5] at h
    exact v_throw E ht (cls := "java/lang/IndexOutOfBoundsException") (text := "no such offence") (is := 56) (ic := 58) rfl (by decide +kernel) (List.mem_cons_of_mem _ (List.mem_append_left _ (List.mem_append_left _ (List.mem_append_left _ (List.mem_append_left _ (List.mem_of_getElem? (i := 0) rfl)))))) (List.mem_cons_of_mem _ (List.mem_append_left _ (List.mem_append_left _ (List.mem_append_left _ (List.mem_append_left _ (List.mem_of_getElem? (i := 1) rfl)))))) (by decide +kernel) (fun _ h => List.mem_cons_of_mem _ (List.mem_append_left _ (List.mem_append_right _ (h)))) hnt_IOB hgood_IOB h (by rw [hR]; decide) (by rw [hR]; exact Nat.le_of_ble_eq_true rfl) (by rw [hR]; decide) (by rw [hR]; decide) (by decide) (by decide) dX4_exclude_22 dX4_exclude_25 dX4_exclude_26 dX4_exclude_28 dX4_exclude_31
  · rw [if_neg c5] at h
    refine v_aload C (pc := 17) (i := 4) dX4_exclude_17 rfl ?_
    refine v_ifnonnull C (pc := 19) (tgt := 32) dX4_exclude_19 (by decide) (fun c6 => ?_) (fun c6 => ?_)
    · rw [if_neg c6] at h
      refine v_iload_n C (pc := 32) (i := 1) dX4_exclude_32 rfl ?_
      refine v_iload_n C (pc := 33) (i := 2) dX4_exclude_33 rfl ?_
      refine v_icmp_ne C (pc := 34) (tgt := 47) dX4_exclude_34 (by decide) (fun c7 => ?_) (fun c7 => ?_)
      · rw [if_neg c7] at h
        refine v_aload_n C (pc := 47) (i := 3) dX4_exclude_47 rfl ?_
        refine v_iload_n C (pc := 48) (i := 2) dX4_exclude_48 rfl ?_
        obtain ⟨y9, hy9, hh⟩ := h
        skip
        obtain ⟨rfl, fsy9, hfy9⟩ := hC_inv hy9
        have h := hh
        clear hh
        obtain ⟨x8, e8, h⟩ := h
        refine v_pV C (pc := 49) (ci := 3) [.int a2] 1 (cX3_excludes_met (kl κ) (kG κ) _ e8) hfy9 rfl gX4_exclude_X3_excludes rfl hdX3_excludes rfl rfl rfl (by rw [hR]; exact ⟨Nat.le_of_ble_eq_true rfl, Nat.le_of_ble_eq_true rfl⟩) (by rw [hR]; decide) (Nat.le_of_ble_eq_true rfl) rfl dX4_exclude_49 ?_
        refine v_istore C (pc := 52) (i := 5) (lv' := [some (va_rf (some o)), some (.int a1), some (.int a2), some (va_rf (some y9)), some (va_rf x3), some (.int x8)]) dX4_exclude_52 rfl (lw_br (j := 4) rfl) rfl ?_
        refine v_aload_n C (pc := 54) (i := 3) dX4_exclude_54 rfl ?_
        refine v_dup C (pc := 55) dX4_exclude_55 (rf_cat _) ?_
        obtain ⟨x10, e10, h⟩ := h
        refine v_getI C (pc := 56) (ci := 3) 3 iwX4_exclude_X3 rfl (by decide) flX4_exclude_65 e10 dX4_exclude_56 ?_
        refine v_iconst C (pc := 59) (v := 1) dX4_exclude_59 (by decide) ?_
        refine v_iload_n C (pc := 60) (i := 2) dX4_exclude_60 rfl ?_
        refine v_ishl C (pc := 61) dX4_exclude_61 ?_
        refine v_ior C (pc := 62) dX4_exclude_62 ?_
        obtain ⟨M11, e11, h⟩ := h
        refine v_put F (pc := 63) (ci := 3) (ty := .int) 3 iwX4_exclude_X3 tyX3 tyX3_ok nmX3 rfl (by decide) flX4_exclude_65 rfl rfl (nar_int _) (fit_int _) e11 dX4_exclude_63 ?_
        refine v_aload C (pc := 66) (i := 4) dX4_exclude_66 rfl ?_
        refine v_dup C (pc := 68) dX4_exclude_68 (rf_cat _) ?_
        obtain ⟨x12, e12, h⟩ := h
        refine v_getI C (pc := 69) (ci := 3) 3 iwX4_exclude_X3 rfl (by decide) flX4_exclude_65 e12 dX4_exclude_69 ?_
        refine v_iconst C (pc := 72) (v := 1) dX4_exclude_72 (by decide) ?_
        refine v_iload_n C (pc := 73) (i := 1) dX4_exclude_73 rfl ?_
        refine v_ishl C (pc := 74) dX4_exclude_74 ?_
        refine v_ior C (pc := 75) dX4_exclude_75 ?_
        obtain ⟨M13, e13, h⟩ := h
        refine v_put F (pc := 76) (ci := 3) (ty := .int) 3 iwX4_exclude_X3 tyX3 tyX3_ok nmX3 rfl (by decide) flX4_exclude_65 rfl rfl (nar_int _) (fit_int _) e13 dX4_exclude_76 ?_
        refine v_iload C (pc := 79) (i := 5) dX4_exclude_79 rfl ?_
        obtain ⟨hb, h⟩ := h
        exact v_eret (pc := 81) E rfl (nar_bool hb) ⟨_, rfl, h⟩ (by decide) (by decide) dX4_exclude_81
      · rw [if_pos c7] at h
        exact v_throw E ht (cls := "java/lang/IllegalArgumentException") (text := "an offence does not exclude itself") (is := 59) (ic := 35) rfl (by decide +kernel) (List.mem_cons_of_mem _ (List.mem_append_left _ (List.mem_append_left _ (List.mem_append_left _ (List.mem_append_left _ (List.mem_of_getElem? (i := 2) rfl)))))) (List.mem_cons_of_mem _ (List.mem_append_left _ (List.mem_append_left _ (List.mem_append_left _ (List.mem_append_left _ (List.mem_of_getElem? (i := 3) rfl)))))) (by decide +kernel) (fun _ h => List.mem_cons_of_mem _ (List.mem_append_right _ (h))) hnt_IAE hgood_IAE h (by rw [hR]; decide) (by rw [hR]; exact Nat.le_of_ble_eq_true rfl) (by rw [hR]; decide) (by rw [hR]; decide) (by decide) (by decide) dX4_exclude_37 dX4_exclude_40 dX4_exclude_41 dX4_exclude_43 dX4_exclude_46
    · rw [if_pos c6] at h
      exact v_throw E ht (cls := "java/lang/IndexOutOfBoundsException") (text := "no such offence") (is := 56) (ic := 58) rfl (by decide +kernel) (List.mem_cons_of_mem _ (List.mem_append_left _ (List.mem_append_left _ (List.mem_append_left _ (List.mem_append_left _ (List.mem_of_getElem? (i := 0) rfl)))))) (List.mem_cons_of_mem _ (List.mem_append_left _ (List.mem_append_left _ (List.mem_append_left _ (List.mem_append_left _ (List.mem_of_getElem? (i := 1) rfl)))))) (by decide +kernel) (fun _ h => List.mem_cons_of_mem _ (List.mem_append_left _ (List.mem_append_right _ (h)))) hnt_IOB hgood_IOB h (by rw [hR]; decide) (by rw [hR]; exact Nat.le_of_ble_eq_true rfl) (by rw [hR]; decide) (by rw [hR]; decide) (by decide) (by decide) dX4_exclude_22 dX4_exclude_25 dX4_exclude_26 dX4_exclude_28 dX4_exclude_31
/-! X4_pass -/
abbrev rmX4_pass : Room := { frames := 6, cells := 1, slots := 6, locals := 110 }
theorem iwX4_pass_X4 : ∀ w ∈ u_ws RX4 TX4 13, w ∈ wsX4_pass := fun _ h => List.mem_cons_of_mem _ (List.mem_append_left _ (List.mem_append_left _ (List.mem_append_left _ (List.mem_append_left _ (List.mem_append_right _ (h))))))
theorem flX4_pass_17 : Cond.fieldLink RX4 17 "Chargehouse" "fileRows" "[LChargehouse$CaseFile;" ∈ wsX4_pass := List.mem_cons_of_mem _ (List.mem_append_left _ (List.mem_append_left _ (List.mem_append_left _ (List.mem_append_left _ (List.mem_append_left _ (List.mem_append_left _ (List.mem_of_getElem? (i := 5) rfl)))))))
theorem flX4_pass_70 : Cond.fieldLink RX4 70 "Chargehouse" "today" "I" ∈ wsX4_pass := List.mem_cons_of_mem _ (List.mem_append_left _ (List.mem_append_left _ (List.mem_append_left _ (List.mem_append_left _ (List.mem_append_left _ (List.mem_append_left _ (List.mem_of_getElem? (i := 4) rfl)))))))
theorem flX4_pass_75 : Cond.fieldLink RX4 75 "Chargehouse" "clockReleases" "I" ∈ wsX4_pass := List.mem_cons_of_mem _ (List.mem_append_left _ (List.mem_append_left _ (List.mem_append_left _ (List.mem_append_left _ (List.mem_append_left _ (List.mem_append_left _ (List.mem_of_getElem? (i := 6) rfl)))))))
def lX4_pass_53 (o : Nat) (Q : hM → Int32 → Prop) (X : String → hM → Prop) (a1 : Int32) (a2 : Option Nat) (a3 : Int32) : Nat → hM → Int32 → Prop
  | 0, _, _ => False
  | n + 1, M, a4 =>
    if (a3 : Int32) ≤ a4 then (
      ∃ x8, gI M 4 6 (some o) = some x8 ∧
      ∃ M9, pV M 4 6 (some o) (.int (x8 + a1)) = some M9 ∧
      ∃ x10, gI M9 4 6 (some o) = some x10 ∧
      Q M9 x10
    ) else (
      ∃ x11, aR M 4 a2 a4 = some x11 ∧
      if x11 = none then (
        (lX4_pass_53 o Q X a1 a2 a3 n) M (a4 + 1)
      ) else (
        ∃ x13, gI M 4 12 (some o) = some x13 ∧
        ∃ y15, hC M 1 x11 = some y15 ∧
        wX1_passInCustody M y15 a1 (fun M16 x14 =>
        ∃ M17, pV M16 4 12 (some o) (.int (x13 + x14)) = some M17 ∧
        (lX4_pass_53 o Q X a1 a2 a3 n) M17 (a4 + 1))
      )
    )
set_option maxRecDepth 100000 in
set_option maxHeartbeats 4000000 in
theorem tlX4_pass_53 {κ : hKx} {M0 : hM} {sz : Nat} {o : Nat} {Q : hM → Int32 → Prop} {X : String → hM → Prop} (E : Ce κ RX4 cX4_pass wsX4_pass (some .int) M0 sz (hQi Q) X 1 6) (hR : kR κ = rmX4_pass) (ht : ∀ x ∈ (kc κ).exceptionTable.toList, False)  {a1 : Int32} {a2 : Option Nat} {a3 : Int32}  : ∀ (n : Nat) (M : hM) (a4 : Int32), lX4_pass_53 o Q X a1 a2 a3 n M a4 → VW κ 0 0 M 53 [some (va_rf (some o)), some (.int a1), some (va_rf a2), some (.int a3), some (.int a4), none] [] := by
  have F := E.1
  have C := F.1
  intro n
  induction n with
  | zero =>
    intro M a4 h
    unfold lX4_pass_53 at h
    exact h.elim
  | succ n ih =>
    intro M a4 h
    unfold lX4_pass_53 at h
    refine v_iload C (pc := 53) (i := 4) dX4_pass_53 rfl ?_
    refine v_iload_n C (pc := 55) (i := 3) dX4_pass_55 rfl ?_
    refine v_icmp_ge C (pc := 56) (tgt := 91) dX4_pass_56 (by decide) (fun c7 => ?_) (fun c7 => ?_)
    · rw [if_pos c7] at h
      refine v_aload_n C (pc := 91) (i := 0) dX4_pass_91 rfl ?_
      refine v_dup C (pc := 92) dX4_pass_92 (rf_cat _) ?_
      obtain ⟨x8, e8, h⟩ := h
      refine v_getI C (pc := 93) (ci := 4) 6 iwX4_pass_X4 rfl (by decide) flX4_pass_70 e8 dX4_pass_93 ?_
      refine v_iload_n C (pc := 96) (i := 1) dX4_pass_96 rfl ?_
      refine v_iadd C (pc := 97) dX4_pass_97 ?_
      obtain ⟨M9, e9, h⟩ := h
      refine v_put F (pc := 98) (ci := 4) (ty := .int) 6 iwX4_pass_X4 tyX4 tyX4_ok nmX4 rfl (by decide) flX4_pass_70 rfl rfl (nar_int _) (fit_int _) e9 dX4_pass_98 ?_
      refine v_aload_n C (pc := 101) (i := 0) dX4_pass_101 rfl ?_
      obtain ⟨x10, e10, h⟩ := h
      refine v_getI C (pc := 102) (ci := 4) 6 iwX4_pass_X4 rfl (by decide) flX4_pass_70 e10 dX4_pass_102 ?_
      exact v_eret (pc := 105) E rfl (nar_int _) ⟨_, rfl, h⟩ (by decide) (by decide) dX4_pass_105
    · rw [if_neg c7] at h
      refine v_aload_n C (pc := 59) (i := 2) dX4_pass_59 rfl ?_
      refine v_iload C (pc := 60) (i := 4) dX4_pass_60 rfl ?_
      obtain ⟨x11, e11, h⟩ := h
      refine v_aald C (pc := 62) 4 rfl e11 dX4_pass_62 ?_
      refine v_astore C (pc := 63) (i := 5) (lv' := [some (va_rf (some o)), some (.int a1), some (va_rf a2), some (.int a3), some (.int a4), some (va_rf x11)]) dX4_pass_63 rfl (lw_bi (j := 4) rfl) rfl ?_
      refine v_aload C (pc := 65) (i := 5) dX4_pass_65 rfl ?_
      refine v_ifnull C (pc := 67) (tgt := 85) dX4_pass_67 (by decide) (fun c12 => ?_) (fun c12 => ?_)
      · rw [if_pos c12] at h
        refine v_iinc C (pc := 85) (i := 4) (w := 1) (lv' := [some (va_rf (some o)), some (.int a1), some (va_rf a2), some (.int a3), some (.int (a4 + 1)), some (va_rf x11)]) dX4_pass_85 rfl (by decide) rfl ?_
        refine v_goto C (pc := 88) (tgt := 53) dX4_pass_88 (by decide) ?_
        refine v_mask (lv' := [some (va_rf (some o)), some (.int a1), some (va_rf a2), some (.int a3), some (.int (a4 + 1)), none]) [true, true, true, true, true, false] rfl rfl ?_
        exact ih _ _ h
      · rw [if_neg c12] at h
        refine v_aload_n C (pc := 70) (i := 0) dX4_pass_70 rfl ?_
        refine v_dup C (pc := 71) dX4_pass_71 (rf_cat _) ?_
        obtain ⟨x13, e13, h⟩ := h
        refine v_getI C (pc := 72) (ci := 4) 12 iwX4_pass_X4 rfl (by decide) flX4_pass_75 e13 dX4_pass_72 ?_
        refine v_aload C (pc := 75) (i := 5) dX4_pass_75 rfl ?_
        refine v_iload_n C (pc := 77) (i := 1) dX4_pass_77 rfl ?_
        obtain ⟨y15, hy15, hh⟩ := h
        skip
        obtain ⟨rfl, fsy15, hfy15⟩ := hC_inv hy15
        have h := hh
        clear hh
        refine v_nV F (pc := 78) (ci := 1) [.int a1] 1 (cX1_passInCustody_met (kl κ) F.2.2.2.1 (kG κ) _ h) hfy15 rfl gX4_pass_X1_passInCustody rfl hdX1_passInCustody rfl rfl rfl (by rw [hR]; exact ⟨Nat.le_of_ble_eq_true rfl, Nat.le_of_ble_eq_true rfl⟩) (by rw [hR]; decide) (Nat.le_of_ble_eq_true rfl) rfl dX4_pass_78 (hk_i fun M16 x14 h => ?_)
        refine v_iadd C (pc := 81) dX4_pass_81 ?_
        obtain ⟨M17, e17, h⟩ := h
        refine v_put F (pc := 82) (ci := 4) (ty := .int) 12 iwX4_pass_X4 tyX4 tyX4_ok nmX4 rfl (by decide) flX4_pass_75 rfl rfl (nar_int _) (fit_int _) e17 dX4_pass_82 ?_
        refine v_iinc C (pc := 85) (i := 4) (w := 1) (lv' := [some (va_rf (some o)), some (.int a1), some (va_rf a2), some (.int a3), some (.int (a4 + 1)), some (va_rf (some y15))]) dX4_pass_85 rfl (by decide) rfl ?_
        refine v_goto C (pc := 88) (tgt := 53) dX4_pass_88 (by decide) ?_
        refine v_mask (lv' := [some (va_rf (some o)), some (.int a1), some (va_rf a2), some (.int a3), some (.int (a4 + 1)), none]) [true, true, true, true, true, false] rfl rfl ?_
        exact ih _ _ h
def wX4_pass (M : hM) (o : Nat) (a1 : Int32) (Q : hM → Int32 → Prop) (X : String → hM → Prop) : Prop :=
  ∃ x1, fX4_isWithin a1 1 100 = some x1 ∧
  if (x1 : Int32) = 0 then (
    X "java/lang/IllegalArgumentException" M
  ) else (
    ∃ x3, gI M 4 6 (some o) = some x3 ∧
    if ((x3 + a1) : Int32) ≤ 5000 then (
      ∃ x5, gR M 4 1 (some o) = some x5 ∧
      ∃ x6, aL M 4 x5 = some x6 ∧
      lX4_pass_53 o Q X a1 x5 x6 1000 M 0
    ) else (
      X "java/lang/IllegalStateException" M
    )
  )
set_option maxRecDepth 100000 in
set_option maxHeartbeats 4000000 in
theorem cX4_pass_met (l : Launch) (hfl : l.stackTraces = false) (G : hG) (M : hM) {o : Nat} {a1 : Int32} {Q : hM → Int32 → Prop} {X : String → hM → Prop} (h : wX4_pass M o a1 Q X) : hEMet l yX4_pass wsX4_pass rmX4_pass [.ref o, .int a1] G M (hQi Q) X 1 6 := by
  refine he_entry (own := RX4) (cc := cX4_pass) (maxL := 6) (ret := (some .int)) (lv := [some (va_rf (some o)), some (.int a1), none, none, none, none]) hfl (by decide) rfl rfl (hcc rfl (hcc rfl hc0)) (Nat.le_of_ble_eq_true rfl) rfl (fun κ sz hG hl hR E ht hn => ?_)
  subst hG; subst hl
  unfold wX4_pass at h
  have F := E.1
  have C := F.1
  refine v_iload_n C (pc := 0) (i := 1) dX4_pass_0 rfl ?_
  refine v_iconst C (pc := 1) (v := 1) dX4_pass_1 (by decide) ?_
  refine v_bipush C (pc := 2) (v := 100) dX4_pass_2 (by decide) ?_
  obtain ⟨x1, e1, h⟩ := h
  refine v_pS C (pc := 4) [.int a1, .int 1, .int 100] 3 (cX4_isWithin_met (kl κ) (kG κ) _ e1) gX4_pass_X4_isWithin rfl hdsX4_isWithin rfl rfl rfl (by rw [hR]; exact ⟨Nat.le_of_ble_eq_true rfl, Nat.le_of_ble_eq_true rfl⟩) (by rw [hR]; decide) (Nat.le_of_ble_eq_true rfl) rfl dX4_pass_4 ?_
  refine v_if_ne C (pc := 7) (tgt := 20) dX4_pass_7 (by decide) (fun c2 => ?_) (fun c2 => ?_)
  · rw [if_neg c2] at h
    refine v_aload_n C (pc := 20) (i := 0) dX4_pass_20 rfl ?_
    obtain ⟨x3, e3, h⟩ := h
    refine v_getI C (pc := 21) (ci := 4) 6 iwX4_pass_X4 rfl (by decide) flX4_pass_70 e3 dX4_pass_21 ?_
    refine v_iload_n C (pc := 24) (i := 1) dX4_pass_24 rfl ?_
    refine v_iadd C (pc := 25) dX4_pass_25 ?_
    refine v_sipush C (pc := 26) (v := 5000) dX4_pass_26 (by decide) ?_
    refine v_icmp_le C (pc := 29) (tgt := 42) dX4_pass_29 (by decide) (fun c4 => ?_) (fun c4 => ?_)
    · rw [if_pos c4] at h
      refine v_aload_n C (pc := 42) (i := 0) dX4_pass_42 rfl ?_
      obtain ⟨x5, e5, h⟩ := h
      refine v_getR C (pc := 43) (ci := 4) 1 iwX4_pass_X4 rfl (by decide) flX4_pass_17 e5 dX4_pass_43 ?_
      refine v_astore_n C (pc := 46) (i := 2) (lv' := [some (va_rf (some o)), some (.int a1), some (va_rf x5), none, none, none]) dX4_pass_46 rfl (lw_bi (j := 1) rfl) rfl ?_
      refine v_aload_n C (pc := 47) (i := 2) dX4_pass_47 rfl ?_
      obtain ⟨x6, e6, h⟩ := h
      refine v_alen C (pc := 48) 4 rfl e6 dX4_pass_48 ?_
      refine v_istore_n C (pc := 49) (i := 3) (lv' := [some (va_rf (some o)), some (.int a1), some (va_rf x5), some (.int x6), none, none]) dX4_pass_49 rfl (lw_br (j := 2) rfl) rfl ?_
      refine v_iconst C (pc := 50) (v := 0) dX4_pass_50 (by decide) ?_
      refine v_istore C (pc := 51) (i := 4) (lv' := [some (va_rf (some o)), some (.int a1), some (va_rf x5), some (.int x6), some (.int 0), none]) dX4_pass_51 rfl (lw_bi (j := 3) rfl) rfl ?_
      exact tlX4_pass_53 E hR ht  1000 _ _ h
    · rw [if_neg c4] at h
      exact v_throw E ht (cls := "java/lang/IllegalStateException") (text := "the last day would be passed") (is := 73) (ic := 46) rfl (by decide +kernel) (List.mem_cons_of_mem _ (List.mem_append_left _ (List.mem_append_left _ (List.mem_append_left _ (List.mem_append_left _ (List.mem_append_left _ (List.mem_append_left _ (List.mem_of_getElem? (i := 2) rfl)))))))) (List.mem_cons_of_mem _ (List.mem_append_left _ (List.mem_append_left _ (List.mem_append_left _ (List.mem_append_left _ (List.mem_append_left _ (List.mem_append_left _ (List.mem_of_getElem? (i := 3) rfl)))))))) (by decide +kernel) (fun _ h => List.mem_cons_of_mem _ (List.mem_append_right _ (h))) hnt_ISE hgood_ISE h (by rw [hR]; decide) (by rw [hR]; exact Nat.le_of_ble_eq_true rfl) (by rw [hR]; decide) (by rw [hR]; decide) (by decide) (by decide) dX4_pass_32 dX4_pass_35 dX4_pass_36 dX4_pass_38 dX4_pass_41
  · rw [if_pos c2] at h
    exact v_throw E ht (cls := "java/lang/IllegalArgumentException") (text := "days is out of range") (is := 68) (ic := 35) rfl (by decide +kernel) (List.mem_cons_of_mem _ (List.mem_append_left _ (List.mem_append_left _ (List.mem_append_left _ (List.mem_append_left _ (List.mem_append_left _ (List.mem_append_left _ (List.mem_of_getElem? (i := 0) rfl)))))))) (List.mem_cons_of_mem _ (List.mem_append_left _ (List.mem_append_left _ (List.mem_append_left _ (List.mem_append_left _ (List.mem_append_left _ (List.mem_append_left _ (List.mem_of_getElem? (i := 1) rfl)))))))) (by decide +kernel) (fun _ h => List.mem_cons_of_mem _ (List.mem_append_left _ (List.mem_append_right _ (h)))) hnt_IAE hgood_IAE h (by rw [hR]; decide) (by rw [hR]; exact Nat.le_of_ble_eq_true rfl) (by rw [hR]; decide) (by rw [hR]; decide) (by decide) (by decide) dX4_pass_10 dX4_pass_13 dX4_pass_14 dX4_pass_16 dX4_pass_19
/-! X4_file -/
abbrev rmX4_file : Room := { frames := 6, cells := 20, slots := 211, locals := 90 }
theorem iwX4_file_X0 : ∀ w ∈ u_ws RX0 TX0 14, w ∈ wsX4_file := fun _ h => List.mem_cons_of_mem _ (List.mem_append_left _ (List.mem_append_left _ (List.mem_append_right _ (h))))
theorem iwX4_file_X1 : ∀ w ∈ u_ws RX1 TX1 5, w ∈ wsX4_file := fun _ h => List.mem_cons_of_mem _ (List.mem_append_left _ (List.mem_append_left _ (List.mem_append_left _ (List.mem_append_right _ (h)))))
theorem iwX4_file_X4 : ∀ w ∈ u_ws RX4 TX4 13, w ∈ wsX4_file := fun _ h => List.mem_cons_of_mem _ (List.mem_append_left _ (List.mem_append_left _ (List.mem_append_left _ (List.mem_append_left _ (List.mem_append_right _ (h))))))
theorem flX4_file_105 : Cond.fieldLink RX4 105 "Chargehouse$CaseFile" "number" "I" ∈ wsX4_file := List.mem_cons_of_mem _ (List.mem_append_left _ (List.mem_append_left _ (List.mem_append_left _ (List.mem_append_left _ (List.mem_append_left _ (List.mem_append_left _ (List.mem_of_getElem? (i := 14) rfl)))))))
theorem flX4_file_17 : Cond.fieldLink RX4 17 "Chargehouse" "fileRows" "[LChargehouse$CaseFile;" ∈ wsX4_file := List.mem_cons_of_mem _ (List.mem_append_left _ (List.mem_append_left _ (List.mem_append_left _ (List.mem_append_left _ (List.mem_append_left _ (List.mem_append_left _ (List.mem_of_getElem? (i := 6) rfl)))))))
theorem flX4_file_70 : Cond.fieldLink RX4 70 "Chargehouse" "today" "I" ∈ wsX4_file := List.mem_cons_of_mem _ (List.mem_append_left _ (List.mem_append_left _ (List.mem_append_left _ (List.mem_append_left _ (List.mem_append_left _ (List.mem_append_left _ (List.mem_of_getElem? (i := 4) rfl)))))))
theorem flX4_file_84 : Cond.fieldLink RX4 84 "Chargehouse" "fileCount" "I" ∈ wsX4_file := List.mem_cons_of_mem _ (List.mem_append_left _ (List.mem_append_left _ (List.mem_append_left _ (List.mem_append_left _ (List.mem_append_left _ (List.mem_append_left _ (List.mem_of_getElem? (i := 5) rfl)))))))
theorem flX4_file_92 : Cond.fieldLink RX4 92 "Chargehouse$CaseFile" "rows" "[LChargehouse$Accused;" ∈ wsX4_file := List.mem_cons_of_mem _ (List.mem_append_left _ (List.mem_append_left _ (List.mem_append_left _ (List.mem_append_left _ (List.mem_append_left _ (List.mem_append_left _ (List.mem_of_getElem? (i := 10) rfl)))))))
def lX4_file_85 (o : Nat) (Q : hM → Int32 → Prop) (X : String → hM → Prop) (a2 : Int32) (a4 : Option Nat) : Nat → hM → Int32 → Prop
  | 0, _, _ => False
  | n + 1, M, a5 =>
    ∃ x16, gR M 1 4 a4 = some x16 ∧
    ∃ x17, aL M 6 x16 = some x17 ∧
    if (x17 : Int32) ≤ a5 then (
      ∃ x19, gR M 4 1 (some o) = some x19 ∧
      ∃ x20, gI M 4 4 (some o) = some x20 ∧
      ∃ M21, sR M 4 x19 x20 1 a4 = some M21 ∧
      ∃ x22, gI M21 4 4 (some o) = some x22 ∧
      ∃ M23, pV M21 4 4 (some o) (.int (x22 + 1)) = some M23 ∧
      ∃ x24, gI M23 1 0 a4 = some x24 ∧
      Q M23 x24
    ) else (
      ∃ x25, fX4_hasBit a2 a5 = some x25 ∧
      if (x25 : Int32) = 0 then (
        (lX4_file_85 o Q X a2 a4 n) M (a5 + 1)
      ) else (
        ∃ x27, gR M 1 4 a4 = some x27 ∧
        ∀ q28 : Nat, M q28 = none →
        wX0_init (hst M q28 (.inr (0, [.null, .int 0, .int 0, .int 0, .int 0, .int 0, .int 0, .int 0, .int 0, .int 0, .int 0, .int 0, .int 0, .null]))) q28 a4 a5 (fun M30 =>
        ∃ M31, sR M30 6 x27 a5 0 (some q28) = some M31 ∧
        (lX4_file_85 o Q X a2 a4 n) M31 (a5 + 1))
      )
    )
set_option maxRecDepth 100000 in
set_option maxHeartbeats 4000000 in
theorem tlX4_file_85 {κ : hKx} {M0 : hM} {sz : Nat} {o : Nat} {Q : hM → Int32 → Prop} {X : String → hM → Prop} (E : Ce κ RX4 cX4_file wsX4_file (some .int) M0 sz (hQi Q) X 20 211) (hR : kR κ = rmX4_file) (ht : ∀ x ∈ (kc κ).exceptionTable.toList, False)  {a2 : Int32} {a4 : Option Nat}  : ∀ (n : Nat) (M : hM) (a5 : Int32) (cells slots : Nat), cells + n * 2 ≤ 20 → slots + n * 22 ≤ 211 → lX4_file_85 o Q X a2 a4 n M a5 → VW κ cells slots M 85 [some (va_rf (some o)), none, some (.int a2), none, some (va_rf a4), some (.int a5)] [] := by
  have F := E.1
  have C := F.1
  intro n
  induction n with
  | zero =>
    intro M a5 cells slots hce hsl h
    unfold lX4_file_85 at h
    exact h.elim
  | succ n ih =>
    intro M a5 cells slots hce hsl h
    unfold lX4_file_85 at h
    have hce2 := Nat.succ_mul n 2
    have hsl2 := Nat.succ_mul n 22
    refine v_iload C (pc := 85) (i := 5) dX4_file_85 rfl ?_
    refine v_aload C (pc := 87) (i := 4) dX4_file_87 rfl ?_
    obtain ⟨x16, e16, h⟩ := h
    refine v_getR C (pc := 89) (ci := 1) 4 iwX4_file_X1 rfl (by decide) flX4_file_92 e16 dX4_file_89 ?_
    obtain ⟨x17, e17, h⟩ := h
    refine v_alen C (pc := 92) 6 rfl e17 dX4_file_92 ?_
    refine v_icmp_ge C (pc := 93) (tgt := 130) dX4_file_93 (by decide) (fun c18 => ?_) (fun c18 => ?_)
    · rw [if_pos c18] at h
      refine v_aload_n C (pc := 130) (i := 0) dX4_file_130 rfl ?_
      obtain ⟨x19, e19, h⟩ := h
      refine v_getR C (pc := 131) (ci := 4) 1 iwX4_file_X4 rfl (by decide) flX4_file_17 e19 dX4_file_131 ?_
      refine v_aload_n C (pc := 134) (i := 0) dX4_file_134 rfl ?_
      obtain ⟨x20, e20, h⟩ := h
      refine v_getI C (pc := 135) (ci := 4) 4 iwX4_file_X4 rfl (by decide) flX4_file_84 e20 dX4_file_135 ?_
      refine v_aload C (pc := 138) (i := 4) dX4_file_138 rfl ?_
      obtain ⟨M21, e21, h⟩ := h
      refine v_aast F (pc := 140) (ci := 1) 4 rfl rfl e21 dX4_file_140 ?_
      refine v_aload_n C (pc := 141) (i := 0) dX4_file_141 rfl ?_
      refine v_dup C (pc := 142) dX4_file_142 (rf_cat _) ?_
      obtain ⟨x22, e22, h⟩ := h
      refine v_getI C (pc := 143) (ci := 4) 4 iwX4_file_X4 rfl (by decide) flX4_file_84 e22 dX4_file_143 ?_
      refine v_iconst C (pc := 146) (v := 1) dX4_file_146 (by decide) ?_
      refine v_iadd C (pc := 147) dX4_file_147 ?_
      obtain ⟨M23, e23, h⟩ := h
      refine v_put F (pc := 148) (ci := 4) (ty := .int) 4 iwX4_file_X4 tyX4 tyX4_ok nmX4 rfl (by decide) flX4_file_84 rfl rfl (nar_int _) (fit_int _) e23 dX4_file_148 ?_
      refine v_aload C (pc := 151) (i := 4) dX4_file_151 rfl ?_
      obtain ⟨x24, e24, h⟩ := h
      refine v_getI C (pc := 153) (ci := 1) 0 iwX4_file_X1 rfl (by decide) flX4_file_105 e24 dX4_file_153 ?_
      exact v_eret (pc := 156) E rfl (nar_int _) ⟨_, rfl, h⟩ (by omega) (by omega) dX4_file_156
    · rw [if_neg c18] at h
      refine v_iload_n C (pc := 96) (i := 2) dX4_file_96 rfl ?_
      refine v_iload C (pc := 97) (i := 5) dX4_file_97 rfl ?_
      obtain ⟨x25, e25, h⟩ := h
      refine v_pS C (pc := 99) [.int a2, .int a5] 2 (cX4_hasBit_met (kl κ) (kG κ) _ e25) gX4_file_X4_hasBit rfl hdsX4_hasBit rfl rfl rfl (by rw [hR]; exact ⟨Nat.le_of_ble_eq_true rfl, Nat.le_of_ble_eq_true rfl⟩) (by rw [hR]; exact ⟨by show _ ≤ 20; omega, by show _ ≤ 211; omega⟩) (Nat.le_of_ble_eq_true rfl) rfl dX4_file_99 ?_
      refine v_if_eq C (pc := 102) (tgt := 124) dX4_file_102 (by decide) (fun c26 => ?_) (fun c26 => ?_)
      · rw [if_pos c26] at h
        refine v_iinc C (pc := 124) (i := 5) (w := 1) (lv' := [some (va_rf (some o)), none, some (.int a2), none, some (va_rf a4), some (.int (a5 + 1))]) dX4_file_124 rfl (by decide) rfl ?_
        refine v_goto C (pc := 127) (tgt := 85) dX4_file_127 (by decide) ?_
        refine v_widen (k := cells + 2) (n := slots + 22) (by omega) (by omega) ?_
        exact ih _ _ _ _ (by omega) (by omega) h
      · rw [if_neg c26] at h
        refine v_aload C (pc := 105) (i := 4) dX4_file_105 rfl ?_
        obtain ⟨x27, e27, h⟩ := h
        refine v_getR C (pc := 107) (ci := 1) 4 iwX4_file_X1 rfl (by decide) flX4_file_92 e27 dX4_file_107 ?_
        refine v_iload C (pc := 110) (i := 5) dX4_file_110 rfl ?_
        refine v_new F (pc := 112) (ci := 0) (fs := [.null, .int 0, .int 0, .int 0, .int 0, .int 0, .int 0, .int 0, .int 0, .int 0, .int 0, .int 0, .int 0, .null]) iwX4_file_X0 tyX0 tyX0_ok (List.mem_cons_of_mem _ (List.mem_append_left _ (List.mem_append_left _ (List.mem_append_left _ (List.mem_append_left _ (List.mem_append_left _ (List.mem_append_left _ (List.mem_of_getElem? (i := 11) rfl)))))))) (List.mem_cons_of_mem _ (List.mem_append_left _ (List.mem_append_left _ (List.mem_append_left _ (List.mem_append_left _ (List.mem_append_left _ (List.mem_append_left _ (List.mem_of_getElem? (i := 12) rfl)))))))) (List.mem_cons_of_mem _ (List.mem_append_left _ (List.mem_append_left _ (List.mem_append_left _ (List.mem_append_left _ (List.mem_append_left _ (List.mem_append_left _ (List.mem_of_getElem? (i := 13) rfl)))))))) rfl hdfX0 (by rw [hR]; show _ ≤ 20; omega) (by rw [hR]; show _ ≤ 211; omega) dX4_file_112 (fun q28 hqq28 => ?_)
        have h := h q28 hqq28
        refine v_dup C (pc := 115) dX4_file_115 (rf_cat _) ?_
        refine v_aload C (pc := 116) (i := 4) dX4_file_116 rfl ?_
        refine v_iload C (pc := 118) (i := 5) dX4_file_118 rfl ?_
        refine v_nI F (pc := 120) [va_rf a4, .int a5] 2 (cX0_init_met (kl κ) F.2.2.2.1 (kG κ) _ h) gX4_file_X0_init rfl rfl (List.mem_cons_of_mem _ (List.mem_append_left _ (List.mem_append_left _ (List.mem_append_left _ (List.mem_append_left _ (List.mem_append_left _ (List.mem_append_left _ (List.mem_of_getElem? (i := 13) rfl)))))))) (List.mem_cons_of_mem _ (List.mem_append_left _ (List.mem_append_left _ (List.mem_append_left _ (List.mem_append_left _ (List.mem_append_left _ (List.mem_append_right _ (List.mem_of_getElem? (i := 10) rfl)))))))) (List.mem_cons_of_mem _ (List.mem_append_left _ (List.mem_append_left _ (List.mem_append_left _ (List.mem_append_left _ (List.mem_append_left _ (List.mem_append_right _ (List.mem_of_getElem? (i := 11) rfl)))))))) hdsX0_init rfl rfl rfl (by rw [hR]; exact ⟨Nat.le_of_ble_eq_true rfl, Nat.le_of_ble_eq_true rfl⟩) (by rw [hR]; exact ⟨by show _ ≤ 20; omega, by show _ ≤ 211; omega⟩) (Nat.le_of_ble_eq_true rfl) rfl dX4_file_120 (hk_v fun M30 h => ?_)
        obtain ⟨M31, e31, h⟩ := h
        refine v_aast F (pc := 123) (ci := 0) 6 rfl rfl e31 dX4_file_123 ?_
        refine v_iinc C (pc := 124) (i := 5) (w := 1) (lv' := [some (va_rf (some o)), none, some (.int a2), none, some (va_rf a4), some (.int (a5 + 1))]) dX4_file_124 rfl (by decide) rfl ?_
        refine v_goto C (pc := 127) (tgt := 85) dX4_file_127 (by decide) ?_
        refine v_widen (k := cells + 2) (n := slots + 22) (by omega) (by omega) ?_
        exact ih _ _ _ _ (by omega) (by omega) h
def wX4_file (M : hM) (o : Nat) (a1 : Int32) (a2 : Int32) (a3 : Int32) (Q : hM → Int32 → Prop) (X : String → hM → Prop) : Prop :=
  ∃ x1, gI M 4 6 (some o) = some x1 ∧
  ∃ x2, fX4_isWithin a1 0 x1 = some x2 ∧
  if (x2 : Int32) = 0 then (
    X "java/lang/IllegalArgumentException" M
  ) else (
    ∃ x4, fX4_isWithin a2 1 255 = some x4 ∧
    if (x4 : Int32) = 0 then (
      X "java/lang/IllegalArgumentException" M
    ) else (
      ∃ x6, fX4_isWithin a3 (-9) 9 = some x6 ∧
      if (x6 : Int32) = 0 then (
        X "java/lang/IllegalArgumentException" M
      ) else (
        ∃ x8, gI M 4 4 (some o) = some x8 ∧
        ∃ x9, gR M 4 1 (some o) = some x9 ∧
        ∃ x10, aL M 4 x9 = some x10 ∧
        if (x8 : Int32) < x10 then (
          ∀ q12 : Nat, M q12 = none →
          ∃ x13, gI (hst M q12 (.inr (1, [.int 0, .int 0, .int 0, .int 0, .null]))) 4 4 (some o) = some x13 ∧
          wX1_init (hst M q12 (.inr (1, [.int 0, .int 0, .int 0, .int 0, .null]))) q12 x13 a1 a2 a3 (fun M15 =>
          lX4_file_85 o Q X a2 (some q12) 9 M15 0)
        ) else (
          X "java/lang/IllegalStateException" M
        )
      )
    )
  )
set_option maxRecDepth 100000 in
set_option maxHeartbeats 4000000 in
theorem cX4_file_met (l : Launch) (hfl : l.stackTraces = false) (G : hG) (M : hM) {o : Nat} {a1 : Int32} {a2 : Int32} {a3 : Int32} {Q : hM → Int32 → Prop} {X : String → hM → Prop} (h : wX4_file M o a1 a2 a3 Q X) : hEMet l yX4_file wsX4_file rmX4_file [.ref o, .int a1, .int a2, .int a3] G M (hQi Q) X 20 211 := by
  refine he_entry (own := RX4) (cc := cX4_file) (maxL := 6) (ret := (some .int)) (lv := [some (va_rf (some o)), some (.int a1), some (.int a2), some (.int a3), none, none]) hfl (by decide) rfl rfl (hcc rfl (hcc rfl (hcc rfl (hcc rfl hc0)))) (Nat.le_of_ble_eq_true rfl) rfl (fun κ sz hG hl hR E ht hn => ?_)
  subst hG; subst hl
  unfold wX4_file at h
  have F := E.1
  have C := F.1
  refine v_iload_n C (pc := 0) (i := 1) dX4_file_0 rfl ?_
  refine v_iconst C (pc := 1) (v := 0) dX4_file_1 (by decide) ?_
  refine v_aload_n C (pc := 2) (i := 0) dX4_file_2 rfl ?_
  obtain ⟨x1, e1, h⟩ := h
  refine v_getI C (pc := 3) (ci := 4) 6 iwX4_file_X4 rfl (by decide) flX4_file_70 e1 dX4_file_3 ?_
  obtain ⟨x2, e2, h⟩ := h
  refine v_pS C (pc := 6) [.int a1, .int 0, .int x1] 3 (cX4_isWithin_met (kl κ) (kG κ) _ e2) gX4_file_X4_isWithin rfl hdsX4_isWithin rfl rfl rfl (by rw [hR]; exact ⟨Nat.le_of_ble_eq_true rfl, Nat.le_of_ble_eq_true rfl⟩) (by rw [hR]; decide) (Nat.le_of_ble_eq_true rfl) rfl dX4_file_6 ?_
  refine v_if_eq C (pc := 9) (tgt := 34) dX4_file_9 (by decide) (fun c3 => ?_) (fun c3 => ?_)
  · rw [if_pos c3] at h
    exact v_throw E ht (cls := "java/lang/IllegalArgumentException") (text := "event, accused or points is out of range") (is := 82) (ic := 35) rfl (by decide +kernel) (List.mem_cons_of_mem _ (List.mem_append_left _ (List.mem_append_left _ (List.mem_append_left _ (List.mem_append_left _ (List.mem_append_left _ (List.mem_append_left _ (List.mem_of_getElem? (i := 0) rfl)))))))) (List.mem_cons_of_mem _ (List.mem_append_left _ (List.mem_append_left _ (List.mem_append_left _ (List.mem_append_left _ (List.mem_append_left _ (List.mem_append_left _ (List.mem_of_getElem? (i := 1) rfl)))))))) (by decide +kernel) (fun _ h => List.mem_cons_of_mem _ (List.mem_append_left _ (List.mem_append_right _ (h)))) hnt_IAE hgood_IAE h (by rw [hR]; decide) (by rw [hR]; exact Nat.le_of_ble_eq_true rfl) (by rw [hR]; decide) (by rw [hR]; decide) (by decide) (by decide) dX4_file_34 dX4_file_37 dX4_file_38 dX4_file_40 dX4_file_43
  · rw [if_neg c3] at h
    refine v_iload_n C (pc := 12) (i := 2) dX4_file_12 rfl ?_
    refine v_iconst C (pc := 13) (v := 1) dX4_file_13 (by decide) ?_
    refine v_sipush C (pc := 14) (v := 255) dX4_file_14 (by decide) ?_
    obtain ⟨x4, e4, h⟩ := h
    refine v_pS C (pc := 17) [.int a2, .int 1, .int 255] 3 (cX4_isWithin_met (kl κ) (kG κ) _ e4) gX4_file_X4_isWithin rfl hdsX4_isWithin rfl rfl rfl (by rw [hR]; exact ⟨Nat.le_of_ble_eq_true rfl, Nat.le_of_ble_eq_true rfl⟩) (by rw [hR]; decide) (Nat.le_of_ble_eq_true rfl) rfl dX4_file_17 ?_
    refine v_if_eq C (pc := 20) (tgt := 34) dX4_file_20 (by decide) (fun c5 => ?_) (fun c5 => ?_)
    · rw [if_pos c5] at h
      exact v_throw E ht (cls := "java/lang/IllegalArgumentException") (text := "event, accused or points is out of range") (is := 82) (ic := 35) rfl (by decide +kernel) (List.mem_cons_of_mem _ (List.mem_append_left _ (List.mem_append_left _ (List.mem_append_left _ (List.mem_append_left _ (List.mem_append_left _ (List.mem_append_left _ (List.mem_of_getElem? (i := 0) rfl)))))))) (List.mem_cons_of_mem _ (List.mem_append_left _ (List.mem_append_left _ (List.mem_append_left _ (List.mem_append_left _ (List.mem_append_left _ (List.mem_append_left _ (List.mem_of_getElem? (i := 1) rfl)))))))) (by decide +kernel) (fun _ h => List.mem_cons_of_mem _ (List.mem_append_left _ (List.mem_append_right _ (h)))) hnt_IAE hgood_IAE h (by rw [hR]; decide) (by rw [hR]; exact Nat.le_of_ble_eq_true rfl) (by rw [hR]; decide) (by rw [hR]; decide) (by decide) (by decide) dX4_file_34 dX4_file_37 dX4_file_38 dX4_file_40 dX4_file_43
    · rw [if_neg c5] at h
      refine v_iload_n C (pc := 23) (i := 3) dX4_file_23 rfl ?_
      refine v_bipush C (pc := 24) (v := (-9)) dX4_file_24 (by decide) ?_
      refine v_bipush C (pc := 26) (v := 9) dX4_file_26 (by decide) ?_
      obtain ⟨x6, e6, h⟩ := h
      refine v_pS C (pc := 28) [.int a3, .int (-9), .int 9] 3 (cX4_isWithin_met (kl κ) (kG κ) _ e6) gX4_file_X4_isWithin rfl hdsX4_isWithin rfl rfl rfl (by rw [hR]; exact ⟨Nat.le_of_ble_eq_true rfl, Nat.le_of_ble_eq_true rfl⟩) (by rw [hR]; decide) (Nat.le_of_ble_eq_true rfl) rfl dX4_file_28 ?_
      refine v_if_ne C (pc := 31) (tgt := 44) dX4_file_31 (by decide) (fun c7 => ?_) (fun c7 => ?_)
      · rw [if_neg c7] at h
        refine v_aload_n C (pc := 44) (i := 0) dX4_file_44 rfl ?_
        obtain ⟨x8, e8, h⟩ := h
        refine v_getI C (pc := 45) (ci := 4) 4 iwX4_file_X4 rfl (by decide) flX4_file_84 e8 dX4_file_45 ?_
        refine v_aload_n C (pc := 48) (i := 0) dX4_file_48 rfl ?_
        obtain ⟨x9, e9, h⟩ := h
        refine v_getR C (pc := 49) (ci := 4) 1 iwX4_file_X4 rfl (by decide) flX4_file_17 e9 dX4_file_49 ?_
        obtain ⟨x10, e10, h⟩ := h
        refine v_alen C (pc := 52) 4 rfl e10 dX4_file_52 ?_
        refine v_icmp_lt C (pc := 53) (tgt := 66) dX4_file_53 (by decide) (fun c11 => ?_) (fun c11 => ?_)
        · rw [if_pos c11] at h
          refine v_new F (pc := 66) (ci := 1) (fs := [.int 0, .int 0, .int 0, .int 0, .null]) iwX4_file_X1 tyX1 tyX1_ok (List.mem_cons_of_mem _ (List.mem_append_left _ (List.mem_append_left _ (List.mem_append_left _ (List.mem_append_left _ (List.mem_append_left _ (List.mem_append_left _ (List.mem_of_getElem? (i := 7) rfl)))))))) (List.mem_cons_of_mem _ (List.mem_append_left _ (List.mem_append_left _ (List.mem_append_left _ (List.mem_append_left _ (List.mem_append_left _ (List.mem_append_left _ (List.mem_of_getElem? (i := 8) rfl)))))))) (List.mem_cons_of_mem _ (List.mem_append_left _ (List.mem_append_left _ (List.mem_append_left _ (List.mem_append_left _ (List.mem_append_left _ (List.mem_append_left _ (List.mem_of_getElem? (i := 9) rfl)))))))) rfl hdfX1 (by rw [hR]; decide) (by rw [hR]; decide) dX4_file_66 (fun q12 hqq12 => ?_)
          have h := h q12 hqq12
          refine v_dup C (pc := 69) dX4_file_69 (rf_cat _) ?_
          refine v_aload_n C (pc := 70) (i := 0) dX4_file_70 rfl ?_
          obtain ⟨x13, e13, h⟩ := h
          refine v_getI C (pc := 71) (ci := 4) 4 iwX4_file_X4 rfl (by decide) flX4_file_84 e13 dX4_file_71 ?_
          refine v_iload_n C (pc := 74) (i := 1) dX4_file_74 rfl ?_
          refine v_iload_n C (pc := 75) (i := 2) dX4_file_75 rfl ?_
          refine v_iload_n C (pc := 76) (i := 3) dX4_file_76 rfl ?_
          refine v_nI F (pc := 77) [.int x13, .int a1, .int a2, .int a3] 4 (cX1_init_met (kl κ) F.2.2.2.1 (kG κ) _ h) gX4_file_X1_init rfl rfl (List.mem_cons_of_mem _ (List.mem_append_left _ (List.mem_append_left _ (List.mem_append_left _ (List.mem_append_left _ (List.mem_append_left _ (List.mem_append_left _ (List.mem_of_getElem? (i := 9) rfl)))))))) (List.mem_cons_of_mem _ (List.mem_append_left _ (List.mem_append_left _ (List.mem_append_left _ (List.mem_append_left _ (List.mem_append_left _ (List.mem_append_left _ (List.mem_of_getElem? (i := 19) rfl)))))))) (List.mem_cons_of_mem _ (List.mem_append_left _ (List.mem_append_left _ (List.mem_append_left _ (List.mem_append_left _ (List.mem_append_left _ (List.mem_append_left _ (List.mem_of_getElem? (i := 20) rfl)))))))) hdsX1_init rfl rfl rfl (by rw [hR]; exact ⟨Nat.le_of_ble_eq_true rfl, Nat.le_of_ble_eq_true rfl⟩) (by rw [hR]; decide) (Nat.le_of_ble_eq_true rfl) rfl dX4_file_77 (hk_v fun M15 h => ?_)
          refine v_astore C (pc := 80) (i := 4) (lv' := [some (va_rf (some o)), some (.int a1), some (.int a2), some (.int a3), some (va_rf (some q12)), none]) dX4_file_80 rfl (lw_bi (j := 3) rfl) rfl ?_
          refine v_iconst C (pc := 82) (v := 0) dX4_file_82 (by decide) ?_
          refine v_istore C (pc := 83) (i := 5) (lv' := [some (va_rf (some o)), some (.int a1), some (.int a2), some (.int a3), some (va_rf (some q12)), some (.int 0)]) dX4_file_83 rfl (lw_br (j := 4) rfl) rfl ?_
          refine v_mask (lv' := [some (va_rf (some o)), none, some (.int a2), none, some (va_rf (some q12)), some (.int 0)]) [true, false, true, false, true, true] rfl rfl ?_
          exact tlX4_file_85 E hR ht  9 _ _ _ _ (by decide) (by decide) h
        · rw [if_neg c11] at h
          exact v_throw E ht (cls := "java/lang/IllegalStateException") (text := "no more files can be opened") (is := 87) (ic := 46) rfl (by decide +kernel) (List.mem_cons_of_mem _ (List.mem_append_left _ (List.mem_append_left _ (List.mem_append_left _ (List.mem_append_left _ (List.mem_append_left _ (List.mem_append_left _ (List.mem_of_getElem? (i := 2) rfl)))))))) (List.mem_cons_of_mem _ (List.mem_append_left _ (List.mem_append_left _ (List.mem_append_left _ (List.mem_append_left _ (List.mem_append_left _ (List.mem_append_left _ (List.mem_of_getElem? (i := 3) rfl)))))))) (by decide +kernel) (fun _ h => List.mem_cons_of_mem _ (List.mem_append_right _ (h))) hnt_ISE hgood_ISE h (by rw [hR]; decide) (by rw [hR]; exact Nat.le_of_ble_eq_true rfl) (by rw [hR]; decide) (by rw [hR]; decide) (by decide) (by decide) dX4_file_56 dX4_file_59 dX4_file_60 dX4_file_62 dX4_file_65
      · rw [if_pos c7] at h
        exact v_throw E ht (cls := "java/lang/IllegalArgumentException") (text := "event, accused or points is out of range") (is := 82) (ic := 35) rfl (by decide +kernel) (List.mem_cons_of_mem _ (List.mem_append_left _ (List.mem_append_left _ (List.mem_append_left _ (List.mem_append_left _ (List.mem_append_left _ (List.mem_append_left _ (List.mem_of_getElem? (i := 0) rfl)))))))) (List.mem_cons_of_mem _ (List.mem_append_left _ (List.mem_append_left _ (List.mem_append_left _ (List.mem_append_left _ (List.mem_append_left _ (List.mem_append_left _ (List.mem_of_getElem? (i := 1) rfl)))))))) (by decide +kernel) (fun _ h => List.mem_cons_of_mem _ (List.mem_append_left _ (List.mem_append_right _ (h)))) hnt_IAE hgood_IAE h (by rw [hR]; decide) (by rw [hR]; exact Nat.le_of_ble_eq_true rfl) (by rw [hR]; decide) (by rw [hR]; decide) (by decide) (by decide) dX4_file_34 dX4_file_37 dX4_file_38 dX4_file_40 dX4_file_43
/-! X4_item -/
abbrev rmX4_item : Room := { frames := 6, cells := 1, slots := 10, locals := 90 }
theorem iwX4_item_X2 : ∀ w ∈ u_ws RX2 TX2 10, w ∈ wsX4_item := fun _ h => List.mem_cons_of_mem _ (List.mem_append_left _ (List.mem_append_left _ (List.mem_append_left _ (List.mem_append_left _ (List.mem_append_right _ (h))))))
theorem iwX4_item_X4 : ∀ w ∈ u_ws RX4 TX4 13, w ∈ wsX4_item := fun _ h => List.mem_cons_of_mem _ (List.mem_append_left _ (List.mem_append_left _ (List.mem_append_left _ (List.mem_append_left _ (List.mem_append_left _ (List.mem_append_right _ (h)))))))
theorem flX4_item_119 : Cond.fieldLink RX4 119 "Chargehouse" "itemCount" "I" ∈ wsX4_item := List.mem_cons_of_mem _ (List.mem_append_left _ (List.mem_append_left _ (List.mem_append_left _ (List.mem_append_left _ (List.mem_append_left _ (List.mem_append_left _ (List.mem_append_left _ (List.mem_of_getElem? (i := 6) rfl))))))))
theorem flX4_item_23 : Cond.fieldLink RX4 23 "Chargehouse" "itemRows" "[LChargehouse$Item;" ∈ wsX4_item := List.mem_cons_of_mem _ (List.mem_append_left _ (List.mem_append_left _ (List.mem_append_left _ (List.mem_append_left _ (List.mem_append_left _ (List.mem_append_left _ (List.mem_append_left _ (List.mem_of_getElem? (i := 7) rfl))))))))
theorem flX4_item_70 : Cond.fieldLink RX4 70 "Chargehouse" "today" "I" ∈ wsX4_item := List.mem_cons_of_mem _ (List.mem_append_left _ (List.mem_append_left _ (List.mem_append_left _ (List.mem_append_left _ (List.mem_append_left _ (List.mem_append_left _ (List.mem_append_left _ (List.mem_of_getElem? (i := 11) rfl))))))))
def wX4_item (M : hM) (o : Nat) (a1 : Int32) (a2 : Int32) (a3 : Int32) (a4 : Int32) (a5 : Int32) (a6 : Int32) (Q : hM → Int32 → Prop) (X : String → hM → Prop) : Prop :=
  ∃ y2, hC M 4 (some o) = some y2 ∧
  ∃ x1, fX4_fileAt M o a1 = some x1 ∧
  if x1 = none then (
    X "java/lang/IndexOutOfBoundsException" M
  ) else (
    ∃ x4, fX4_isWithin a2 0 9 = some x4 ∧
    if (x4 : Int32) = 0 then (
      X "java/lang/IndexOutOfBoundsException" M
    ) else (
      ∃ x6, fX4_isWithin a3 (-9) 9 = some x6 ∧
      if (x6 : Int32) = 0 then (
        X "java/lang/IllegalArgumentException" M
      ) else (
        if (a3 : Int32) = 0 then (
          X "java/lang/IllegalArgumentException" M
        ) else (
          ∃ y10, hC M 1 x1 = some y10 ∧
          ∃ x9, fX1_hasAll M y10 a4 = some x9 ∧
          if (x9 : Int32) = 0 then (
            X "java/lang/IllegalArgumentException" M
          ) else (
            ∃ x12, fX4_isWithin a5 0 2 = some x12 ∧
            if (x12 : Int32) = 0 then (
              X "java/lang/IllegalArgumentException" M
            ) else (
              ∃ x14, gI M 4 5 (some o) = some x14 ∧
              ∃ x15, gR M 4 2 (some o) = some x15 ∧
              ∃ x16, aL M 5 x15 = some x16 ∧
              if (x14 : Int32) < x16 then (
                ∃ x18, gR M 4 2 (some o) = some x18 ∧
                ∃ x19, gI M 4 5 (some o) = some x19 ∧
                ∀ q20 : Nat, M q20 = none →
                ∃ x21, gI (hst M q20 (.inr (2, [.int 0, .int 0, .int 0, .int 0, .int 0, .int 0, .int 0, .int 0, .int 0, .int 0]))) 4 6 (some o) = some x21 ∧
                wX2_init (hst M q20 (.inr (2, [.int 0, .int 0, .int 0, .int 0, .int 0, .int 0, .int 0, .int 0, .int 0, .int 0]))) q20 a1 a2 a3 a4 a5 a6 x21 (fun M23 =>
                ∃ M24, sR M23 5 x18 x19 2 (some q20) = some M24 ∧
                ∃ x25, gI M24 4 5 (some o) = some x25 ∧
                ∃ M26, pV M24 4 5 (some o) (.int (x25 + 1)) = some M26 ∧
                ∃ x27, gI M26 4 5 (some o) = some x27 ∧
                Q M26 (x27 - 1))
              ) else (
                X "java/lang/IllegalStateException" M
              )
            )
          )
        )
      )
    )
  )
set_option maxRecDepth 100000 in
set_option maxHeartbeats 4000000 in
theorem cX4_item_met (l : Launch) (hfl : l.stackTraces = false) (G : hG) (M : hM) {o : Nat} {a1 : Int32} {a2 : Int32} {a3 : Int32} {a4 : Int32} {a5 : Int32} {a6 : Int32} {Q : hM → Int32 → Prop} {X : String → hM → Prop} (h : wX4_item M o a1 a2 a3 a4 a5 a6 Q X) : hEMet l yX4_item wsX4_item rmX4_item [.ref o, .int a1, .int a2, .int a3, .int a4, .int a5, .int a6] G M (hQi Q) X 1 10 := by
  refine he_entry (own := RX4) (cc := cX4_item) (maxL := 8) (ret := (some .int)) (lv := [some (va_rf (some o)), some (.int a1), some (.int a2), some (.int a3), some (.int a4), some (.int a5), some (.int a6), none]) hfl (by decide) rfl rfl (hcc rfl (hcc rfl (hcc rfl (hcc rfl (hcc rfl (hcc rfl (hcc rfl hc0))))))) (Nat.le_of_ble_eq_true rfl) rfl (fun κ sz hG hl hR E ht hn => ?_)
  subst hG; subst hl
  unfold wX4_item at h
  have F := E.1
  have C := F.1
  refine v_aload_n C (pc := 0) (i := 0) dX4_item_0 rfl ?_
  refine v_iload_n C (pc := 1) (i := 1) dX4_item_1 rfl ?_
  obtain ⟨y2, hy2, h⟩ := h
  obtain ⟨fsy2, hfy2⟩ := hC_some hy2
  obtain ⟨x1, e1, h⟩ := h
  refine v_pV C (pc := 2) (ci := 4) [.int a1] 1 (cX4_fileAt_met (kl κ) (kG κ) _ e1) hfy2 rfl gX4_item_X4_fileAt rfl hdX4_fileAt rfl rfl rfl (by rw [hR]; exact ⟨Nat.le_of_ble_eq_true rfl, Nat.le_of_ble_eq_true rfl⟩) (by rw [hR]; decide) (Nat.le_of_ble_eq_true rfl) rfl dX4_item_2 ?_
  refine v_astore C (pc := 5) (i := 7) (lv' := [some (va_rf (some o)), some (.int a1), some (.int a2), some (.int a3), some (.int a4), some (.int a5), some (.int a6), some (va_rf x1)]) dX4_item_5 rfl (lw_bi (j := 6) rfl) rfl ?_
  refine v_aload C (pc := 7) (i := 7) dX4_item_7 rfl ?_
  refine v_ifnull C (pc := 9) (tgt := 22) dX4_item_9 (by decide) (fun c3 => ?_) (fun c3 => ?_)
  · rw [if_pos c3] at h
    exact v_throw E ht (cls := "java/lang/IndexOutOfBoundsException") (text := "no such file or element") (is := 112) (ic := 58) rfl (by decide +kernel) (List.mem_cons_of_mem _ (List.mem_append_left _ (List.mem_append_left _ (List.mem_append_left _ (List.mem_append_left _ (List.mem_append_left _ (List.mem_append_left _ (List.mem_append_left _ (List.mem_of_getElem? (i := 0) rfl))))))))) (List.mem_cons_of_mem _ (List.mem_append_left _ (List.mem_append_left _ (List.mem_append_left _ (List.mem_append_left _ (List.mem_append_left _ (List.mem_append_left _ (List.mem_append_left _ (List.mem_of_getElem? (i := 1) rfl))))))))) (by decide +kernel) (fun _ h => List.mem_cons_of_mem _ (List.mem_append_left _ (List.mem_append_left _ (List.mem_append_right _ (h))))) hnt_IOB hgood_IOB h (by rw [hR]; decide) (by rw [hR]; exact Nat.le_of_ble_eq_true rfl) (by rw [hR]; decide) (by rw [hR]; decide) (by decide) (by decide) dX4_item_22 dX4_item_25 dX4_item_26 dX4_item_28 dX4_item_31
  · rw [if_neg c3] at h
    refine v_iload_n C (pc := 12) (i := 2) dX4_item_12 rfl ?_
    refine v_iconst C (pc := 13) (v := 0) dX4_item_13 (by decide) ?_
    refine v_bipush C (pc := 14) (v := 9) dX4_item_14 (by decide) ?_
    obtain ⟨x4, e4, h⟩ := h
    refine v_pS C (pc := 16) [.int a2, .int 0, .int 9] 3 (cX4_isWithin_met (kl κ) (kG κ) _ e4) gX4_item_X4_isWithin rfl hdsX4_isWithin rfl rfl rfl (by rw [hR]; exact ⟨Nat.le_of_ble_eq_true rfl, Nat.le_of_ble_eq_true rfl⟩) (by rw [hR]; decide) (Nat.le_of_ble_eq_true rfl) rfl dX4_item_16 ?_
    refine v_if_ne C (pc := 19) (tgt := 32) dX4_item_19 (by decide) (fun c5 => ?_) (fun c5 => ?_)
    · rw [if_neg c5] at h
      refine v_iload_n C (pc := 32) (i := 3) dX4_item_32 rfl ?_
      refine v_bipush C (pc := 33) (v := (-9)) dX4_item_33 (by decide) ?_
      refine v_bipush C (pc := 35) (v := 9) dX4_item_35 (by decide) ?_
      obtain ⟨x6, e6, h⟩ := h
      refine v_pS C (pc := 37) [.int a3, .int (-9), .int 9] 3 (cX4_isWithin_met (kl κ) (kG κ) _ e6) gX4_item_X4_isWithin rfl hdsX4_isWithin rfl rfl rfl (by rw [hR]; exact ⟨Nat.le_of_ble_eq_true rfl, Nat.le_of_ble_eq_true rfl⟩) (by rw [hR]; decide) (Nat.le_of_ble_eq_true rfl) rfl dX4_item_37 ?_
      refine v_if_eq C (pc := 40) (tgt := 67) dX4_item_40 (by decide) (fun c7 => ?_) (fun c7 => ?_)
      · rw [if_pos c7] at h
        exact v_throw E ht (cls := "java/lang/IllegalArgumentException") (text := "weight, against or how is out of range") (is := 117) (ic := 35) rfl (by decide +kernel) (List.mem_cons_of_mem _ (List.mem_append_left _ (List.mem_append_left _ (List.mem_append_left _ (List.mem_append_left _ (List.mem_append_left _ (List.mem_append_left _ (List.mem_append_left _ (List.mem_of_getElem? (i := 2) rfl))))))))) (List.mem_cons_of_mem _ (List.mem_append_left _ (List.mem_append_left _ (List.mem_append_left _ (List.mem_append_left _ (List.mem_append_left _ (List.mem_append_left _ (List.mem_append_left _ (List.mem_of_getElem? (i := 3) rfl))))))))) (by decide +kernel) (fun _ h => List.mem_cons_of_mem _ (List.mem_append_left _ (List.mem_append_right _ (h)))) hnt_IAE hgood_IAE h (by rw [hR]; decide) (by rw [hR]; exact Nat.le_of_ble_eq_true rfl) (by rw [hR]; decide) (by rw [hR]; decide) (by decide) (by decide) dX4_item_67 dX4_item_70 dX4_item_71 dX4_item_73 dX4_item_76
      · rw [if_neg c7] at h
        refine v_iload_n C (pc := 43) (i := 3) dX4_item_43 rfl ?_
        refine v_if_eq C (pc := 44) (tgt := 67) dX4_item_44 (by decide) (fun c8 => ?_) (fun c8 => ?_)
        · rw [if_pos c8] at h
          exact v_throw E ht (cls := "java/lang/IllegalArgumentException") (text := "weight, against or how is out of range") (is := 117) (ic := 35) rfl (by decide +kernel) (List.mem_cons_of_mem _ (List.mem_append_left _ (List.mem_append_left _ (List.mem_append_left _ (List.mem_append_left _ (List.mem_append_left _ (List.mem_append_left _ (List.mem_append_left _ (List.mem_of_getElem? (i := 2) rfl))))))))) (List.mem_cons_of_mem _ (List.mem_append_left _ (List.mem_append_left _ (List.mem_append_left _ (List.mem_append_left _ (List.mem_append_left _ (List.mem_append_left _ (List.mem_append_left _ (List.mem_of_getElem? (i := 3) rfl))))))))) (by decide +kernel) (fun _ h => List.mem_cons_of_mem _ (List.mem_append_left _ (List.mem_append_right _ (h)))) hnt_IAE hgood_IAE h (by rw [hR]; decide) (by rw [hR]; exact Nat.le_of_ble_eq_true rfl) (by rw [hR]; decide) (by rw [hR]; decide) (by decide) (by decide) dX4_item_67 dX4_item_70 dX4_item_71 dX4_item_73 dX4_item_76
        · rw [if_neg c8] at h
          refine v_aload C (pc := 47) (i := 7) dX4_item_47 rfl ?_
          refine v_iload C (pc := 49) (i := 4) dX4_item_49 rfl ?_
          obtain ⟨y10, hy10, hh⟩ := h
          skip
          obtain ⟨rfl, fsy10, hfy10⟩ := hC_inv hy10
          have h := hh
          clear hh
          obtain ⟨x9, e9, h⟩ := h
          refine v_pV C (pc := 51) (ci := 1) [.int a4] 1 (cX1_hasAll_met (kl κ) (kG κ) _ e9) hfy10 rfl gX4_item_X1_hasAll rfl hdX1_hasAll rfl rfl rfl (by rw [hR]; exact ⟨Nat.le_of_ble_eq_true rfl, Nat.le_of_ble_eq_true rfl⟩) (by rw [hR]; decide) (Nat.le_of_ble_eq_true rfl) rfl dX4_item_51 ?_
          refine v_if_eq C (pc := 54) (tgt := 67) dX4_item_54 (by decide) (fun c11 => ?_) (fun c11 => ?_)
          · rw [if_pos c11] at h
            exact v_throw E ht (cls := "java/lang/IllegalArgumentException") (text := "weight, against or how is out of range") (is := 117) (ic := 35) rfl (by decide +kernel) (List.mem_cons_of_mem _ (List.mem_append_left _ (List.mem_append_left _ (List.mem_append_left _ (List.mem_append_left _ (List.mem_append_left _ (List.mem_append_left _ (List.mem_append_left _ (List.mem_of_getElem? (i := 2) rfl))))))))) (List.mem_cons_of_mem _ (List.mem_append_left _ (List.mem_append_left _ (List.mem_append_left _ (List.mem_append_left _ (List.mem_append_left _ (List.mem_append_left _ (List.mem_append_left _ (List.mem_of_getElem? (i := 3) rfl))))))))) (by decide +kernel) (fun _ h => List.mem_cons_of_mem _ (List.mem_append_left _ (List.mem_append_right _ (h)))) hnt_IAE hgood_IAE h (by rw [hR]; decide) (by rw [hR]; exact Nat.le_of_ble_eq_true rfl) (by rw [hR]; decide) (by rw [hR]; decide) (by decide) (by decide) dX4_item_67 dX4_item_70 dX4_item_71 dX4_item_73 dX4_item_76
          · rw [if_neg c11] at h
            refine v_iload C (pc := 57) (i := 5) dX4_item_57 rfl ?_
            refine v_iconst C (pc := 59) (v := 0) dX4_item_59 (by decide) ?_
            refine v_iconst C (pc := 60) (v := 2) dX4_item_60 (by decide) ?_
            obtain ⟨x12, e12, h⟩ := h
            refine v_pS C (pc := 61) [.int a5, .int 0, .int 2] 3 (cX4_isWithin_met (kl κ) (kG κ) _ e12) gX4_item_X4_isWithin rfl hdsX4_isWithin rfl rfl rfl (by rw [hR]; exact ⟨Nat.le_of_ble_eq_true rfl, Nat.le_of_ble_eq_true rfl⟩) (by rw [hR]; decide) (Nat.le_of_ble_eq_true rfl) rfl dX4_item_61 ?_
            refine v_if_ne C (pc := 64) (tgt := 77) dX4_item_64 (by decide) (fun c13 => ?_) (fun c13 => ?_)
            · rw [if_neg c13] at h
              refine v_aload_n C (pc := 77) (i := 0) dX4_item_77 rfl ?_
              obtain ⟨x14, e14, h⟩ := h
              refine v_getI C (pc := 78) (ci := 4) 5 iwX4_item_X4 rfl (by decide) flX4_item_119 e14 dX4_item_78 ?_
              refine v_aload_n C (pc := 81) (i := 0) dX4_item_81 rfl ?_
              obtain ⟨x15, e15, h⟩ := h
              refine v_getR C (pc := 82) (ci := 4) 2 iwX4_item_X4 rfl (by decide) flX4_item_23 e15 dX4_item_82 ?_
              obtain ⟨x16, e16, h⟩ := h
              refine v_alen C (pc := 85) 5 rfl e16 dX4_item_85 ?_
              refine v_icmp_lt C (pc := 86) (tgt := 99) dX4_item_86 (by decide) (fun c17 => ?_) (fun c17 => ?_)
              · rw [if_pos c17] at h
                refine v_aload_n C (pc := 99) (i := 0) dX4_item_99 rfl ?_
                obtain ⟨x18, e18, h⟩ := h
                refine v_getR C (pc := 100) (ci := 4) 2 iwX4_item_X4 rfl (by decide) flX4_item_23 e18 dX4_item_100 ?_
                refine v_aload_n C (pc := 103) (i := 0) dX4_item_103 rfl ?_
                obtain ⟨x19, e19, h⟩ := h
                refine v_getI C (pc := 104) (ci := 4) 5 iwX4_item_X4 rfl (by decide) flX4_item_119 e19 dX4_item_104 ?_
                refine v_new F (pc := 107) (ci := 2) (fs := [.int 0, .int 0, .int 0, .int 0, .int 0, .int 0, .int 0, .int 0, .int 0, .int 0]) iwX4_item_X2 tyX2 tyX2_ok (List.mem_cons_of_mem _ (List.mem_append_left _ (List.mem_append_left _ (List.mem_append_left _ (List.mem_append_left _ (List.mem_append_left _ (List.mem_append_left _ (List.mem_append_left _ (List.mem_of_getElem? (i := 8) rfl))))))))) (List.mem_cons_of_mem _ (List.mem_append_left _ (List.mem_append_left _ (List.mem_append_left _ (List.mem_append_left _ (List.mem_append_left _ (List.mem_append_left _ (List.mem_append_left _ (List.mem_of_getElem? (i := 9) rfl))))))))) (List.mem_cons_of_mem _ (List.mem_append_left _ (List.mem_append_left _ (List.mem_append_left _ (List.mem_append_left _ (List.mem_append_left _ (List.mem_append_left _ (List.mem_append_left _ (List.mem_of_getElem? (i := 10) rfl))))))))) rfl hdfX2 (by rw [hR]; decide) (by rw [hR]; decide) dX4_item_107 (fun q20 hqq20 => ?_)
                have h := h q20 hqq20
                refine v_dup C (pc := 110) dX4_item_110 (rf_cat _) ?_
                refine v_iload_n C (pc := 111) (i := 1) dX4_item_111 rfl ?_
                refine v_iload_n C (pc := 112) (i := 2) dX4_item_112 rfl ?_
                refine v_iload_n C (pc := 113) (i := 3) dX4_item_113 rfl ?_
                refine v_iload C (pc := 114) (i := 4) dX4_item_114 rfl ?_
                refine v_iload C (pc := 116) (i := 5) dX4_item_116 rfl ?_
                refine v_iload C (pc := 118) (i := 6) dX4_item_118 rfl ?_
                refine v_aload_n C (pc := 120) (i := 0) dX4_item_120 rfl ?_
                obtain ⟨x21, e21, h⟩ := h
                refine v_getI C (pc := 121) (ci := 4) 6 iwX4_item_X4 rfl (by decide) flX4_item_70 e21 dX4_item_121 ?_
                refine v_nI F (pc := 124) [.int a1, .int a2, .int a3, .int a4, .int a5, .int a6, .int x21] 7 (cX2_init_met (kl κ) F.2.2.2.1 (kG κ) _ h) gX4_item_X2_init rfl rfl (List.mem_cons_of_mem _ (List.mem_append_left _ (List.mem_append_left _ (List.mem_append_left _ (List.mem_append_left _ (List.mem_append_left _ (List.mem_append_left _ (List.mem_append_left _ (List.mem_of_getElem? (i := 10) rfl))))))))) (List.mem_cons_of_mem _ (List.mem_append_left _ (List.mem_append_left _ (List.mem_append_left _ (List.mem_append_left _ (List.mem_append_left _ (List.mem_append_left _ (List.mem_append_right _ (List.mem_of_getElem? (i := 3) rfl))))))))) (List.mem_cons_of_mem _ (List.mem_append_left _ (List.mem_append_left _ (List.mem_append_left _ (List.mem_append_left _ (List.mem_append_left _ (List.mem_append_left _ (List.mem_append_right _ (List.mem_of_getElem? (i := 4) rfl))))))))) hdsX2_init rfl rfl rfl (by rw [hR]; exact ⟨Nat.le_of_ble_eq_true rfl, Nat.le_of_ble_eq_true rfl⟩) (by rw [hR]; decide) (Nat.le_of_ble_eq_true rfl) rfl dX4_item_124 (hk_v fun M23 h => ?_)
                obtain ⟨M24, e24, h⟩ := h
                refine v_aast F (pc := 127) (ci := 2) 5 rfl rfl e24 dX4_item_127 ?_
                refine v_aload_n C (pc := 128) (i := 0) dX4_item_128 rfl ?_
                refine v_dup C (pc := 129) dX4_item_129 (rf_cat _) ?_
                obtain ⟨x25, e25, h⟩ := h
                refine v_getI C (pc := 130) (ci := 4) 5 iwX4_item_X4 rfl (by decide) flX4_item_119 e25 dX4_item_130 ?_
                refine v_iconst C (pc := 133) (v := 1) dX4_item_133 (by decide) ?_
                refine v_iadd C (pc := 134) dX4_item_134 ?_
                obtain ⟨M26, e26, h⟩ := h
                refine v_put F (pc := 135) (ci := 4) (ty := .int) 5 iwX4_item_X4 tyX4 tyX4_ok nmX4 rfl (by decide) flX4_item_119 rfl rfl (nar_int _) (fit_int _) e26 dX4_item_135 ?_
                refine v_aload_n C (pc := 138) (i := 0) dX4_item_138 rfl ?_
                obtain ⟨x27, e27, h⟩ := h
                refine v_getI C (pc := 139) (ci := 4) 5 iwX4_item_X4 rfl (by decide) flX4_item_119 e27 dX4_item_139 ?_
                refine v_iconst C (pc := 142) (v := 1) dX4_item_142 (by decide) ?_
                refine v_isub C (pc := 143) dX4_item_143 ?_
                exact v_eret (pc := 144) E rfl (nar_int _) ⟨_, rfl, h⟩ (by decide) (by decide) dX4_item_144
              · rw [if_neg c17] at h
                exact v_throw E ht (cls := "java/lang/IllegalStateException") (text := "no more items can come") (is := 122) (ic := 46) rfl (by decide +kernel) (List.mem_cons_of_mem _ (List.mem_append_left _ (List.mem_append_left _ (List.mem_append_left _ (List.mem_append_left _ (List.mem_append_left _ (List.mem_append_left _ (List.mem_append_left _ (List.mem_of_getElem? (i := 4) rfl))))))))) (List.mem_cons_of_mem _ (List.mem_append_left _ (List.mem_append_left _ (List.mem_append_left _ (List.mem_append_left _ (List.mem_append_left _ (List.mem_append_left _ (List.mem_append_left _ (List.mem_of_getElem? (i := 5) rfl))))))))) (by decide +kernel) (fun _ h => List.mem_cons_of_mem _ (List.mem_append_right _ (h))) hnt_ISE hgood_ISE h (by rw [hR]; decide) (by rw [hR]; exact Nat.le_of_ble_eq_true rfl) (by rw [hR]; decide) (by rw [hR]; decide) (by decide) (by decide) dX4_item_89 dX4_item_92 dX4_item_93 dX4_item_95 dX4_item_98
            · rw [if_pos c13] at h
              exact v_throw E ht (cls := "java/lang/IllegalArgumentException") (text := "weight, against or how is out of range") (is := 117) (ic := 35) rfl (by decide +kernel) (List.mem_cons_of_mem _ (List.mem_append_left _ (List.mem_append_left _ (List.mem_append_left _ (List.mem_append_left _ (List.mem_append_left _ (List.mem_append_left _ (List.mem_append_left _ (List.mem_of_getElem? (i := 2) rfl))))))))) (List.mem_cons_of_mem _ (List.mem_append_left _ (List.mem_append_left _ (List.mem_append_left _ (List.mem_append_left _ (List.mem_append_left _ (List.mem_append_left _ (List.mem_append_left _ (List.mem_of_getElem? (i := 3) rfl))))))))) (by decide +kernel) (fun _ h => List.mem_cons_of_mem _ (List.mem_append_left _ (List.mem_append_right _ (h)))) hnt_IAE hgood_IAE h (by rw [hR]; decide) (by rw [hR]; exact Nat.le_of_ble_eq_true rfl) (by rw [hR]; decide) (by rw [hR]; decide) (by decide) (by decide) dX4_item_67 dX4_item_70 dX4_item_71 dX4_item_73 dX4_item_76
    · rw [if_pos c5] at h
      exact v_throw E ht (cls := "java/lang/IndexOutOfBoundsException") (text := "no such file or element") (is := 112) (ic := 58) rfl (by decide +kernel) (List.mem_cons_of_mem _ (List.mem_append_left _ (List.mem_append_left _ (List.mem_append_left _ (List.mem_append_left _ (List.mem_append_left _ (List.mem_append_left _ (List.mem_append_left _ (List.mem_of_getElem? (i := 0) rfl))))))))) (List.mem_cons_of_mem _ (List.mem_append_left _ (List.mem_append_left _ (List.mem_append_left _ (List.mem_append_left _ (List.mem_append_left _ (List.mem_append_left _ (List.mem_append_left _ (List.mem_of_getElem? (i := 1) rfl))))))))) (by decide +kernel) (fun _ h => List.mem_cons_of_mem _ (List.mem_append_left _ (List.mem_append_left _ (List.mem_append_right _ (h))))) hnt_IOB hgood_IOB h (by rw [hR]; decide) (by rw [hR]; exact Nat.le_of_ble_eq_true rfl) (by rw [hR]; decide) (by rw [hR]; decide) (by decide) (by decide) dX4_item_22 dX4_item_25 dX4_item_26 dX4_item_28 dX4_item_31
/-! X4_admit -/
abbrev rmX4_admit : Room := { frames := 6, cells := 1, slots := 6, locals := 90 }
theorem iwX4_admit_X2 : ∀ w ∈ u_ws RX2 TX2 10, w ∈ wsX4_admit := fun _ h => List.mem_cons_of_mem _ (List.mem_append_left _ (List.mem_append_left _ (List.mem_append_left _ (List.mem_append_right _ (h)))))
theorem iwX4_admit_X4 : ∀ w ∈ u_ws RX4 TX4 13, w ∈ wsX4_admit := fun _ h => List.mem_cons_of_mem _ (List.mem_append_left _ (List.mem_append_left _ (List.mem_append_right _ (h))))
theorem flX4_admit_133 : Cond.fieldLink RX4 133 "Chargehouse$Item" "how" "I" ∈ wsX4_admit := List.mem_cons_of_mem _ (List.mem_append_left _ (List.mem_append_left _ (List.mem_append_left _ (List.mem_append_left _ (List.mem_of_getElem? (i := 4) rfl)))))
theorem flX4_admit_136 : Cond.fieldLink RX4 136 "Chargehouse$Item" "admittedOn" "I" ∈ wsX4_admit := List.mem_cons_of_mem _ (List.mem_append_left _ (List.mem_append_left _ (List.mem_append_left _ (List.mem_append_left _ (List.mem_of_getElem? (i := 5) rfl)))))
theorem flX4_admit_70 : Cond.fieldLink RX4 70 "Chargehouse" "today" "I" ∈ wsX4_admit := List.mem_cons_of_mem _ (List.mem_append_left _ (List.mem_append_left _ (List.mem_append_left _ (List.mem_append_left _ (List.mem_of_getElem? (i := 6) rfl)))))
def wX4_admit (M : hM) (o : Nat) (a1 : Int32) (Q : hM → Prop) (X : String → hM → Prop) : Prop :=
  ∃ y2, hC M 4 (some o) = some y2 ∧
  ∃ x1, fX4_itemAt M o a1 = some x1 ∧
  if x1 = none then (
    X "java/lang/IndexOutOfBoundsException" M
  ) else (
    ∃ x4, gI M 2 4 x1 = some x4 ∧
    if (x4 : Int32) = 1 then (
      ∃ x6, gI M 2 7 x1 = some x6 ∧
      if (x6 : Int32) = (-1) then (
        ∃ x8, gI M 4 6 (some o) = some x8 ∧
        ∃ M9, pV M 2 7 x1 (.int x8) = some M9 ∧
        Q M9
      ) else (
        X "java/lang/IllegalStateException" M
      )
    ) else (
      X "java/lang/IllegalStateException" M
    )
  )
set_option maxRecDepth 100000 in
set_option maxHeartbeats 4000000 in
theorem cX4_admit_met (l : Launch) (hfl : l.stackTraces = false) (G : hG) (M : hM) {o : Nat} {a1 : Int32} {Q : hM → Prop} {X : String → hM → Prop} (h : wX4_admit M o a1 Q X) : hEMet l yX4_admit wsX4_admit rmX4_admit [.ref o, .int a1] G M (hQv Q) X 1 6 := by
  refine he_entry (own := RX4) (cc := cX4_admit) (maxL := 3) (ret := none) (lv := [some (va_rf (some o)), some (.int a1), none]) hfl (by decide) rfl rfl (hcc rfl (hcc rfl hc0)) (Nat.le_of_ble_eq_true rfl) rfl (fun κ sz hG hl hR E ht hn => ?_)
  subst hG; subst hl
  unfold wX4_admit at h
  have F := E.1
  have C := F.1
  refine v_aload_n C (pc := 0) (i := 0) dX4_admit_0 rfl ?_
  refine v_iload_n C (pc := 1) (i := 1) dX4_admit_1 rfl ?_
  obtain ⟨y2, hy2, h⟩ := h
  obtain ⟨fsy2, hfy2⟩ := hC_some hy2
  obtain ⟨x1, e1, h⟩ := h
  refine v_pV C (pc := 2) (ci := 4) [.int a1] 1 (cX4_itemAt_met (kl κ) (kG κ) _ e1) hfy2 rfl gX4_admit_X4_itemAt rfl hdX4_itemAt rfl rfl rfl (by rw [hR]; exact ⟨Nat.le_of_ble_eq_true rfl, Nat.le_of_ble_eq_true rfl⟩) (by rw [hR]; decide) (Nat.le_of_ble_eq_true rfl) rfl dX4_admit_2 ?_
  refine v_astore_n C (pc := 5) (i := 2) (lv' := [some (va_rf (some o)), some (.int a1), some (va_rf x1)]) dX4_admit_5 rfl (lw_bi (j := 1) rfl) rfl ?_
  refine v_aload_n C (pc := 6) (i := 2) dX4_admit_6 rfl ?_
  refine v_ifnonnull C (pc := 7) (tgt := 20) dX4_admit_7 (by decide) (fun c3 => ?_) (fun c3 => ?_)
  · rw [if_neg c3] at h
    refine v_aload_n C (pc := 20) (i := 2) dX4_admit_20 rfl ?_
    obtain ⟨x4, e4, h⟩ := h
    refine v_getI C (pc := 21) (ci := 2) 4 iwX4_admit_X2 rfl (by decide) flX4_admit_133 e4 dX4_admit_21 ?_
    refine v_iconst C (pc := 24) (v := 1) dX4_admit_24 (by decide) ?_
    refine v_icmp_ne C (pc := 25) (tgt := 36) dX4_admit_25 (by decide) (fun c5 => ?_) (fun c5 => ?_)
    · rw [if_neg c5] at h
      exact v_throw E ht (cls := "java/lang/IllegalStateException") (text := "the item is not unwarranted, or was admitted") (is := 139) (ic := 46) rfl (by decide +kernel) (List.mem_cons_of_mem _ (List.mem_append_left _ (List.mem_append_left _ (List.mem_append_left _ (List.mem_append_left _ (List.mem_of_getElem? (i := 2) rfl)))))) (List.mem_cons_of_mem _ (List.mem_append_left _ (List.mem_append_left _ (List.mem_append_left _ (List.mem_append_left _ (List.mem_of_getElem? (i := 3) rfl)))))) (by decide +kernel) (fun _ h => List.mem_cons_of_mem _ (List.mem_append_right _ (h))) hnt_ISE hgood_ISE h (by rw [hR]; decide) (by rw [hR]; exact Nat.le_of_ble_eq_true rfl) (by rw [hR]; decide) (by rw [hR]; decide) (by decide) (by decide) dX4_admit_36 dX4_admit_39 dX4_admit_40 dX4_admit_42 dX4_admit_45
    · rw [if_pos c5] at h
      refine v_aload_n C (pc := 28) (i := 2) dX4_admit_28 rfl ?_
      obtain ⟨x6, e6, h⟩ := h
      refine v_getI C (pc := 29) (ci := 2) 7 iwX4_admit_X2 rfl (by decide) flX4_admit_136 e6 dX4_admit_29 ?_
      refine v_iconst C (pc := 32) (v := (-1)) dX4_admit_32 (by decide) ?_
      refine v_icmp_eq C (pc := 33) (tgt := 46) dX4_admit_33 (by decide) (fun c7 => ?_) (fun c7 => ?_)
      · rw [if_pos c7] at h
        refine v_aload_n C (pc := 46) (i := 2) dX4_admit_46 rfl ?_
        refine v_aload_n C (pc := 47) (i := 0) dX4_admit_47 rfl ?_
        obtain ⟨x8, e8, h⟩ := h
        refine v_getI C (pc := 48) (ci := 4) 6 iwX4_admit_X4 rfl (by decide) flX4_admit_70 e8 dX4_admit_48 ?_
        obtain ⟨M9, e9, h⟩ := h
        refine v_put F (pc := 51) (ci := 2) (ty := .int) 7 iwX4_admit_X2 tyX2 tyX2_ok nmX2 rfl (by decide) flX4_admit_136 rfl rfl (nar_int _) (fit_int _) e9 dX4_admit_51 ?_
        exact v_eretV (pc := 54) E rfl ⟨rfl, h⟩ (by decide) (by decide) dX4_admit_54
      · rw [if_neg c7] at h
        exact v_throw E ht (cls := "java/lang/IllegalStateException") (text := "the item is not unwarranted, or was admitted") (is := 139) (ic := 46) rfl (by decide +kernel) (List.mem_cons_of_mem _ (List.mem_append_left _ (List.mem_append_left _ (List.mem_append_left _ (List.mem_append_left _ (List.mem_of_getElem? (i := 2) rfl)))))) (List.mem_cons_of_mem _ (List.mem_append_left _ (List.mem_append_left _ (List.mem_append_left _ (List.mem_append_left _ (List.mem_of_getElem? (i := 3) rfl)))))) (by decide +kernel) (fun _ h => List.mem_cons_of_mem _ (List.mem_append_right _ (h))) hnt_ISE hgood_ISE h (by rw [hR]; decide) (by rw [hR]; exact Nat.le_of_ble_eq_true rfl) (by rw [hR]; decide) (by rw [hR]; decide) (by decide) (by decide) dX4_admit_36 dX4_admit_39 dX4_admit_40 dX4_admit_42 dX4_admit_45
  · rw [if_pos c3] at h
    exact v_throw E ht (cls := "java/lang/IndexOutOfBoundsException") (text := "no such item") (is := 131) (ic := 58) rfl (by decide +kernel) (List.mem_cons_of_mem _ (List.mem_append_left _ (List.mem_append_left _ (List.mem_append_left _ (List.mem_append_left _ (List.mem_of_getElem? (i := 0) rfl)))))) (List.mem_cons_of_mem _ (List.mem_append_left _ (List.mem_append_left _ (List.mem_append_left _ (List.mem_append_left _ (List.mem_of_getElem? (i := 1) rfl)))))) (by decide +kernel) (fun _ h => List.mem_cons_of_mem _ (List.mem_append_left _ (List.mem_append_right _ (h)))) hnt_IOB hgood_IOB h (by rw [hR]; decide) (by rw [hR]; exact Nat.le_of_ble_eq_true rfl) (by rw [hR]; decide) (by rw [hR]; decide) (by decide) (by decide) dX4_admit_10 dX4_admit_13 dX4_admit_14 dX4_admit_16 dX4_admit_19
/-! X4_show -/
abbrev rmX4_show : Room := { frames := 6, cells := 1, slots := 6, locals := 90 }
theorem iwX4_show_X2 : ∀ w ∈ u_ws RX2 TX2 10, w ∈ wsX4_show := fun _ h => List.mem_cons_of_mem _ (List.mem_append_left _ (List.mem_append_left _ (List.mem_append_left _ (List.mem_append_right _ (h)))))
theorem flX4_show_151 : Cond.fieldLink RX4 151 "Chargehouse$Item" "shownTo" "I" ∈ wsX4_show := List.mem_cons_of_mem _ (List.mem_append_left _ (List.mem_append_left _ (List.mem_append_left _ (List.mem_append_left _ (List.mem_append_left _ (List.mem_of_getElem? (i := 4) rfl))))))
theorem flX4_show_154 : Cond.fieldLink RX4 154 "Chargehouse$Item" "file" "I" ∈ wsX4_show := List.mem_cons_of_mem _ (List.mem_append_left _ (List.mem_append_left _ (List.mem_append_left _ (List.mem_append_left _ (List.mem_append_left _ (List.mem_of_getElem? (i := 5) rfl))))))
def wX4_show (M : hM) (o : Nat) (a1 : Int32) (a2 : Int32) (Q : hM → Int32 → Prop) (X : String → hM → Prop) : Prop :=
  ∃ y2, hC M 4 (some o) = some y2 ∧
  ∃ x1, fX4_itemAt M o a1 = some x1 ∧
  if x1 = none then (
    X "java/lang/IndexOutOfBoundsException" M
  ) else (
    ∃ x4, fX4_isWithin a2 0 7 = some x4 ∧
    if (x4 : Int32) = 0 then (
      X "java/lang/IndexOutOfBoundsException" M
    ) else (
      ∃ y7, hC M 2 x1 = some y7 ∧
      ∃ x6, fX2_isAgainst M y7 a2 = some x6 ∧
      if (x6 : Int32) = 0 then (
        X "java/lang/IllegalStateException" M
      ) else (
        ∃ y10, hC M 2 (some y7) = some y10 ∧
        ∃ x9, fX2_wasShownTo M y7 a2 = some x9 ∧
        if (x9 : Int32) = 0 then (
          ∃ x12, gI M 2 8 (some y7) = some x12 ∧
          ∃ M13, pV M 2 8 (some y7) (.int (x12 ||| (1 <<< (a2 &&& 31)))) = some M13 ∧
          ∃ x14, gI M13 2 0 (some y7) = some x14 ∧
          ∃ y16, hC M13 4 (some o) = some y16 ∧
          ∃ x15, fX4_lackedBy M13 o x14 a2 = some x15 ∧
          Q M13 x15
        ) else (
          X "java/lang/IllegalStateException" M
        )
      )
    )
  )
set_option maxRecDepth 100000 in
set_option maxHeartbeats 4000000 in
theorem cX4_show_met (l : Launch) (hfl : l.stackTraces = false) (G : hG) (M : hM) {o : Nat} {a1 : Int32} {a2 : Int32} {Q : hM → Int32 → Prop} {X : String → hM → Prop} (h : wX4_show M o a1 a2 Q X) : hEMet l yX4_show wsX4_show rmX4_show [.ref o, .int a1, .int a2] G M (hQi Q) X 1 6 := by
  refine he_entry (own := RX4) (cc := cX4_show) (maxL := 4) (ret := (some .int)) (lv := [some (va_rf (some o)), some (.int a1), some (.int a2), none]) hfl (by decide) rfl rfl (hcc rfl (hcc rfl (hcc rfl hc0))) (Nat.le_of_ble_eq_true rfl) rfl (fun κ sz hG hl hR E ht hn => ?_)
  subst hG; subst hl
  unfold wX4_show at h
  have F := E.1
  have C := F.1
  refine v_aload_n C (pc := 0) (i := 0) dX4_show_0 rfl ?_
  refine v_iload_n C (pc := 1) (i := 1) dX4_show_1 rfl ?_
  obtain ⟨y2, hy2, h⟩ := h
  obtain ⟨fsy2, hfy2⟩ := hC_some hy2
  obtain ⟨x1, e1, h⟩ := h
  refine v_pV C (pc := 2) (ci := 4) [.int a1] 1 (cX4_itemAt_met (kl κ) (kG κ) _ e1) hfy2 rfl gX4_show_X4_itemAt rfl hdX4_itemAt rfl rfl rfl (by rw [hR]; exact ⟨Nat.le_of_ble_eq_true rfl, Nat.le_of_ble_eq_true rfl⟩) (by rw [hR]; decide) (Nat.le_of_ble_eq_true rfl) rfl dX4_show_2 ?_
  refine v_astore_n C (pc := 5) (i := 3) (lv' := [some (va_rf (some o)), some (.int a1), some (.int a2), some (va_rf x1)]) dX4_show_5 rfl (lw_bi (j := 2) rfl) rfl ?_
  refine v_aload_n C (pc := 6) (i := 3) dX4_show_6 rfl ?_
  refine v_ifnull C (pc := 7) (tgt := 20) dX4_show_7 (by decide) (fun c3 => ?_) (fun c3 => ?_)
  · rw [if_pos c3] at h
    exact v_throw E ht (cls := "java/lang/IndexOutOfBoundsException") (text := "no such item or person") (is := 141) (ic := 58) rfl (by decide +kernel) (List.mem_cons_of_mem _ (List.mem_append_left _ (List.mem_append_left _ (List.mem_append_left _ (List.mem_append_left _ (List.mem_append_left _ (List.mem_of_getElem? (i := 0) rfl))))))) (List.mem_cons_of_mem _ (List.mem_append_left _ (List.mem_append_left _ (List.mem_append_left _ (List.mem_append_left _ (List.mem_append_left _ (List.mem_of_getElem? (i := 1) rfl))))))) (by decide +kernel) (fun _ h => List.mem_cons_of_mem _ (List.mem_append_left _ (List.mem_append_right _ (h)))) hnt_IOB hgood_IOB h (by rw [hR]; decide) (by rw [hR]; exact Nat.le_of_ble_eq_true rfl) (by rw [hR]; decide) (by rw [hR]; decide) (by decide) (by decide) dX4_show_20 dX4_show_23 dX4_show_24 dX4_show_26 dX4_show_29
  · rw [if_neg c3] at h
    refine v_iload_n C (pc := 10) (i := 2) dX4_show_10 rfl ?_
    refine v_iconst C (pc := 11) (v := 0) dX4_show_11 (by decide) ?_
    refine v_bipush C (pc := 12) (v := 7) dX4_show_12 (by decide) ?_
    obtain ⟨x4, e4, h⟩ := h
    refine v_pS C (pc := 14) [.int a2, .int 0, .int 7] 3 (cX4_isWithin_met (kl κ) (kG κ) _ e4) gX4_show_X4_isWithin rfl hdsX4_isWithin rfl rfl rfl (by rw [hR]; exact ⟨Nat.le_of_ble_eq_true rfl, Nat.le_of_ble_eq_true rfl⟩) (by rw [hR]; decide) (Nat.le_of_ble_eq_true rfl) rfl dX4_show_14 ?_
    refine v_if_ne C (pc := 17) (tgt := 30) dX4_show_17 (by decide) (fun c5 => ?_) (fun c5 => ?_)
    · rw [if_neg c5] at h
      refine v_aload_n C (pc := 30) (i := 3) dX4_show_30 rfl ?_
      refine v_iload_n C (pc := 31) (i := 2) dX4_show_31 rfl ?_
      obtain ⟨y7, hy7, hh⟩ := h
      skip
      obtain ⟨rfl, fsy7, hfy7⟩ := hC_inv hy7
      have h := hh
      clear hh
      obtain ⟨x6, e6, h⟩ := h
      refine v_pV C (pc := 32) (ci := 2) [.int a2] 1 (cX2_isAgainst_met (kl κ) (kG κ) _ e6) hfy7 rfl gX4_show_X2_isAgainst rfl hdX2_isAgainst rfl rfl rfl (by rw [hR]; exact ⟨Nat.le_of_ble_eq_true rfl, Nat.le_of_ble_eq_true rfl⟩) (by rw [hR]; decide) (Nat.le_of_ble_eq_true rfl) rfl dX4_show_32 ?_
      refine v_if_eq C (pc := 35) (tgt := 46) dX4_show_35 (by decide) (fun c8 => ?_) (fun c8 => ?_)
      · rw [if_pos c8] at h
        exact v_throw E ht (cls := "java/lang/IllegalStateException") (text := "the item is not against that one, or was shown to that one") (is := 149) (ic := 46) rfl (by decide +kernel) (List.mem_cons_of_mem _ (List.mem_append_left _ (List.mem_append_left _ (List.mem_append_left _ (List.mem_append_left _ (List.mem_append_left _ (List.mem_of_getElem? (i := 2) rfl))))))) (List.mem_cons_of_mem _ (List.mem_append_left _ (List.mem_append_left _ (List.mem_append_left _ (List.mem_append_left _ (List.mem_append_left _ (List.mem_of_getElem? (i := 3) rfl))))))) (by decide +kernel) (fun _ h => List.mem_cons_of_mem _ (List.mem_append_right _ (h))) hnt_ISE hgood_ISE h (by rw [hR]; decide) (by rw [hR]; exact Nat.le_of_ble_eq_true rfl) (by rw [hR]; decide) (by rw [hR]; decide) (by decide) (by decide) dX4_show_46 dX4_show_49 dX4_show_50 dX4_show_52 dX4_show_55
      · rw [if_neg c8] at h
        refine v_aload_n C (pc := 38) (i := 3) dX4_show_38 rfl ?_
        refine v_iload_n C (pc := 39) (i := 2) dX4_show_39 rfl ?_
        obtain ⟨y10, hy10, h⟩ := h
        obtain ⟨fsy10, hfy10⟩ := hC_some hy10
        obtain ⟨x9, e9, h⟩ := h
        refine v_pV C (pc := 40) (ci := 2) [.int a2] 1 (cX2_wasShownTo_met (kl κ) (kG κ) _ e9) hfy10 rfl gX4_show_X2_wasShownTo rfl hdX2_wasShownTo rfl rfl rfl (by rw [hR]; exact ⟨Nat.le_of_ble_eq_true rfl, Nat.le_of_ble_eq_true rfl⟩) (by rw [hR]; decide) (Nat.le_of_ble_eq_true rfl) rfl dX4_show_40 ?_
        refine v_if_eq C (pc := 43) (tgt := 56) dX4_show_43 (by decide) (fun c11 => ?_) (fun c11 => ?_)
        · rw [if_pos c11] at h
          refine v_aload_n C (pc := 56) (i := 3) dX4_show_56 rfl ?_
          refine v_dup C (pc := 57) dX4_show_57 (rf_cat _) ?_
          obtain ⟨x12, e12, h⟩ := h
          refine v_getI C (pc := 58) (ci := 2) 8 iwX4_show_X2 rfl (by decide) flX4_show_151 e12 dX4_show_58 ?_
          refine v_iconst C (pc := 61) (v := 1) dX4_show_61 (by decide) ?_
          refine v_iload_n C (pc := 62) (i := 2) dX4_show_62 rfl ?_
          refine v_ishl C (pc := 63) dX4_show_63 ?_
          refine v_ior C (pc := 64) dX4_show_64 ?_
          obtain ⟨M13, e13, h⟩ := h
          refine v_put F (pc := 65) (ci := 2) (ty := .int) 8 iwX4_show_X2 tyX2 tyX2_ok nmX2 rfl (by decide) flX4_show_151 rfl rfl (nar_int _) (fit_int _) e13 dX4_show_65 ?_
          refine v_aload_n C (pc := 68) (i := 0) dX4_show_68 rfl ?_
          refine v_aload_n C (pc := 69) (i := 3) dX4_show_69 rfl ?_
          obtain ⟨x14, e14, h⟩ := h
          refine v_getI C (pc := 70) (ci := 2) 0 iwX4_show_X2 rfl (by decide) flX4_show_154 e14 dX4_show_70 ?_
          refine v_iload_n C (pc := 73) (i := 2) dX4_show_73 rfl ?_
          obtain ⟨y16, hy16, h⟩ := h
          obtain ⟨fsy16, hfy16⟩ := hC_some hy16
          obtain ⟨x15, e15, h⟩ := h
          refine v_pV C (pc := 74) (ci := 4) [.int x14, .int a2] 2 (cX4_lackedBy_met (kl κ) (kG κ) _ e15) hfy16 rfl gX4_show_X4_lackedBy rfl hdX4_lackedBy rfl rfl rfl (by rw [hR]; exact ⟨Nat.le_of_ble_eq_true rfl, Nat.le_of_ble_eq_true rfl⟩) (by rw [hR]; decide) (Nat.le_of_ble_eq_true rfl) rfl dX4_show_74 ?_
          exact v_eret (pc := 77) E rfl (nar_int _) ⟨_, rfl, h⟩ (by decide) (by decide) dX4_show_77
        · rw [if_neg c11] at h
          exact v_throw E ht (cls := "java/lang/IllegalStateException") (text := "the item is not against that one, or was shown to that one") (is := 149) (ic := 46) rfl (by decide +kernel) (List.mem_cons_of_mem _ (List.mem_append_left _ (List.mem_append_left _ (List.mem_append_left _ (List.mem_append_left _ (List.mem_append_left _ (List.mem_of_getElem? (i := 2) rfl))))))) (List.mem_cons_of_mem _ (List.mem_append_left _ (List.mem_append_left _ (List.mem_append_left _ (List.mem_append_left _ (List.mem_append_left _ (List.mem_of_getElem? (i := 3) rfl))))))) (by decide +kernel) (fun _ h => List.mem_cons_of_mem _ (List.mem_append_right _ (h))) hnt_ISE hgood_ISE h (by rw [hR]; decide) (by rw [hR]; exact Nat.le_of_ble_eq_true rfl) (by rw [hR]; decide) (by rw [hR]; decide) (by decide) (by decide) dX4_show_46 dX4_show_49 dX4_show_50 dX4_show_52 dX4_show_55
    · rw [if_pos c5] at h
      exact v_throw E ht (cls := "java/lang/IndexOutOfBoundsException") (text := "no such item or person") (is := 141) (ic := 58) rfl (by decide +kernel) (List.mem_cons_of_mem _ (List.mem_append_left _ (List.mem_append_left _ (List.mem_append_left _ (List.mem_append_left _ (List.mem_append_left _ (List.mem_of_getElem? (i := 0) rfl))))))) (List.mem_cons_of_mem _ (List.mem_append_left _ (List.mem_append_left _ (List.mem_append_left _ (List.mem_append_left _ (List.mem_append_left _ (List.mem_of_getElem? (i := 1) rfl))))))) (by decide +kernel) (fun _ h => List.mem_cons_of_mem _ (List.mem_append_left _ (List.mem_append_right _ (h)))) hnt_IOB hgood_IOB h (by rw [hR]; decide) (by rw [hR]; exact Nat.le_of_ble_eq_true rfl) (by rw [hR]; decide) (by rw [hR]; decide) (by decide) (by decide) dX4_show_20 dX4_show_23 dX4_show_24 dX4_show_26 dX4_show_29
/-! X4_withhold -/
abbrev rmX4_withhold : Room := { frames := 6, cells := 1, slots := 6, locals := 90 }
theorem iwX4_withhold_X2 : ∀ w ∈ u_ws RX2 TX2 10, w ∈ wsX4_withhold := fun _ h => List.mem_cons_of_mem _ (List.mem_append_left _ (List.mem_append_left _ (List.mem_append_left _ (List.mem_append_right _ (h)))))
theorem flX4_withhold_161 : Cond.fieldLink RX4 161 "Chargehouse$Item" "isSensitive" "Z" ∈ wsX4_withhold := List.mem_cons_of_mem _ (List.mem_append_left _ (List.mem_append_left _ (List.mem_append_left _ (List.mem_append_left _ (List.mem_of_getElem? (i := 4) rfl)))))
theorem flX4_withhold_165 : Cond.fieldLink RX4 165 "Chargehouse$Item" "isWithheld" "Z" ∈ wsX4_withhold := List.mem_cons_of_mem _ (List.mem_append_left _ (List.mem_append_left _ (List.mem_append_left _ (List.mem_append_left _ (List.mem_of_getElem? (i := 5) rfl)))))
def wX4_withhold (M : hM) (o : Nat) (a1 : Int32) (Q : hM → Prop) (X : String → hM → Prop) : Prop :=
  ∃ y2, hC M 4 (some o) = some y2 ∧
  ∃ x1, fX4_itemAt M o a1 = some x1 ∧
  if x1 = none then (
    X "java/lang/IndexOutOfBoundsException" M
  ) else (
    ∃ x4, gI M 2 5 x1 = some x4 ∧
    if (x4 : Int32) = 0 then (
      X "java/lang/IllegalStateException" M
    ) else (
      ∃ x6, gI M 2 9 x1 = some x6 ∧
      if (x6 : Int32) = 0 then (
        ∃ M8, pZ M 2 9 x1 1 = some M8 ∧
        Q M8
      ) else (
        X "java/lang/IllegalStateException" M
      )
    )
  )
set_option maxRecDepth 100000 in
set_option maxHeartbeats 4000000 in
theorem cX4_withhold_met (l : Launch) (hfl : l.stackTraces = false) (G : hG) (M : hM) {o : Nat} {a1 : Int32} {Q : hM → Prop} {X : String → hM → Prop} (h : wX4_withhold M o a1 Q X) : hEMet l yX4_withhold wsX4_withhold rmX4_withhold [.ref o, .int a1] G M (hQv Q) X 1 6 := by
  refine he_entry (own := RX4) (cc := cX4_withhold) (maxL := 3) (ret := none) (lv := [some (va_rf (some o)), some (.int a1), none]) hfl (by decide) rfl rfl (hcc rfl (hcc rfl hc0)) (Nat.le_of_ble_eq_true rfl) rfl (fun κ sz hG hl hR E ht hn => ?_)
  subst hG; subst hl
  unfold wX4_withhold at h
  have F := E.1
  have C := F.1
  refine v_aload_n C (pc := 0) (i := 0) dX4_withhold_0 rfl ?_
  refine v_iload_n C (pc := 1) (i := 1) dX4_withhold_1 rfl ?_
  obtain ⟨y2, hy2, h⟩ := h
  obtain ⟨fsy2, hfy2⟩ := hC_some hy2
  obtain ⟨x1, e1, h⟩ := h
  refine v_pV C (pc := 2) (ci := 4) [.int a1] 1 (cX4_itemAt_met (kl κ) (kG κ) _ e1) hfy2 rfl gX4_withhold_X4_itemAt rfl hdX4_itemAt rfl rfl rfl (by rw [hR]; exact ⟨Nat.le_of_ble_eq_true rfl, Nat.le_of_ble_eq_true rfl⟩) (by rw [hR]; decide) (Nat.le_of_ble_eq_true rfl) rfl dX4_withhold_2 ?_
  refine v_astore_n C (pc := 5) (i := 2) (lv' := [some (va_rf (some o)), some (.int a1), some (va_rf x1)]) dX4_withhold_5 rfl (lw_bi (j := 1) rfl) rfl ?_
  refine v_aload_n C (pc := 6) (i := 2) dX4_withhold_6 rfl ?_
  refine v_ifnonnull C (pc := 7) (tgt := 20) dX4_withhold_7 (by decide) (fun c3 => ?_) (fun c3 => ?_)
  · rw [if_neg c3] at h
    refine v_aload_n C (pc := 20) (i := 2) dX4_withhold_20 rfl ?_
    obtain ⟨x4, e4, h⟩ := h
    refine v_getI C (pc := 21) (ci := 2) 5 iwX4_withhold_X2 rfl (by decide) flX4_withhold_161 e4 dX4_withhold_21 ?_
    refine v_if_eq C (pc := 24) (tgt := 34) dX4_withhold_24 (by decide) (fun c5 => ?_) (fun c5 => ?_)
    · rw [if_pos c5] at h
      exact v_throw E ht (cls := "java/lang/IllegalStateException") (text := "the item is not sensitive, or is withheld") (is := 168) (ic := 46) rfl (by decide +kernel) (List.mem_cons_of_mem _ (List.mem_append_left _ (List.mem_append_left _ (List.mem_append_left _ (List.mem_append_left _ (List.mem_of_getElem? (i := 2) rfl)))))) (List.mem_cons_of_mem _ (List.mem_append_left _ (List.mem_append_left _ (List.mem_append_left _ (List.mem_append_left _ (List.mem_of_getElem? (i := 3) rfl)))))) (by decide +kernel) (fun _ h => List.mem_cons_of_mem _ (List.mem_append_right _ (h))) hnt_ISE hgood_ISE h (by rw [hR]; decide) (by rw [hR]; exact Nat.le_of_ble_eq_true rfl) (by rw [hR]; decide) (by rw [hR]; decide) (by decide) (by decide) dX4_withhold_34 dX4_withhold_37 dX4_withhold_38 dX4_withhold_40 dX4_withhold_43
    · rw [if_neg c5] at h
      refine v_aload_n C (pc := 27) (i := 2) dX4_withhold_27 rfl ?_
      obtain ⟨x6, e6, h⟩ := h
      refine v_getI C (pc := 28) (ci := 2) 9 iwX4_withhold_X2 rfl (by decide) flX4_withhold_165 e6 dX4_withhold_28 ?_
      refine v_if_eq C (pc := 31) (tgt := 44) dX4_withhold_31 (by decide) (fun c7 => ?_) (fun c7 => ?_)
      · rw [if_pos c7] at h
        refine v_aload_n C (pc := 44) (i := 2) dX4_withhold_44 rfl ?_
        refine v_iconst C (pc := 45) (v := 1) dX4_withhold_45 (by decide) ?_
        obtain ⟨M8, e8, h⟩ := h
        obtain ⟨hbe8, e8⟩ := pZ_inv e8
        refine v_put F (pc := 46) (ci := 2) (ty := .boolean) 9 iwX4_withhold_X2 tyX2 tyX2_ok nmX2 rfl (by decide) flX4_withhold_165 rfl rfl (nar_bool hbe8) (fit_bool hbe8) e8 dX4_withhold_46 ?_
        exact v_eretV (pc := 49) E rfl ⟨rfl, h⟩ (by decide) (by decide) dX4_withhold_49
      · rw [if_neg c7] at h
        exact v_throw E ht (cls := "java/lang/IllegalStateException") (text := "the item is not sensitive, or is withheld") (is := 168) (ic := 46) rfl (by decide +kernel) (List.mem_cons_of_mem _ (List.mem_append_left _ (List.mem_append_left _ (List.mem_append_left _ (List.mem_append_left _ (List.mem_of_getElem? (i := 2) rfl)))))) (List.mem_cons_of_mem _ (List.mem_append_left _ (List.mem_append_left _ (List.mem_append_left _ (List.mem_append_left _ (List.mem_of_getElem? (i := 3) rfl)))))) (by decide +kernel) (fun _ h => List.mem_cons_of_mem _ (List.mem_append_right _ (h))) hnt_ISE hgood_ISE h (by rw [hR]; decide) (by rw [hR]; exact Nat.le_of_ble_eq_true rfl) (by rw [hR]; decide) (by rw [hR]; decide) (by decide) (by decide) dX4_withhold_34 dX4_withhold_37 dX4_withhold_38 dX4_withhold_40 dX4_withhold_43
  · rw [if_pos c3] at h
    exact v_throw E ht (cls := "java/lang/IndexOutOfBoundsException") (text := "no such item") (is := 131) (ic := 58) rfl (by decide +kernel) (List.mem_cons_of_mem _ (List.mem_append_left _ (List.mem_append_left _ (List.mem_append_left _ (List.mem_append_left _ (List.mem_of_getElem? (i := 0) rfl)))))) (List.mem_cons_of_mem _ (List.mem_append_left _ (List.mem_append_left _ (List.mem_append_left _ (List.mem_append_left _ (List.mem_of_getElem? (i := 1) rfl)))))) (by decide +kernel) (fun _ h => List.mem_cons_of_mem _ (List.mem_append_left _ (List.mem_append_right _ (h)))) hnt_IOB hgood_IOB h (by rw [hR]; decide) (by rw [hR]; exact Nat.le_of_ble_eq_true rfl) (by rw [hR]; decide) (by rw [hR]; decide) (by decide) (by decide) dX4_withhold_10 dX4_withhold_13 dX4_withhold_14 dX4_withhold_16 dX4_withhold_19
/-! X4_accusedAt -/
abbrev rmX4_accusedAt : Room := { frames := 6, cells := 1, slots := 6, locals := 90 }
def bX4_accusedAt_19 (o : Nat) (Q : hM → Option Nat → Prop) (X : String → hM → Prop) (M : hM) (s0 : Option Nat) : Prop :=
  if s0 = none then (
    X "java/lang/IndexOutOfBoundsException" M
  ) else (
    Q M s0
  )
set_option maxRecDepth 100000 in
set_option maxHeartbeats 4000000 in
theorem tbX4_accusedAt_19 {κ : hKx} {M0 : hM} {sz : Nat} {o : Nat} {Q : hM → Option Nat → Prop} {X : String → hM → Prop} (E : Ce κ RX4 cX4_accusedAt wsX4_accusedAt (some (.object "Chargehouse$Accused")) M0 sz (hQr Q) X 1 6) (hR : kR κ = rmX4_accusedAt) (ht : ∀ x ∈ (kc κ).exceptionTable.toList, False)  {M : hM} {s0 : Option Nat}  (h : bX4_accusedAt_19 o Q X M s0) : VW κ 0 0 M 19 [none, none, none, none, none] [va_rf s0] := by
  unfold bX4_accusedAt_19 at h
  have F := E.1
  have C := F.1
  refine v_astore C (pc := 19) (i := 4) (lv' := [none, none, none, none, some (va_rf s0)]) dX4_accusedAt_19 rfl (lw_bn (j := 3) rfl) rfl ?_
  refine v_aload C (pc := 21) (i := 4) dX4_accusedAt_21 rfl ?_
  refine v_ifnonnull C (pc := 23) (tgt := 37) dX4_accusedAt_23 (by decide) (fun c6 => ?_) (fun c6 => ?_)
  · rw [if_neg c6] at h
    refine v_aload C (pc := 37) (i := 4) dX4_accusedAt_37 rfl ?_
    exact v_eretR (pc := 39) E rfl ⟨_, rfl, h⟩ (by decide) (by decide) dX4_accusedAt_39
  · rw [if_pos c6] at h
    exact v_throwW E ht (cls := "java/lang/IndexOutOfBoundsException") (text := "no such file or accused") (is := 329) (ic := 58) rfl (by decide +kernel) (List.mem_cons_of_mem _ (List.mem_append_left _ (List.mem_append_left _ (List.mem_append_left _ (List.mem_of_getElem? (i := 0) rfl))))) (List.mem_cons_of_mem _ (List.mem_append_left _ (List.mem_append_left _ (List.mem_append_left _ (List.mem_of_getElem? (i := 1) rfl))))) (by decide +kernel) (fun _ h => List.mem_cons_of_mem _ (List.mem_append_right _ (h))) hnt_IOB hgood_IOB h (by rw [hR]; decide) (by rw [hR]; exact Nat.le_of_ble_eq_true rfl) (by rw [hR]; decide) (by rw [hR]; decide) (by decide) (by decide) dX4_accusedAt_26 dX4_accusedAt_29 dX4_accusedAt_30 dX4_accusedAt_33 dX4_accusedAt_36
def wX4_accusedAt (M : hM) (o : Nat) (a1 : Int32) (a2 : Int32) (Q : hM → Option Nat → Prop) (X : String → hM → Prop) : Prop :=
  ∃ y2, hC M 4 (some o) = some y2 ∧
  ∃ x1, fX4_fileAt M o a1 = some x1 ∧
  if x1 = none then (
    bX4_accusedAt_19 o Q X M none
  ) else (
    ∃ y5, hC M 1 x1 = some y5 ∧
    ∃ x4, fX1_rowOf M y5 a2 = some x4 ∧
    bX4_accusedAt_19 o Q X M x4
  )
set_option maxRecDepth 100000 in
set_option maxHeartbeats 4000000 in
theorem cX4_accusedAt_met (l : Launch) (hfl : l.stackTraces = false) (G : hG) (M : hM) {o : Nat} {a1 : Int32} {a2 : Int32} {Q : hM → Option Nat → Prop} {X : String → hM → Prop} (h : wX4_accusedAt M o a1 a2 Q X) : hEMet l yX4_accusedAt wsX4_accusedAt rmX4_accusedAt [.ref o, .int a1, .int a2] G M (hQr Q) X 1 6 := by
  refine he_entry (own := RX4) (cc := cX4_accusedAt) (maxL := 5) (ret := (some (.object "Chargehouse$Accused"))) (lv := [some (va_rf (some o)), some (.int a1), some (.int a2), none, none]) hfl (by decide) rfl rfl (hcc rfl (hcc rfl (hcc rfl hc0))) (Nat.le_of_ble_eq_true rfl) rfl (fun κ sz hG hl hR E ht hn => ?_)
  subst hG; subst hl
  unfold wX4_accusedAt at h
  have F := E.1
  have C := F.1
  refine v_aload_n C (pc := 0) (i := 0) dX4_accusedAt_0 rfl ?_
  refine v_iload_n C (pc := 1) (i := 1) dX4_accusedAt_1 rfl ?_
  obtain ⟨y2, hy2, h⟩ := h
  obtain ⟨fsy2, hfy2⟩ := hC_some hy2
  obtain ⟨x1, e1, h⟩ := h
  refine v_pV C (pc := 2) (ci := 4) [.int a1] 1 (cX4_fileAt_met (kl κ) (kG κ) _ e1) hfy2 rfl gX4_accusedAt_X4_fileAt rfl hdX4_fileAt rfl rfl rfl (by rw [hR]; exact ⟨Nat.le_of_ble_eq_true rfl, Nat.le_of_ble_eq_true rfl⟩) (by rw [hR]; decide) (Nat.le_of_ble_eq_true rfl) rfl dX4_accusedAt_2 ?_
  refine v_astore_n C (pc := 5) (i := 3) (lv' := [some (va_rf (some o)), some (.int a1), some (.int a2), some (va_rf x1), none]) dX4_accusedAt_5 rfl (lw_bi (j := 2) rfl) rfl ?_
  refine v_aload_n C (pc := 6) (i := 3) dX4_accusedAt_6 rfl ?_
  refine v_ifnonnull C (pc := 7) (tgt := 14) dX4_accusedAt_7 (by decide) (fun c3 => ?_) (fun c3 => ?_)
  · rw [if_neg c3] at h
    refine v_aload_n C (pc := 14) (i := 3) dX4_accusedAt_14 rfl ?_
    refine v_iload_n C (pc := 15) (i := 2) dX4_accusedAt_15 rfl ?_
    obtain ⟨y5, hy5, hh⟩ := h
    skip
    obtain ⟨rfl, fsy5, hfy5⟩ := hC_inv hy5
    have h := hh
    clear hh
    obtain ⟨x4, e4, h⟩ := h
    refine v_pV C (pc := 16) (ci := 1) [.int a2] 1 (cX1_rowOf_met (kl κ) (kG κ) _ e4) hfy5 rfl gX4_accusedAt_X1_rowOf rfl hdX1_rowOf rfl rfl rfl (by rw [hR]; exact ⟨Nat.le_of_ble_eq_true rfl, Nat.le_of_ble_eq_true rfl⟩) (by rw [hR]; decide) (Nat.le_of_ble_eq_true rfl) rfl dX4_accusedAt_16 ?_
    refine v_mask (lv' := [none, none, none, none, none]) [false, false, false, false, false] rfl rfl ?_
    exact tbX4_accusedAt_19 E hR ht  h
  · rw [if_pos c3] at h
    refine v_null C (pc := 10) dX4_accusedAt_10 ?_
    refine v_goto C (pc := 11) (tgt := 19) dX4_accusedAt_11 (by decide) ?_
    refine v_mask (lv' := [none, none, none, none, none]) [false, false, false, false, false] rfl rfl ?_
    exact tbX4_accusedAt_19 E hR ht  h
/-! X4_checkToldOffences -/
abbrev rmX4_checkToldOffences : Room := { frames := 6, cells := 1, slots := 6, locals := 90 }
theorem iwX4_checkToldOffences_X4 : ∀ w ∈ u_ws RX4 TX4 13, w ∈ wsX4_checkToldOffences := fun _ h => List.mem_cons_of_mem _ (List.mem_append_left _ (List.mem_append_right _ (h)))
theorem flX4_checkToldOffences_38 : Cond.fieldLink RX4 38 "Chargehouse" "offenceCount" "I" ∈ wsX4_checkToldOffences := List.mem_cons_of_mem _ (List.mem_append_left _ (List.mem_append_left _ (List.mem_of_getElem? (i := 2) rfl)))
def wX4_checkToldOffences (M : hM) (o : Nat) (a1 : Int32) (Q : hM → Prop) (X : String → hM → Prop) : Prop :=
  ∃ x1, gI M 4 3 (some o) = some x1 ∧
  if ((a1 &&& (((1 <<< (x1 &&& 31)) - 1) ^^^ (-1))) : Int32) = 0 then (
    Q M
  ) else (
    X "java/lang/IllegalArgumentException" M
  )
set_option maxRecDepth 100000 in
set_option maxHeartbeats 4000000 in
theorem cX4_checkToldOffences_met (l : Launch) (hfl : l.stackTraces = false) (G : hG) (M : hM) {o : Nat} {a1 : Int32} {Q : hM → Prop} {X : String → hM → Prop} (h : wX4_checkToldOffences M o a1 Q X) : hEMet l yX4_checkToldOffences wsX4_checkToldOffences rmX4_checkToldOffences [.ref o, .int a1] G M (hQv Q) X 1 6 := by
  refine he_entry (own := RX4) (cc := cX4_checkToldOffences) (maxL := 3) (ret := none) (lv := [some (va_rf (some o)), some (.int a1), none]) hfl (by decide) rfl rfl (hcc rfl (hcc rfl hc0)) (Nat.le_of_ble_eq_true rfl) rfl (fun κ sz hG hl hR E ht hn => ?_)
  subst hG; subst hl
  unfold wX4_checkToldOffences at h
  have F := E.1
  have C := F.1
  refine v_iconst C (pc := 0) (v := 1) dX4_checkToldOffences_0 (by decide) ?_
  refine v_aload_n C (pc := 1) (i := 0) dX4_checkToldOffences_1 rfl ?_
  obtain ⟨x1, e1, h⟩ := h
  refine v_getI C (pc := 2) (ci := 4) 3 iwX4_checkToldOffences_X4 rfl (by decide) flX4_checkToldOffences_38 e1 dX4_checkToldOffences_2 ?_
  refine v_ishl C (pc := 5) dX4_checkToldOffences_5 ?_
  refine v_iconst C (pc := 6) (v := 1) dX4_checkToldOffences_6 (by decide) ?_
  refine v_isub C (pc := 7) dX4_checkToldOffences_7 ?_
  refine v_istore_n C (pc := 8) (i := 2) (lv' := [some (va_rf (some o)), some (.int a1), some (.int ((1 <<< (x1 &&& 31)) - 1))]) dX4_checkToldOffences_8 rfl (lw_bi (j := 1) rfl) rfl ?_
  refine v_iload_n C (pc := 9) (i := 1) dX4_checkToldOffences_9 rfl ?_
  refine v_iload_n C (pc := 10) (i := 2) dX4_checkToldOffences_10 rfl ?_
  refine v_iconst C (pc := 11) (v := (-1)) dX4_checkToldOffences_11 (by decide) ?_
  refine v_ixor C (pc := 12) dX4_checkToldOffences_12 ?_
  refine v_iand C (pc := 13) dX4_checkToldOffences_13 ?_
  refine v_if_eq C (pc := 14) (tgt := 28) dX4_checkToldOffences_14 (by decide) (fun c2 => ?_) (fun c2 => ?_)
  · rw [if_pos c2] at h
    exact v_eretV (pc := 28) E rfl ⟨rfl, h⟩ (by decide) (by decide) dX4_checkToldOffences_28
  · rw [if_neg c2] at h
    exact v_throwW E ht (cls := "java/lang/IllegalArgumentException") (text := "offences has others than are there") (is := 333) (ic := 35) rfl (by decide +kernel) (List.mem_cons_of_mem _ (List.mem_append_left _ (List.mem_append_left _ (List.mem_of_getElem? (i := 0) rfl)))) (List.mem_cons_of_mem _ (List.mem_append_left _ (List.mem_append_left _ (List.mem_of_getElem? (i := 1) rfl)))) (by decide +kernel) (fun _ h => List.mem_cons_of_mem _ (List.mem_append_right _ (h))) hnt_IAE hgood_IAE h (by rw [hR]; decide) (by rw [hR]; exact Nat.le_of_ble_eq_true rfl) (by rw [hR]; decide) (by rw [hR]; decide) (by decide) (by decide) dX4_checkToldOffences_17 dX4_checkToldOffences_20 dX4_checkToldOffences_21 dX4_checkToldOffences_24 dX4_checkToldOffences_27
/-! X4_charge -/
abbrev rmX4_charge : Room := { frames := 7, cells := 3, slots := 18, locals := 143 }
theorem iwX4_charge_X0 : ∀ w ∈ u_ws RX0 TX0 14, w ∈ wsX4_charge := fun _ h => List.mem_cons_of_mem _ (List.mem_append_left _ (List.mem_append_left _ (List.mem_append_left _ (List.mem_append_left _ (List.mem_append_left _ (List.mem_append_left _ (List.mem_append_left _ (List.mem_append_right _ (h)))))))))
theorem iwX4_charge_X4 : ∀ w ∈ u_ws RX4 TX4 13, w ∈ wsX4_charge := fun _ h => List.mem_cons_of_mem _ (List.mem_append_left _ (List.mem_append_left _ (List.mem_append_left _ (List.mem_append_left _ (List.mem_append_left _ (List.mem_append_left _ (List.mem_append_right _ (h))))))))
theorem flX4_charge_178 : Cond.fieldLink RX4 178 "Chargehouse$Accused" "state" "I" ∈ wsX4_charge := List.mem_cons_of_mem _ (List.mem_append_left _ (List.mem_append_left _ (List.mem_append_left _ (List.mem_append_left _ (List.mem_append_left _ (List.mem_append_left _ (List.mem_append_left _ (List.mem_append_left _ (List.mem_append_left _ (List.mem_of_getElem? (i := 2) rfl))))))))))
theorem flX4_charge_190 : Cond.fieldLink RX4 190 "Chargehouse$Accused" "charges" "I" ∈ wsX4_charge := List.mem_cons_of_mem _ (List.mem_append_left _ (List.mem_append_left _ (List.mem_append_left _ (List.mem_append_left _ (List.mem_append_left _ (List.mem_append_left _ (List.mem_append_left _ (List.mem_append_left _ (List.mem_append_left _ (List.mem_of_getElem? (i := 4) rfl))))))))))
theorem flX4_charge_193 : Cond.fieldLink RX4 193 "Chargehouse$Accused" "chargedOn" "I" ∈ wsX4_charge := List.mem_cons_of_mem _ (List.mem_append_left _ (List.mem_append_left _ (List.mem_append_left _ (List.mem_append_left _ (List.mem_append_left _ (List.mem_append_left _ (List.mem_append_left _ (List.mem_append_left _ (List.mem_append_left _ (List.mem_of_getElem? (i := 5) rfl))))))))))
theorem flX4_charge_70 : Cond.fieldLink RX4 70 "Chargehouse" "today" "I" ∈ wsX4_charge := List.mem_cons_of_mem _ (List.mem_append_left _ (List.mem_append_left _ (List.mem_append_left _ (List.mem_append_left _ (List.mem_append_left _ (List.mem_append_left _ (List.mem_append_left _ (List.mem_append_left _ (List.mem_append_left _ (List.mem_of_getElem? (i := 3) rfl))))))))))
def wX4_charge (M : hM) (o : Nat) (a1 : Int32) (a2 : Int32) (a3 : Int32) (Q : hM → Int32 → Prop) (X : String → hM → Prop) : Prop :=
  ∃ y2, hC M 4 (some o) = some y2 ∧
  wX4_accusedAt M o a1 a2 (fun M3 x1 =>
  ∃ y5, hC M3 4 (some o) = some y5 ∧
  wX4_checkToldOffences M3 o a3 (fun M6 =>
  ∃ x7, gI M6 0 2 x1 = some x7 ∧
  if (x7 : Int32) = 0 then (
    ∃ x9, gI M6 4 6 (some o) = some x9 ∧
    ∃ y11, hC M6 4 (some o) = some y11 ∧
    ∃ x10, fX4_chargeable M6 o x1 x9 = some x10 ∧
    ∃ y13, hC M6 4 (some o) = some y13 ∧
    ∃ x12, fX4_isRight M6 o a3 x10 = some x12 ∧
    if (x12 : Int32) = 0 then (
      X "java/lang/IllegalStateException" M6
    ) else (
      ∃ M15, pV M6 0 2 x1 (.int 2) = some M15 ∧
      ∃ M16, pV M15 0 3 x1 (.int a3) = some M16 ∧
      ∃ x17, gI M16 4 6 (some o) = some x17 ∧
      ∃ M18, pV M16 0 4 x1 (.int x17) = some M18 ∧
      ∃ y20, hC M18 4 (some o) = some y20 ∧
      ∃ x19, fX4_gravityOf M18 o a3 = some x19 ∧
      Q M18 x19
    )
  ) else (
    X "java/lang/IllegalStateException" M6
  )) X) X
set_option maxRecDepth 100000 in
set_option maxHeartbeats 4000000 in
theorem cX4_charge_met (l : Launch) (hfl : l.stackTraces = false) (G : hG) (M : hM) {o : Nat} {a1 : Int32} {a2 : Int32} {a3 : Int32} {Q : hM → Int32 → Prop} {X : String → hM → Prop} (h : wX4_charge M o a1 a2 a3 Q X) : hEMet l yX4_charge wsX4_charge rmX4_charge [.ref o, .int a1, .int a2, .int a3] G M (hQi Q) X 3 18 := by
  refine he_entry (own := RX4) (cc := cX4_charge) (maxL := 5) (ret := (some .int)) (lv := [some (va_rf (some o)), some (.int a1), some (.int a2), some (.int a3), none]) hfl (by decide) rfl rfl (hcc rfl (hcc rfl (hcc rfl (hcc rfl hc0)))) (Nat.le_of_ble_eq_true rfl) rfl (fun κ sz hG hl hR E ht hn => ?_)
  subst hG; subst hl
  unfold wX4_charge at h
  have F := E.1
  have C := F.1
  refine v_aload_n C (pc := 0) (i := 0) dX4_charge_0 rfl ?_
  refine v_iload_n C (pc := 1) (i := 1) dX4_charge_1 rfl ?_
  refine v_iload_n C (pc := 2) (i := 2) dX4_charge_2 rfl ?_
  obtain ⟨y2, hy2, h⟩ := h
  obtain ⟨fsy2, hfy2⟩ := hC_some hy2
  refine v_xV F (pc := 3) (ci := 4) [.int a1, .int a2] 2 (cX4_accusedAt_met (kl κ) F.2.2.2.1 (kG κ) _ h) hfy2 rfl gX4_charge_X4_accusedAt rfl hdX4_accusedAt rfl rfl rfl (by rw [hR]; exact ⟨Nat.le_of_ble_eq_true rfl, Nat.le_of_ble_eq_true rfl⟩) (by rw [hR]; decide) (Nat.le_of_ble_eq_true rfl) rfl dX4_charge_3 (fun Ex M9 h9 => v_out E ht h9 (by decide) (by decide)) (hk_r fun M3 x1 h => ?_)
  refine v_astore C (pc := 6) (i := 4) (lv' := [some (va_rf (some o)), some (.int a1), some (.int a2), some (.int a3), some (va_rf x1)]) dX4_charge_6 rfl (lw_bi (j := 3) rfl) rfl ?_
  refine v_aload_n C (pc := 8) (i := 0) dX4_charge_8 rfl ?_
  refine v_iload_n C (pc := 9) (i := 3) dX4_charge_9 rfl ?_
  obtain ⟨y5, hy5, h⟩ := h
  obtain ⟨fsy5, hfy5⟩ := hC_some hy5
  refine v_xV F (pc := 10) (ci := 4) [.int a3] 1 (cX4_checkToldOffences_met (kl κ) F.2.2.2.1 (kG κ) _ h) hfy5 rfl gX4_charge_X4_checkToldOffences rfl hdX4_checkToldOffences rfl rfl rfl (by rw [hR]; exact ⟨Nat.le_of_ble_eq_true rfl, Nat.le_of_ble_eq_true rfl⟩) (by rw [hR]; decide) (Nat.le_of_ble_eq_true rfl) rfl dX4_charge_10 (fun Ex M9 h9 => v_out E ht h9 (by decide) (by decide)) (hk_v fun M6 h => ?_)
  refine v_aload C (pc := 13) (i := 4) dX4_charge_13 rfl ?_
  obtain ⟨x7, e7, h⟩ := h
  refine v_getI C (pc := 15) (ci := 0) 2 iwX4_charge_X0 rfl (by decide) flX4_charge_178 e7 dX4_charge_15 ?_
  refine v_if_ne C (pc := 18) (tgt := 39) dX4_charge_18 (by decide) (fun c8 => ?_) (fun c8 => ?_)
  · rw [if_neg c8] at h
    exact v_throw E ht (cls := "java/lang/IllegalStateException") (text := "that one is not open, or the set is not right today") (is := 188) (ic := 46) rfl (by decide +kernel) (List.mem_cons_of_mem _ (List.mem_append_left _ (List.mem_append_left _ (List.mem_append_left _ (List.mem_append_left _ (List.mem_append_left _ (List.mem_append_left _ (List.mem_append_left _ (List.mem_append_left _ (List.mem_append_left _ (List.mem_of_getElem? (i := 0) rfl))))))))))) (List.mem_cons_of_mem _ (List.mem_append_left _ (List.mem_append_left _ (List.mem_append_left _ (List.mem_append_left _ (List.mem_append_left _ (List.mem_append_left _ (List.mem_append_left _ (List.mem_append_left _ (List.mem_append_left _ (List.mem_of_getElem? (i := 1) rfl))))))))))) (by decide +kernel) (fun _ h => List.mem_cons_of_mem _ (List.mem_append_left _ (List.mem_append_left _ (List.mem_append_right _ (h))))) hnt_ISE hgood_ISE h (by rw [hR]; decide) (by rw [hR]; exact Nat.le_of_ble_eq_true rfl) (by rw [hR]; decide) (by rw [hR]; decide) (by decide) (by decide) dX4_charge_39 dX4_charge_42 dX4_charge_43 dX4_charge_45 dX4_charge_48
  · rw [if_pos c8] at h
    refine v_aload_n C (pc := 21) (i := 0) dX4_charge_21 rfl ?_
    refine v_iload_n C (pc := 22) (i := 3) dX4_charge_22 rfl ?_
    refine v_aload_n C (pc := 23) (i := 0) dX4_charge_23 rfl ?_
    refine v_aload C (pc := 24) (i := 4) dX4_charge_24 rfl ?_
    refine v_aload_n C (pc := 26) (i := 0) dX4_charge_26 rfl ?_
    obtain ⟨x9, e9, h⟩ := h
    refine v_getI C (pc := 27) (ci := 4) 6 iwX4_charge_X4 rfl (by decide) flX4_charge_70 e9 dX4_charge_27 ?_
    obtain ⟨y11, hy11, h⟩ := h
    obtain ⟨fsy11, hfy11⟩ := hC_some hy11
    obtain ⟨x10, e10, h⟩ := h
    refine v_pV C (pc := 30) (ci := 4) [va_rf x1, .int x9] 2 (cX4_chargeable_met (kl κ) (kG κ) _ e10) hfy11 rfl gX4_charge_X4_chargeable rfl hdX4_chargeable rfl rfl rfl (by rw [hR]; exact ⟨Nat.le_of_ble_eq_true rfl, Nat.le_of_ble_eq_true rfl⟩) (by rw [hR]; decide) (Nat.le_of_ble_eq_true rfl) rfl dX4_charge_30 ?_
    obtain ⟨y13, hy13, h⟩ := h
    obtain ⟨fsy13, hfy13⟩ := hC_some hy13
    obtain ⟨x12, e12, h⟩ := h
    refine v_pV C (pc := 33) (ci := 4) [.int a3, .int x10] 2 (cX4_isRight_met (kl κ) (kG κ) _ e12) hfy13 rfl gX4_charge_X4_isRight rfl hdX4_isRight rfl rfl rfl (by rw [hR]; exact ⟨Nat.le_of_ble_eq_true rfl, Nat.le_of_ble_eq_true rfl⟩) (by rw [hR]; decide) (Nat.le_of_ble_eq_true rfl) rfl dX4_charge_33 ?_
    refine v_if_ne C (pc := 36) (tgt := 49) dX4_charge_36 (by decide) (fun c14 => ?_) (fun c14 => ?_)
    · rw [if_neg c14] at h
      refine v_aload C (pc := 49) (i := 4) dX4_charge_49 rfl ?_
      refine v_iconst C (pc := 51) (v := 2) dX4_charge_51 (by decide) ?_
      obtain ⟨M15, e15, h⟩ := h
      refine v_put F (pc := 52) (ci := 0) (ty := .int) 2 iwX4_charge_X0 tyX0 tyX0_ok nmX0 rfl (by decide) flX4_charge_178 rfl rfl (nar_int _) (fit_int _) e15 dX4_charge_52 ?_
      refine v_aload C (pc := 55) (i := 4) dX4_charge_55 rfl ?_
      refine v_iload_n C (pc := 57) (i := 3) dX4_charge_57 rfl ?_
      obtain ⟨M16, e16, h⟩ := h
      refine v_put F (pc := 58) (ci := 0) (ty := .int) 3 iwX4_charge_X0 tyX0 tyX0_ok nmX0 rfl (by decide) flX4_charge_190 rfl rfl (nar_int _) (fit_int _) e16 dX4_charge_58 ?_
      refine v_aload C (pc := 61) (i := 4) dX4_charge_61 rfl ?_
      refine v_aload_n C (pc := 63) (i := 0) dX4_charge_63 rfl ?_
      obtain ⟨x17, e17, h⟩ := h
      refine v_getI C (pc := 64) (ci := 4) 6 iwX4_charge_X4 rfl (by decide) flX4_charge_70 e17 dX4_charge_64 ?_
      obtain ⟨M18, e18, h⟩ := h
      refine v_put F (pc := 67) (ci := 0) (ty := .int) 4 iwX4_charge_X0 tyX0 tyX0_ok nmX0 rfl (by decide) flX4_charge_193 rfl rfl (nar_int _) (fit_int _) e18 dX4_charge_67 ?_
      refine v_aload_n C (pc := 70) (i := 0) dX4_charge_70 rfl ?_
      refine v_iload_n C (pc := 71) (i := 3) dX4_charge_71 rfl ?_
      obtain ⟨y20, hy20, h⟩ := h
      obtain ⟨fsy20, hfy20⟩ := hC_some hy20
      obtain ⟨x19, e19, h⟩ := h
      refine v_pV C (pc := 72) (ci := 4) [.int a3] 1 (cX4_gravityOf_met (kl κ) (kG κ) _ e19) hfy20 rfl gX4_charge_X4_gravityOf rfl hdX4_gravityOf rfl rfl rfl (by rw [hR]; exact ⟨Nat.le_of_ble_eq_true rfl, Nat.le_of_ble_eq_true rfl⟩) (by rw [hR]; decide) (Nat.le_of_ble_eq_true rfl) rfl dX4_charge_72 ?_
      exact v_eret (pc := 75) E rfl (nar_int _) ⟨_, rfl, h⟩ (by decide) (by decide) dX4_charge_75
    · rw [if_pos c14] at h
      exact v_throw E ht (cls := "java/lang/IllegalStateException") (text := "that one is not open, or the set is not right today") (is := 188) (ic := 46) rfl (by decide +kernel) (List.mem_cons_of_mem _ (List.mem_append_left _ (List.mem_append_left _ (List.mem_append_left _ (List.mem_append_left _ (List.mem_append_left _ (List.mem_append_left _ (List.mem_append_left _ (List.mem_append_left _ (List.mem_append_left _ (List.mem_of_getElem? (i := 0) rfl))))))))))) (List.mem_cons_of_mem _ (List.mem_append_left _ (List.mem_append_left _ (List.mem_append_left _ (List.mem_append_left _ (List.mem_append_left _ (List.mem_append_left _ (List.mem_append_left _ (List.mem_append_left _ (List.mem_append_left _ (List.mem_of_getElem? (i := 1) rfl))))))))))) (by decide +kernel) (fun _ h => List.mem_cons_of_mem _ (List.mem_append_left _ (List.mem_append_left _ (List.mem_append_right _ (h))))) hnt_ISE hgood_ISE h (by rw [hR]; decide) (by rw [hR]; exact Nat.le_of_ble_eq_true rfl) (by rw [hR]; decide) (by rw [hR]; decide) (by decide) (by decide) dX4_charge_39 dX4_charge_42 dX4_charge_43 dX4_charge_45 dX4_charge_48
/-! X4_drop -/
abbrev rmX4_drop : Room := { frames := 7, cells := 2, slots := 12, locals := 114 }
theorem iwX4_drop_X0 : ∀ w ∈ u_ws RX0 TX0 14, w ∈ wsX4_drop := fun _ h => List.mem_cons_of_mem _ (List.mem_append_left _ (List.mem_append_left _ (List.mem_append_left _ (List.mem_append_left _ (List.mem_append_right _ (h))))))
theorem iwX4_drop_X4 : ∀ w ∈ u_ws RX4 TX4 13, w ∈ wsX4_drop := fun _ h => List.mem_cons_of_mem _ (List.mem_append_left _ (List.mem_append_left _ (List.mem_append_left _ (List.mem_append_right _ (h)))))
theorem flX4_drop_178 : Cond.fieldLink RX4 178 "Chargehouse$Accused" "state" "I" ∈ wsX4_drop := List.mem_cons_of_mem _ (List.mem_append_left _ (List.mem_append_left _ (List.mem_append_left _ (List.mem_append_left _ (List.mem_append_left _ (List.mem_append_left _ (List.mem_of_getElem? (i := 2) rfl)))))))
theorem flX4_drop_201 : Cond.fieldLink RX4 201 "Chargehouse$Accused" "droppedOn" "I" ∈ wsX4_drop := List.mem_cons_of_mem _ (List.mem_append_left _ (List.mem_append_left _ (List.mem_append_left _ (List.mem_append_left _ (List.mem_append_left _ (List.mem_append_left _ (List.mem_of_getElem? (i := 4) rfl)))))))
theorem flX4_drop_204 : Cond.fieldLink RX4 204 "Chargehouse$Accused" "isReviewed" "Z" ∈ wsX4_drop := List.mem_cons_of_mem _ (List.mem_append_left _ (List.mem_append_left _ (List.mem_append_left _ (List.mem_append_left _ (List.mem_append_left _ (List.mem_append_left _ (List.mem_of_getElem? (i := 5) rfl)))))))
theorem flX4_drop_207 : Cond.fieldLink RX4 207 "Chargehouse$Accused" "isInCustody" "Z" ∈ wsX4_drop := List.mem_cons_of_mem _ (List.mem_append_left _ (List.mem_append_left _ (List.mem_append_left _ (List.mem_append_left _ (List.mem_append_left _ (List.mem_append_left _ (List.mem_of_getElem? (i := 6) rfl)))))))
theorem flX4_drop_210 : Cond.fieldLink RX4 210 "Chargehouse" "drops" "I" ∈ wsX4_drop := List.mem_cons_of_mem _ (List.mem_append_left _ (List.mem_append_left _ (List.mem_append_left _ (List.mem_append_left _ (List.mem_append_left _ (List.mem_append_left _ (List.mem_of_getElem? (i := 7) rfl)))))))
theorem flX4_drop_70 : Cond.fieldLink RX4 70 "Chargehouse" "today" "I" ∈ wsX4_drop := List.mem_cons_of_mem _ (List.mem_append_left _ (List.mem_append_left _ (List.mem_append_left _ (List.mem_append_left _ (List.mem_append_left _ (List.mem_append_left _ (List.mem_of_getElem? (i := 3) rfl)))))))
def wX4_drop (M : hM) (o : Nat) (a1 : Int32) (a2 : Int32) (Q : hM → Prop) (X : String → hM → Prop) : Prop :=
  ∃ y2, hC M 4 (some o) = some y2 ∧
  wX4_accusedAt M o a1 a2 (fun M3 x1 =>
  ∃ x4, gI M3 0 2 x1 = some x4 ∧
  if (x4 : Int32) = 0 then (
    ∃ M6, pV M3 0 2 x1 (.int 1) = some M6 ∧
    ∃ x7, gI M6 4 6 (some o) = some x7 ∧
    ∃ M8, pV M6 0 5 x1 (.int x7) = some M8 ∧
    ∃ M9, pZ M8 0 6 x1 0 = some M9 ∧
    ∃ M10, pZ M9 0 7 x1 0 = some M10 ∧
    ∃ x11, gI M10 4 10 (some o) = some x11 ∧
    ∃ M12, pV M10 4 10 (some o) (.int (x11 + 1)) = some M12 ∧
    Q M12
  ) else (
    X "java/lang/IllegalStateException" M3
  )) X
set_option maxRecDepth 100000 in
set_option maxHeartbeats 4000000 in
theorem cX4_drop_met (l : Launch) (hfl : l.stackTraces = false) (G : hG) (M : hM) {o : Nat} {a1 : Int32} {a2 : Int32} {Q : hM → Prop} {X : String → hM → Prop} (h : wX4_drop M o a1 a2 Q X) : hEMet l yX4_drop wsX4_drop rmX4_drop [.ref o, .int a1, .int a2] G M (hQv Q) X 2 12 := by
  refine he_entry (own := RX4) (cc := cX4_drop) (maxL := 4) (ret := none) (lv := [some (va_rf (some o)), some (.int a1), some (.int a2), none]) hfl (by decide) rfl rfl (hcc rfl (hcc rfl (hcc rfl hc0))) (Nat.le_of_ble_eq_true rfl) rfl (fun κ sz hG hl hR E ht hn => ?_)
  subst hG; subst hl
  unfold wX4_drop at h
  have F := E.1
  have C := F.1
  refine v_aload_n C (pc := 0) (i := 0) dX4_drop_0 rfl ?_
  refine v_iload_n C (pc := 1) (i := 1) dX4_drop_1 rfl ?_
  refine v_iload_n C (pc := 2) (i := 2) dX4_drop_2 rfl ?_
  obtain ⟨y2, hy2, h⟩ := h
  obtain ⟨fsy2, hfy2⟩ := hC_some hy2
  refine v_xV F (pc := 3) (ci := 4) [.int a1, .int a2] 2 (cX4_accusedAt_met (kl κ) F.2.2.2.1 (kG κ) _ h) hfy2 rfl gX4_drop_X4_accusedAt rfl hdX4_accusedAt rfl rfl rfl (by rw [hR]; exact ⟨Nat.le_of_ble_eq_true rfl, Nat.le_of_ble_eq_true rfl⟩) (by rw [hR]; decide) (Nat.le_of_ble_eq_true rfl) rfl dX4_drop_3 (fun Ex M9 h9 => v_out E ht h9 (by decide) (by decide)) (hk_r fun M3 x1 h => ?_)
  refine v_astore_n C (pc := 6) (i := 3) (lv' := [some (va_rf (some o)), some (.int a1), some (.int a2), some (va_rf x1)]) dX4_drop_6 rfl (lw_bi (j := 2) rfl) rfl ?_
  refine v_aload_n C (pc := 7) (i := 3) dX4_drop_7 rfl ?_
  obtain ⟨x4, e4, h⟩ := h
  refine v_getI C (pc := 8) (ci := 0) 2 iwX4_drop_X0 rfl (by decide) flX4_drop_178 e4 dX4_drop_8 ?_
  refine v_if_eq C (pc := 11) (tgt := 24) dX4_drop_11 (by decide) (fun c5 => ?_) (fun c5 => ?_)
  · rw [if_pos c5] at h
    refine v_aload_n C (pc := 24) (i := 3) dX4_drop_24 rfl ?_
    refine v_iconst C (pc := 25) (v := 1) dX4_drop_25 (by decide) ?_
    obtain ⟨M6, e6, h⟩ := h
    refine v_put F (pc := 26) (ci := 0) (ty := .int) 2 iwX4_drop_X0 tyX0 tyX0_ok nmX0 rfl (by decide) flX4_drop_178 rfl rfl (nar_int _) (fit_int _) e6 dX4_drop_26 ?_
    refine v_aload_n C (pc := 29) (i := 3) dX4_drop_29 rfl ?_
    refine v_aload_n C (pc := 30) (i := 0) dX4_drop_30 rfl ?_
    obtain ⟨x7, e7, h⟩ := h
    refine v_getI C (pc := 31) (ci := 4) 6 iwX4_drop_X4 rfl (by decide) flX4_drop_70 e7 dX4_drop_31 ?_
    obtain ⟨M8, e8, h⟩ := h
    refine v_put F (pc := 34) (ci := 0) (ty := .int) 5 iwX4_drop_X0 tyX0 tyX0_ok nmX0 rfl (by decide) flX4_drop_201 rfl rfl (nar_int _) (fit_int _) e8 dX4_drop_34 ?_
    refine v_aload_n C (pc := 37) (i := 3) dX4_drop_37 rfl ?_
    refine v_iconst C (pc := 38) (v := 0) dX4_drop_38 (by decide) ?_
    obtain ⟨M9, e9, h⟩ := h
    obtain ⟨hbe9, e9⟩ := pZ_inv e9
    refine v_put F (pc := 39) (ci := 0) (ty := .boolean) 6 iwX4_drop_X0 tyX0 tyX0_ok nmX0 rfl (by decide) flX4_drop_204 rfl rfl (nar_bool hbe9) (fit_bool hbe9) e9 dX4_drop_39 ?_
    refine v_aload_n C (pc := 42) (i := 3) dX4_drop_42 rfl ?_
    refine v_iconst C (pc := 43) (v := 0) dX4_drop_43 (by decide) ?_
    obtain ⟨M10, e10, h⟩ := h
    obtain ⟨hbe10, e10⟩ := pZ_inv e10
    refine v_put F (pc := 44) (ci := 0) (ty := .boolean) 7 iwX4_drop_X0 tyX0 tyX0_ok nmX0 rfl (by decide) flX4_drop_207 rfl rfl (nar_bool hbe10) (fit_bool hbe10) e10 dX4_drop_44 ?_
    refine v_aload_n C (pc := 47) (i := 0) dX4_drop_47 rfl ?_
    refine v_dup C (pc := 48) dX4_drop_48 (rf_cat _) ?_
    obtain ⟨x11, e11, h⟩ := h
    refine v_getI C (pc := 49) (ci := 4) 10 iwX4_drop_X4 rfl (by decide) flX4_drop_210 e11 dX4_drop_49 ?_
    refine v_iconst C (pc := 52) (v := 1) dX4_drop_52 (by decide) ?_
    refine v_iadd C (pc := 53) dX4_drop_53 ?_
    obtain ⟨M12, e12, h⟩ := h
    refine v_put F (pc := 54) (ci := 4) (ty := .int) 10 iwX4_drop_X4 tyX4 tyX4_ok nmX4 rfl (by decide) flX4_drop_210 rfl rfl (nar_int _) (fit_int _) e12 dX4_drop_54 ?_
    exact v_eretV (pc := 57) E rfl ⟨rfl, h⟩ (by decide) (by decide) dX4_drop_57
  · rw [if_neg c5] at h
    exact v_throw E ht (cls := "java/lang/IllegalStateException") (text := "that one is not open") (is := 199) (ic := 46) rfl (by decide +kernel) (List.mem_cons_of_mem _ (List.mem_append_left _ (List.mem_append_left _ (List.mem_append_left _ (List.mem_append_left _ (List.mem_append_left _ (List.mem_append_left _ (List.mem_of_getElem? (i := 0) rfl)))))))) (List.mem_cons_of_mem _ (List.mem_append_left _ (List.mem_append_left _ (List.mem_append_left _ (List.mem_append_left _ (List.mem_append_left _ (List.mem_append_left _ (List.mem_of_getElem? (i := 1) rfl)))))))) (by decide +kernel) (fun _ h => List.mem_cons_of_mem _ (List.mem_append_left _ (List.mem_append_right _ (h)))) hnt_ISE hgood_ISE h (by rw [hR]; decide) (by rw [hR]; exact Nat.le_of_ble_eq_true rfl) (by rw [hR]; decide) (by rw [hR]; decide) (by decide) (by decide) dX4_drop_14 dX4_drop_17 dX4_drop_18 dX4_drop_20 dX4_drop_23
/-! X4_review -/
abbrev rmX4_review : Room := { frames := 7, cells := 2, slots := 12, locals := 143 }
theorem iwX4_review_X0 : ∀ w ∈ u_ws RX0 TX0 14, w ∈ wsX4_review := fun _ h => List.mem_cons_of_mem _ (List.mem_append_left _ (List.mem_append_left _ (List.mem_append_left _ (List.mem_append_left _ (List.mem_append_left _ (List.mem_append_left _ (List.mem_append_right _ (h))))))))
theorem iwX4_review_X4 : ∀ w ∈ u_ws RX4 TX4 13, w ∈ wsX4_review := fun _ h => List.mem_cons_of_mem _ (List.mem_append_left _ (List.mem_append_left _ (List.mem_append_left _ (List.mem_append_left _ (List.mem_append_left _ (List.mem_append_right _ (h)))))))
theorem flX4_review_178 : Cond.fieldLink RX4 178 "Chargehouse$Accused" "state" "I" ∈ wsX4_review := List.mem_cons_of_mem _ (List.mem_append_left _ (List.mem_append_left _ (List.mem_append_left _ (List.mem_append_left _ (List.mem_append_left _ (List.mem_append_left _ (List.mem_append_left _ (List.mem_append_left _ (List.mem_of_getElem? (i := 2) rfl)))))))))
theorem flX4_review_201 : Cond.fieldLink RX4 201 "Chargehouse$Accused" "droppedOn" "I" ∈ wsX4_review := List.mem_cons_of_mem _ (List.mem_append_left _ (List.mem_append_left _ (List.mem_append_left _ (List.mem_append_left _ (List.mem_append_left _ (List.mem_append_left _ (List.mem_append_left _ (List.mem_append_left _ (List.mem_of_getElem? (i := 4) rfl)))))))))
theorem flX4_review_204 : Cond.fieldLink RX4 204 "Chargehouse$Accused" "isReviewed" "Z" ∈ wsX4_review := List.mem_cons_of_mem _ (List.mem_append_left _ (List.mem_append_left _ (List.mem_append_left _ (List.mem_append_left _ (List.mem_append_left _ (List.mem_append_left _ (List.mem_append_left _ (List.mem_append_left _ (List.mem_of_getElem? (i := 5) rfl)))))))))
theorem flX4_review_215 : Cond.fieldLink RX4 215 "Chargehouse" "reopened" "I" ∈ wsX4_review := List.mem_cons_of_mem _ (List.mem_append_left _ (List.mem_append_left _ (List.mem_append_left _ (List.mem_append_left _ (List.mem_append_left _ (List.mem_append_left _ (List.mem_append_left _ (List.mem_append_left _ (List.mem_of_getElem? (i := 6) rfl)))))))))
theorem flX4_review_70 : Cond.fieldLink RX4 70 "Chargehouse" "today" "I" ∈ wsX4_review := List.mem_cons_of_mem _ (List.mem_append_left _ (List.mem_append_left _ (List.mem_append_left _ (List.mem_append_left _ (List.mem_append_left _ (List.mem_append_left _ (List.mem_append_left _ (List.mem_append_left _ (List.mem_of_getElem? (i := 3) rfl)))))))))
def wX4_review (M : hM) (o : Nat) (a1 : Int32) (a2 : Int32) (Q : hM → Int32 → Prop) (X : String → hM → Prop) : Prop :=
  ∃ y2, hC M 4 (some o) = some y2 ∧
  wX4_accusedAt M o a1 a2 (fun M3 x1 =>
  ∃ x4, gI M3 0 2 x1 = some x4 ∧
  if (x4 : Int32) = 1 then (
    ∃ x6, gI M3 4 6 (some o) = some x6 ∧
    ∃ x7, gI M3 0 5 x1 = some x7 ∧
    if (30 : Int32) < (x6 - x7) then (
      X "java/lang/IllegalStateException" M3
    ) else (
      ∃ x9, gI M3 0 6 x1 = some x9 ∧
      if (x9 : Int32) = 0 then (
        ∃ M11, pZ M3 0 6 x1 1 = some M11 ∧
        ∃ x12, gI M11 0 5 x1 = some x12 ∧
        ∃ y14, hC M11 4 (some o) = some y14 ∧
        ∃ x13, fX4_chargeable M11 o x1 x12 = some x13 ∧
        if (x13 : Int32) = 0 then (
          Q M11 0
        ) else (
          ∃ M16, pV M11 0 2 x1 (.int 0) = some M16 ∧
          ∃ x17, gI M16 4 11 (some o) = some x17 ∧
          ∃ M18, pV M16 4 11 (some o) (.int (x17 + 1)) = some M18 ∧
          Q M18 1
        )
      ) else (
        X "java/lang/IllegalStateException" M3
      )
    )
  ) else (
    X "java/lang/IllegalStateException" M3
  )) X
set_option maxRecDepth 100000 in
set_option maxHeartbeats 4000000 in
theorem cX4_review_met (l : Launch) (hfl : l.stackTraces = false) (G : hG) (M : hM) {o : Nat} {a1 : Int32} {a2 : Int32} {Q : hM → Int32 → Prop} {X : String → hM → Prop} (h : wX4_review M o a1 a2 Q X) : hEMet l yX4_review wsX4_review rmX4_review [.ref o, .int a1, .int a2] G M (hQi Q) X 2 12 := by
  refine he_entry (own := RX4) (cc := cX4_review) (maxL := 4) (ret := (some .boolean)) (lv := [some (va_rf (some o)), some (.int a1), some (.int a2), none]) hfl (by decide) rfl rfl (hcc rfl (hcc rfl (hcc rfl hc0))) (Nat.le_of_ble_eq_true rfl) rfl (fun κ sz hG hl hR E ht hn => ?_)
  subst hG; subst hl
  unfold wX4_review at h
  have F := E.1
  have C := F.1
  refine v_aload_n C (pc := 0) (i := 0) dX4_review_0 rfl ?_
  refine v_iload_n C (pc := 1) (i := 1) dX4_review_1 rfl ?_
  refine v_iload_n C (pc := 2) (i := 2) dX4_review_2 rfl ?_
  obtain ⟨y2, hy2, h⟩ := h
  obtain ⟨fsy2, hfy2⟩ := hC_some hy2
  refine v_xV F (pc := 3) (ci := 4) [.int a1, .int a2] 2 (cX4_accusedAt_met (kl κ) F.2.2.2.1 (kG κ) _ h) hfy2 rfl gX4_review_X4_accusedAt rfl hdX4_accusedAt rfl rfl rfl (by rw [hR]; exact ⟨Nat.le_of_ble_eq_true rfl, Nat.le_of_ble_eq_true rfl⟩) (by rw [hR]; decide) (Nat.le_of_ble_eq_true rfl) rfl dX4_review_3 (fun Ex M9 h9 => v_out E ht h9 (by decide) (by decide)) (hk_r fun M3 x1 h => ?_)
  refine v_astore_n C (pc := 6) (i := 3) (lv' := [some (va_rf (some o)), some (.int a1), some (.int a2), some (va_rf x1)]) dX4_review_6 rfl (lw_bi (j := 2) rfl) rfl ?_
  refine v_aload_n C (pc := 7) (i := 3) dX4_review_7 rfl ?_
  obtain ⟨x4, e4, h⟩ := h
  refine v_getI C (pc := 8) (ci := 0) 2 iwX4_review_X0 rfl (by decide) flX4_review_178 e4 dX4_review_8 ?_
  refine v_iconst C (pc := 11) (v := 1) dX4_review_11 (by decide) ?_
  refine v_icmp_ne C (pc := 12) (tgt := 36) dX4_review_12 (by decide) (fun c5 => ?_) (fun c5 => ?_)
  · rw [if_neg c5] at h
    exact v_throw E ht (cls := "java/lang/IllegalStateException") (text := "that one is not dropped, or for too long, or it was reviewed") (is := 213) (ic := 46) rfl (by decide +kernel) (List.mem_cons_of_mem _ (List.mem_append_left _ (List.mem_append_left _ (List.mem_append_left _ (List.mem_append_left _ (List.mem_append_left _ (List.mem_append_left _ (List.mem_append_left _ (List.mem_append_left _ (List.mem_of_getElem? (i := 0) rfl)))))))))) (List.mem_cons_of_mem _ (List.mem_append_left _ (List.mem_append_left _ (List.mem_append_left _ (List.mem_append_left _ (List.mem_append_left _ (List.mem_append_left _ (List.mem_append_left _ (List.mem_append_left _ (List.mem_of_getElem? (i := 1) rfl)))))))))) (by decide +kernel) (fun _ h => List.mem_cons_of_mem _ (List.mem_append_left _ (List.mem_append_right _ (h)))) hnt_ISE hgood_ISE h (by rw [hR]; decide) (by rw [hR]; exact Nat.le_of_ble_eq_true rfl) (by rw [hR]; decide) (by rw [hR]; decide) (by decide) (by decide) dX4_review_36 dX4_review_39 dX4_review_40 dX4_review_42 dX4_review_45
  · rw [if_pos c5] at h
    refine v_aload_n C (pc := 15) (i := 0) dX4_review_15 rfl ?_
    obtain ⟨x6, e6, h⟩ := h
    refine v_getI C (pc := 16) (ci := 4) 6 iwX4_review_X4 rfl (by decide) flX4_review_70 e6 dX4_review_16 ?_
    refine v_aload_n C (pc := 19) (i := 3) dX4_review_19 rfl ?_
    obtain ⟨x7, e7, h⟩ := h
    refine v_getI C (pc := 20) (ci := 0) 5 iwX4_review_X0 rfl (by decide) flX4_review_201 e7 dX4_review_20 ?_
    refine v_isub C (pc := 23) dX4_review_23 ?_
    refine v_bipush C (pc := 24) (v := 30) dX4_review_24 (by decide) ?_
    refine v_icmp_gt C (pc := 26) (tgt := 36) dX4_review_26 (by decide) (fun c8 => ?_) (fun c8 => ?_)
    · rw [if_pos c8] at h
      exact v_throw E ht (cls := "java/lang/IllegalStateException") (text := "that one is not dropped, or for too long, or it was reviewed") (is := 213) (ic := 46) rfl (by decide +kernel) (List.mem_cons_of_mem _ (List.mem_append_left _ (List.mem_append_left _ (List.mem_append_left _ (List.mem_append_left _ (List.mem_append_left _ (List.mem_append_left _ (List.mem_append_left _ (List.mem_append_left _ (List.mem_of_getElem? (i := 0) rfl)))))))))) (List.mem_cons_of_mem _ (List.mem_append_left _ (List.mem_append_left _ (List.mem_append_left _ (List.mem_append_left _ (List.mem_append_left _ (List.mem_append_left _ (List.mem_append_left _ (List.mem_append_left _ (List.mem_of_getElem? (i := 1) rfl)))))))))) (by decide +kernel) (fun _ h => List.mem_cons_of_mem _ (List.mem_append_left _ (List.mem_append_right _ (h)))) hnt_ISE hgood_ISE h (by rw [hR]; decide) (by rw [hR]; exact Nat.le_of_ble_eq_true rfl) (by rw [hR]; decide) (by rw [hR]; decide) (by decide) (by decide) dX4_review_36 dX4_review_39 dX4_review_40 dX4_review_42 dX4_review_45
    · rw [if_neg c8] at h
      refine v_aload_n C (pc := 29) (i := 3) dX4_review_29 rfl ?_
      obtain ⟨x9, e9, h⟩ := h
      refine v_getI C (pc := 30) (ci := 0) 6 iwX4_review_X0 rfl (by decide) flX4_review_204 e9 dX4_review_30 ?_
      refine v_if_eq C (pc := 33) (tgt := 46) dX4_review_33 (by decide) (fun c10 => ?_) (fun c10 => ?_)
      · rw [if_pos c10] at h
        refine v_aload_n C (pc := 46) (i := 3) dX4_review_46 rfl ?_
        refine v_iconst C (pc := 47) (v := 1) dX4_review_47 (by decide) ?_
        obtain ⟨M11, e11, h⟩ := h
        obtain ⟨hbe11, e11⟩ := pZ_inv e11
        refine v_put F (pc := 48) (ci := 0) (ty := .boolean) 6 iwX4_review_X0 tyX0 tyX0_ok nmX0 rfl (by decide) flX4_review_204 rfl rfl (nar_bool hbe11) (fit_bool hbe11) e11 dX4_review_48 ?_
        refine v_aload_n C (pc := 51) (i := 0) dX4_review_51 rfl ?_
        refine v_aload_n C (pc := 52) (i := 3) dX4_review_52 rfl ?_
        refine v_aload_n C (pc := 53) (i := 3) dX4_review_53 rfl ?_
        obtain ⟨x12, e12, h⟩ := h
        refine v_getI C (pc := 54) (ci := 0) 5 iwX4_review_X0 rfl (by decide) flX4_review_201 e12 dX4_review_54 ?_
        obtain ⟨y14, hy14, h⟩ := h
        obtain ⟨fsy14, hfy14⟩ := hC_some hy14
        obtain ⟨x13, e13, h⟩ := h
        refine v_pV C (pc := 57) (ci := 4) [va_rf x1, .int x12] 2 (cX4_chargeable_met (kl κ) (kG κ) _ e13) hfy14 rfl gX4_review_X4_chargeable rfl hdX4_chargeable rfl rfl rfl (by rw [hR]; exact ⟨Nat.le_of_ble_eq_true rfl, Nat.le_of_ble_eq_true rfl⟩) (by rw [hR]; decide) (Nat.le_of_ble_eq_true rfl) rfl dX4_review_57 ?_
        refine v_if_ne C (pc := 60) (tgt := 65) dX4_review_60 (by decide) (fun c15 => ?_) (fun c15 => ?_)
        · rw [if_neg c15] at h
          refine v_aload_n C (pc := 65) (i := 3) dX4_review_65 rfl ?_
          refine v_iconst C (pc := 66) (v := 0) dX4_review_66 (by decide) ?_
          obtain ⟨M16, e16, h⟩ := h
          refine v_put F (pc := 67) (ci := 0) (ty := .int) 2 iwX4_review_X0 tyX0 tyX0_ok nmX0 rfl (by decide) flX4_review_178 rfl rfl (nar_int _) (fit_int _) e16 dX4_review_67 ?_
          refine v_aload_n C (pc := 70) (i := 0) dX4_review_70 rfl ?_
          refine v_dup C (pc := 71) dX4_review_71 (rf_cat _) ?_
          obtain ⟨x17, e17, h⟩ := h
          refine v_getI C (pc := 72) (ci := 4) 11 iwX4_review_X4 rfl (by decide) flX4_review_215 e17 dX4_review_72 ?_
          refine v_iconst C (pc := 75) (v := 1) dX4_review_75 (by decide) ?_
          refine v_iadd C (pc := 76) dX4_review_76 ?_
          obtain ⟨M18, e18, h⟩ := h
          refine v_put F (pc := 77) (ci := 4) (ty := .int) 11 iwX4_review_X4 tyX4 tyX4_ok nmX4 rfl (by decide) flX4_review_215 rfl rfl (nar_int _) (fit_int _) e18 dX4_review_77 ?_
          refine v_iconst C (pc := 80) (v := 1) dX4_review_80 (by decide) ?_
          exact v_eret (pc := 81) E rfl (by decide +kernel) ⟨_, rfl, h⟩ (by decide) (by decide) dX4_review_81
        · rw [if_pos c15] at h
          refine v_iconst C (pc := 63) (v := 0) dX4_review_63 (by decide) ?_
          exact v_eret (pc := 64) E rfl (by decide +kernel) ⟨_, rfl, h⟩ (by decide) (by decide) dX4_review_64
      · rw [if_neg c10] at h
        exact v_throw E ht (cls := "java/lang/IllegalStateException") (text := "that one is not dropped, or for too long, or it was reviewed") (is := 213) (ic := 46) rfl (by decide +kernel) (List.mem_cons_of_mem _ (List.mem_append_left _ (List.mem_append_left _ (List.mem_append_left _ (List.mem_append_left _ (List.mem_append_left _ (List.mem_append_left _ (List.mem_append_left _ (List.mem_append_left _ (List.mem_of_getElem? (i := 0) rfl)))))))))) (List.mem_cons_of_mem _ (List.mem_append_left _ (List.mem_append_left _ (List.mem_append_left _ (List.mem_append_left _ (List.mem_append_left _ (List.mem_append_left _ (List.mem_append_left _ (List.mem_append_left _ (List.mem_of_getElem? (i := 1) rfl)))))))))) (by decide +kernel) (fun _ h => List.mem_cons_of_mem _ (List.mem_append_left _ (List.mem_append_right _ (h)))) hnt_ISE hgood_ISE h (by rw [hR]; decide) (by rw [hR]; exact Nat.le_of_ble_eq_true rfl) (by rw [hR]; decide) (by rw [hR]; decide) (by decide) (by decide) dX4_review_36 dX4_review_39 dX4_review_40 dX4_review_42 dX4_review_45
/-! X4_trial -/
abbrev rmX4_trial : Room := { frames := 7, cells := 2, slots := 12, locals := 119 }
theorem iwX4_trial_X0 : ∀ w ∈ u_ws RX0 TX0 14, w ∈ wsX4_trial := fun _ h => List.mem_cons_of_mem _ (List.mem_append_left _ (List.mem_append_left _ (List.mem_append_left _ (List.mem_append_left _ (List.mem_append_left _ (List.mem_append_left _ (List.mem_append_right _ (h))))))))
theorem iwX4_trial_X4 : ∀ w ∈ u_ws RX4 TX4 13, w ∈ wsX4_trial := fun _ h => List.mem_cons_of_mem _ (List.mem_append_left _ (List.mem_append_left _ (List.mem_append_left _ (List.mem_append_left _ (List.mem_append_left _ (List.mem_append_right _ (h)))))))
theorem flX4_trial_178 : Cond.fieldLink RX4 178 "Chargehouse$Accused" "state" "I" ∈ wsX4_trial := List.mem_cons_of_mem _ (List.mem_append_left _ (List.mem_append_left _ (List.mem_append_left _ (List.mem_append_left _ (List.mem_append_left _ (List.mem_append_left _ (List.mem_append_left _ (List.mem_append_left _ (List.mem_of_getElem? (i := 2) rfl)))))))))
theorem flX4_trial_190 : Cond.fieldLink RX4 190 "Chargehouse$Accused" "charges" "I" ∈ wsX4_trial := List.mem_cons_of_mem _ (List.mem_append_left _ (List.mem_append_left _ (List.mem_append_left _ (List.mem_append_left _ (List.mem_append_left _ (List.mem_append_left _ (List.mem_append_left _ (List.mem_append_left _ (List.mem_of_getElem? (i := 5) rfl)))))))))
theorem flX4_trial_224 : Cond.fieldLink RX4 224 "Chargehouse" "convictions" "I" ∈ wsX4_trial := List.mem_cons_of_mem _ (List.mem_append_left _ (List.mem_append_left _ (List.mem_append_left _ (List.mem_append_left _ (List.mem_append_left _ (List.mem_append_left _ (List.mem_append_left _ (List.mem_append_left _ (List.mem_of_getElem? (i := 3) rfl)))))))))
theorem flX4_trial_232 : Cond.fieldLink RX4 232 "Chargehouse" "acquittals" "I" ∈ wsX4_trial := List.mem_cons_of_mem _ (List.mem_append_left _ (List.mem_append_left _ (List.mem_append_left _ (List.mem_append_left _ (List.mem_append_left _ (List.mem_append_left _ (List.mem_append_left _ (List.mem_append_left _ (List.mem_of_getElem? (i := 4) rfl)))))))))
theorem flX4_trial_70 : Cond.fieldLink RX4 70 "Chargehouse" "today" "I" ∈ wsX4_trial := List.mem_cons_of_mem _ (List.mem_append_left _ (List.mem_append_left _ (List.mem_append_left _ (List.mem_append_left _ (List.mem_append_left _ (List.mem_append_left _ (List.mem_append_left _ (List.mem_append_left _ (List.mem_of_getElem? (i := 6) rfl)))))))))
def wX4_trial (M : hM) (o : Nat) (a1 : Int32) (a2 : Int32) (Q : hM → Int32 → Prop) (X : String → hM → Prop) : Prop :=
  ∃ y2, hC M 4 (some o) = some y2 ∧
  wX4_accusedAt M o a1 a2 (fun M3 x1 =>
  ∃ x4, gI M3 0 2 x1 = some x4 ∧
  if (x4 : Int32) = 2 then (
    ∃ y7, hC M3 4 (some o) = some y7 ∧
    ∃ x6, fX4_lackedBy M3 o a1 a2 = some x6 ∧
    if (x6 : Int32) ≤ 0 then (
      ∃ y10, hC M3 4 (some o) = some y10 ∧
      ∃ x9, fX4_provenCharges M3 o x1 = some x9 ∧
      ∃ x11, gI M3 4 7 (some o) = some x11 ∧
      ∃ x12, fJ6_bitCount_0f7a4 x9 = some x12 ∧
      ∃ M13, pV M3 4 7 (some o) (.int (x11 + x12)) = some M13 ∧
      ∃ x14, gI M13 4 8 (some o) = some x14 ∧
      ∃ x15, gI M13 0 3 x1 = some x15 ∧
      ∃ x16, fJ6_bitCount_0f7a4 (x15 &&& (x9 ^^^ (-1))) = some x16 ∧
      ∃ M17, pV M13 4 8 (some o) (.int (x14 + x16)) = some M17 ∧
      ∃ x18, gI M17 4 6 (some o) = some x18 ∧
      ∃ y20, hC M17 0 x1 = some y20 ∧
      wX0_answerCharges M17 y20 x9 x18 (fun M21 =>
      Q M21 x9)
    ) else (
      X "java/lang/IllegalStateException" M3
    )
  ) else (
    X "java/lang/IllegalStateException" M3
  )) X
set_option maxRecDepth 100000 in
set_option maxHeartbeats 4000000 in
theorem cX4_trial_met (l : Launch) (hfl : l.stackTraces = false) (G : hG) (M : hM) {o : Nat} {a1 : Int32} {a2 : Int32} {Q : hM → Int32 → Prop} {X : String → hM → Prop} (h : wX4_trial M o a1 a2 Q X) : hEMet l yX4_trial wsX4_trial rmX4_trial [.ref o, .int a1, .int a2] G M (hQi Q) X 2 12 := by
  refine he_entry (own := RX4) (cc := cX4_trial) (maxL := 5) (ret := (some .int)) (lv := [some (va_rf (some o)), some (.int a1), some (.int a2), none, none]) hfl (by decide) rfl rfl (hcc rfl (hcc rfl (hcc rfl hc0))) (Nat.le_of_ble_eq_true rfl) rfl (fun κ sz hG hl hR E ht hn => ?_)
  subst hG; subst hl
  unfold wX4_trial at h
  have F := E.1
  have C := F.1
  refine v_aload_n C (pc := 0) (i := 0) dX4_trial_0 rfl ?_
  refine v_iload_n C (pc := 1) (i := 1) dX4_trial_1 rfl ?_
  refine v_iload_n C (pc := 2) (i := 2) dX4_trial_2 rfl ?_
  obtain ⟨y2, hy2, h⟩ := h
  obtain ⟨fsy2, hfy2⟩ := hC_some hy2
  refine v_xV F (pc := 3) (ci := 4) [.int a1, .int a2] 2 (cX4_accusedAt_met (kl κ) F.2.2.2.1 (kG κ) _ h) hfy2 rfl gX4_trial_X4_accusedAt rfl hdX4_accusedAt rfl rfl rfl (by rw [hR]; exact ⟨Nat.le_of_ble_eq_true rfl, Nat.le_of_ble_eq_true rfl⟩) (by rw [hR]; decide) (Nat.le_of_ble_eq_true rfl) rfl dX4_trial_3 (fun Ex M9 h9 => v_out E ht h9 (by decide) (by decide)) (hk_r fun M3 x1 h => ?_)
  refine v_astore_n C (pc := 6) (i := 3) (lv' := [some (va_rf (some o)), some (.int a1), some (.int a2), some (va_rf x1), none]) dX4_trial_6 rfl (lw_bi (j := 2) rfl) rfl ?_
  refine v_aload_n C (pc := 7) (i := 3) dX4_trial_7 rfl ?_
  obtain ⟨x4, e4, h⟩ := h
  refine v_getI C (pc := 8) (ci := 0) 2 iwX4_trial_X0 rfl (by decide) flX4_trial_178 e4 dX4_trial_8 ?_
  refine v_iconst C (pc := 11) (v := 2) dX4_trial_11 (by decide) ?_
  refine v_icmp_ne C (pc := 12) (tgt := 24) dX4_trial_12 (by decide) (fun c5 => ?_) (fun c5 => ?_)
  · rw [if_neg c5] at h
    exact v_throw E ht (cls := "java/lang/IllegalStateException") (text := "that one is not charged, or lacks something") (is := 218) (ic := 46) rfl (by decide +kernel) (List.mem_cons_of_mem _ (List.mem_append_left _ (List.mem_append_left _ (List.mem_append_left _ (List.mem_append_left _ (List.mem_append_left _ (List.mem_append_left _ (List.mem_append_left _ (List.mem_append_left _ (List.mem_of_getElem? (i := 0) rfl)))))))))) (List.mem_cons_of_mem _ (List.mem_append_left _ (List.mem_append_left _ (List.mem_append_left _ (List.mem_append_left _ (List.mem_append_left _ (List.mem_append_left _ (List.mem_append_left _ (List.mem_append_left _ (List.mem_of_getElem? (i := 1) rfl)))))))))) (by decide +kernel) (fun _ h => List.mem_cons_of_mem _ (List.mem_append_left _ (List.mem_append_right _ (h)))) hnt_ISE hgood_ISE h (by rw [hR]; decide) (by rw [hR]; exact Nat.le_of_ble_eq_true rfl) (by rw [hR]; decide) (by rw [hR]; decide) (by decide) (by decide) dX4_trial_24 dX4_trial_27 dX4_trial_28 dX4_trial_30 dX4_trial_33
  · rw [if_pos c5] at h
    refine v_aload_n C (pc := 15) (i := 0) dX4_trial_15 rfl ?_
    refine v_iload_n C (pc := 16) (i := 1) dX4_trial_16 rfl ?_
    refine v_iload_n C (pc := 17) (i := 2) dX4_trial_17 rfl ?_
    obtain ⟨y7, hy7, h⟩ := h
    obtain ⟨fsy7, hfy7⟩ := hC_some hy7
    obtain ⟨x6, e6, h⟩ := h
    refine v_pV C (pc := 18) (ci := 4) [.int a1, .int a2] 2 (cX4_lackedBy_met (kl κ) (kG κ) _ e6) hfy7 rfl gX4_trial_X4_lackedBy rfl hdX4_lackedBy rfl rfl rfl (by rw [hR]; exact ⟨Nat.le_of_ble_eq_true rfl, Nat.le_of_ble_eq_true rfl⟩) (by rw [hR]; decide) (Nat.le_of_ble_eq_true rfl) rfl dX4_trial_18 ?_
    refine v_if_le C (pc := 21) (tgt := 34) dX4_trial_21 (by decide) (fun c8 => ?_) (fun c8 => ?_)
    · rw [if_pos c8] at h
      refine v_aload_n C (pc := 34) (i := 0) dX4_trial_34 rfl ?_
      refine v_aload_n C (pc := 35) (i := 3) dX4_trial_35 rfl ?_
      obtain ⟨y10, hy10, h⟩ := h
      obtain ⟨fsy10, hfy10⟩ := hC_some hy10
      obtain ⟨x9, e9, h⟩ := h
      refine v_pV C (pc := 36) (ci := 4) [va_rf x1] 1 (cX4_provenCharges_met (kl κ) (kG κ) _ e9) hfy10 rfl gX4_trial_X4_provenCharges rfl hdX4_provenCharges rfl rfl rfl (by rw [hR]; exact ⟨Nat.le_of_ble_eq_true rfl, Nat.le_of_ble_eq_true rfl⟩) (by rw [hR]; decide) (Nat.le_of_ble_eq_true rfl) rfl dX4_trial_36 ?_
      refine v_istore C (pc := 39) (i := 4) (lv' := [some (va_rf (some o)), some (.int a1), some (.int a2), some (va_rf x1), some (.int x9)]) dX4_trial_39 rfl (lw_br (j := 3) rfl) rfl ?_
      refine v_aload_n C (pc := 41) (i := 0) dX4_trial_41 rfl ?_
      refine v_dup C (pc := 42) dX4_trial_42 (rf_cat _) ?_
      obtain ⟨x11, e11, h⟩ := h
      refine v_getI C (pc := 43) (ci := 4) 7 iwX4_trial_X4 rfl (by decide) flX4_trial_224 e11 dX4_trial_43 ?_
      refine v_iload C (pc := 46) (i := 4) dX4_trial_46 rfl ?_
      obtain ⟨x12, e12, h⟩ := h
      refine v_pS C (pc := 48) [.int x9] 1 (cJ6_bitCount_0f7a4_met (kl κ) (kG κ) _ e12) gX4_trial_J6_bitCount_0f7a4 rfl hdsJ6_bitCount_0f7a4 rfl rfl rfl (by rw [hR]; exact ⟨Nat.le_of_ble_eq_true rfl, Nat.le_of_ble_eq_true rfl⟩) (by rw [hR]; decide) (Nat.le_of_ble_eq_true rfl) rfl dX4_trial_48 ?_
      refine v_iadd C (pc := 51) dX4_trial_51 ?_
      obtain ⟨M13, e13, h⟩ := h
      refine v_put F (pc := 52) (ci := 4) (ty := .int) 7 iwX4_trial_X4 tyX4 tyX4_ok nmX4 rfl (by decide) flX4_trial_224 rfl rfl (nar_int _) (fit_int _) e13 dX4_trial_52 ?_
      refine v_aload_n C (pc := 55) (i := 0) dX4_trial_55 rfl ?_
      refine v_dup C (pc := 56) dX4_trial_56 (rf_cat _) ?_
      obtain ⟨x14, e14, h⟩ := h
      refine v_getI C (pc := 57) (ci := 4) 8 iwX4_trial_X4 rfl (by decide) flX4_trial_232 e14 dX4_trial_57 ?_
      refine v_aload_n C (pc := 60) (i := 3) dX4_trial_60 rfl ?_
      obtain ⟨x15, e15, h⟩ := h
      refine v_getI C (pc := 61) (ci := 0) 3 iwX4_trial_X0 rfl (by decide) flX4_trial_190 e15 dX4_trial_61 ?_
      refine v_iload C (pc := 64) (i := 4) dX4_trial_64 rfl ?_
      refine v_iconst C (pc := 66) (v := (-1)) dX4_trial_66 (by decide) ?_
      refine v_ixor C (pc := 67) dX4_trial_67 ?_
      refine v_iand C (pc := 68) dX4_trial_68 ?_
      obtain ⟨x16, e16, h⟩ := h
      refine v_pS C (pc := 69) [.int (x15 &&& (x9 ^^^ (-1)))] 1 (cJ6_bitCount_0f7a4_met (kl κ) (kG κ) _ e16) gX4_trial_J6_bitCount_0f7a4 rfl hdsJ6_bitCount_0f7a4 rfl rfl rfl (by rw [hR]; exact ⟨Nat.le_of_ble_eq_true rfl, Nat.le_of_ble_eq_true rfl⟩) (by rw [hR]; decide) (Nat.le_of_ble_eq_true rfl) rfl dX4_trial_69 ?_
      refine v_iadd C (pc := 72) dX4_trial_72 ?_
      obtain ⟨M17, e17, h⟩ := h
      refine v_put F (pc := 73) (ci := 4) (ty := .int) 8 iwX4_trial_X4 tyX4 tyX4_ok nmX4 rfl (by decide) flX4_trial_232 rfl rfl (nar_int _) (fit_int _) e17 dX4_trial_73 ?_
      refine v_aload_n C (pc := 76) (i := 3) dX4_trial_76 rfl ?_
      refine v_iload C (pc := 77) (i := 4) dX4_trial_77 rfl ?_
      refine v_aload_n C (pc := 79) (i := 0) dX4_trial_79 rfl ?_
      obtain ⟨x18, e18, h⟩ := h
      refine v_getI C (pc := 80) (ci := 4) 6 iwX4_trial_X4 rfl (by decide) flX4_trial_70 e18 dX4_trial_80 ?_
      obtain ⟨y20, hy20, hh⟩ := h
      skip
      obtain ⟨rfl, fsy20, hfy20⟩ := hC_inv hy20
      have h := hh
      clear hh
      refine v_nV F (pc := 83) (ci := 0) [.int x9, .int x18] 2 (cX0_answerCharges_met (kl κ) F.2.2.2.1 (kG κ) _ h) hfy20 rfl gX4_trial_X0_answerCharges rfl hdX0_answerCharges rfl rfl rfl (by rw [hR]; exact ⟨Nat.le_of_ble_eq_true rfl, Nat.le_of_ble_eq_true rfl⟩) (by rw [hR]; decide) (Nat.le_of_ble_eq_true rfl) rfl dX4_trial_83 (hk_v fun M21 h => ?_)
      refine v_iload C (pc := 86) (i := 4) dX4_trial_86 rfl ?_
      exact v_eret (pc := 88) E rfl (nar_int _) ⟨_, rfl, h⟩ (by decide) (by decide) dX4_trial_88
    · rw [if_neg c8] at h
      exact v_throw E ht (cls := "java/lang/IllegalStateException") (text := "that one is not charged, or lacks something") (is := 218) (ic := 46) rfl (by decide +kernel) (List.mem_cons_of_mem _ (List.mem_append_left _ (List.mem_append_left _ (List.mem_append_left _ (List.mem_append_left _ (List.mem_append_left _ (List.mem_append_left _ (List.mem_append_left _ (List.mem_append_left _ (List.mem_of_getElem? (i := 0) rfl)))))))))) (List.mem_cons_of_mem _ (List.mem_append_left _ (List.mem_append_left _ (List.mem_append_left _ (List.mem_append_left _ (List.mem_append_left _ (List.mem_append_left _ (List.mem_append_left _ (List.mem_append_left _ (List.mem_of_getElem? (i := 1) rfl)))))))))) (by decide +kernel) (fun _ h => List.mem_cons_of_mem _ (List.mem_append_left _ (List.mem_append_right _ (h)))) hnt_ISE hgood_ISE h (by rw [hR]; decide) (by rw [hR]; exact Nat.le_of_ble_eq_true rfl) (by rw [hR]; decide) (by rw [hR]; decide) (by decide) (by decide) dX4_trial_24 dX4_trial_27 dX4_trial_28 dX4_trial_30 dX4_trial_33
/-! X4_plea -/
abbrev rmX4_plea : Room := { frames := 7, cells := 3, slots := 18, locals := 114 }
theorem iwX4_plea_X0 : ∀ w ∈ u_ws RX0 TX0 14, w ∈ wsX4_plea := fun _ h => List.mem_cons_of_mem _ (List.mem_append_left _ (List.mem_append_left _ (List.mem_append_left _ (List.mem_append_left _ (List.mem_append_left _ (List.mem_append_left _ (List.mem_append_right _ (h))))))))
theorem iwX4_plea_X4 : ∀ w ∈ u_ws RX4 TX4 13, w ∈ wsX4_plea := fun _ h => List.mem_cons_of_mem _ (List.mem_append_left _ (List.mem_append_left _ (List.mem_append_left _ (List.mem_append_left _ (List.mem_append_left _ (List.mem_append_right _ (h)))))))
theorem flX4_plea_178 : Cond.fieldLink RX4 178 "Chargehouse$Accused" "state" "I" ∈ wsX4_plea := List.mem_cons_of_mem _ (List.mem_append_left _ (List.mem_append_left _ (List.mem_append_left _ (List.mem_append_left _ (List.mem_append_left _ (List.mem_append_left _ (List.mem_append_left _ (List.mem_append_left _ (List.mem_of_getElem? (i := 2) rfl)))))))))
theorem flX4_plea_190 : Cond.fieldLink RX4 190 "Chargehouse$Accused" "charges" "I" ∈ wsX4_plea := List.mem_cons_of_mem _ (List.mem_append_left _ (List.mem_append_left _ (List.mem_append_left _ (List.mem_append_left _ (List.mem_append_left _ (List.mem_append_left _ (List.mem_append_left _ (List.mem_append_left _ (List.mem_of_getElem? (i := 3) rfl)))))))))
theorem flX4_plea_193 : Cond.fieldLink RX4 193 "Chargehouse$Accused" "chargedOn" "I" ∈ wsX4_plea := List.mem_cons_of_mem _ (List.mem_append_left _ (List.mem_append_left _ (List.mem_append_left _ (List.mem_append_left _ (List.mem_append_left _ (List.mem_append_left _ (List.mem_append_left _ (List.mem_append_left _ (List.mem_of_getElem? (i := 5) rfl)))))))))
theorem flX4_plea_224 : Cond.fieldLink RX4 224 "Chargehouse" "convictions" "I" ∈ wsX4_plea := List.mem_cons_of_mem _ (List.mem_append_left _ (List.mem_append_left _ (List.mem_append_left _ (List.mem_append_left _ (List.mem_append_left _ (List.mem_append_left _ (List.mem_append_left _ (List.mem_append_left _ (List.mem_of_getElem? (i := 7) rfl)))))))))
theorem flX4_plea_246 : Cond.fieldLink RX4 246 "Chargehouse" "pleas" "I" ∈ wsX4_plea := List.mem_cons_of_mem _ (List.mem_append_left _ (List.mem_append_left _ (List.mem_append_left _ (List.mem_append_left _ (List.mem_append_left _ (List.mem_append_left _ (List.mem_append_left _ (List.mem_append_left _ (List.mem_of_getElem? (i := 6) rfl)))))))))
theorem flX4_plea_249 : Cond.fieldLink RX4 249 "Chargehouse$Accused" "months" "I" ∈ wsX4_plea := List.mem_cons_of_mem _ (List.mem_append_left _ (List.mem_append_left _ (List.mem_append_left _ (List.mem_append_left _ (List.mem_append_left _ (List.mem_append_left _ (List.mem_append_left _ (List.mem_append_left _ (List.mem_of_getElem? (i := 8) rfl)))))))))
theorem flX4_plea_70 : Cond.fieldLink RX4 70 "Chargehouse" "today" "I" ∈ wsX4_plea := List.mem_cons_of_mem _ (List.mem_append_left _ (List.mem_append_left _ (List.mem_append_left _ (List.mem_append_left _ (List.mem_append_left _ (List.mem_append_left _ (List.mem_append_left _ (List.mem_append_left _ (List.mem_of_getElem? (i := 4) rfl)))))))))
def wX4_plea (M : hM) (o : Nat) (a1 : Int32) (a2 : Int32) (a3 : Int32) (Q : hM → Int32 → Prop) (X : String → hM → Prop) : Prop :=
  ∃ y2, hC M 4 (some o) = some y2 ∧
  wX4_accusedAt M o a1 a2 (fun M3 x1 =>
  ∃ y5, hC M3 4 (some o) = some y5 ∧
  wX4_checkToldOffences M3 o a3 (fun M6 =>
  ∃ x7, gI M6 0 2 x1 = some x7 ∧
  if (x7 : Int32) = 2 then (
    if (a3 : Int32) = 0 then (
      X "java/lang/IllegalStateException" M6
    ) else (
      ∃ x10, gI M6 0 3 x1 = some x10 ∧
      if ((a3 &&& (x10 ^^^ (-1))) : Int32) = 0 then (
        ∃ y13, hC M6 4 (some o) = some y13 ∧
        ∃ x12, fX4_gravityOf M6 o a3 = some x12 ∧
        ∃ x14, gI M6 0 3 x1 = some x14 ∧
        ∃ y16, hC M6 4 (some o) = some y16 ∧
        ∃ x15, fX4_gravityOf M6 o x14 = some x15 ∧
        if (x15 : Int32) ≤ (2 * x12) then (
          ∃ x18, gI M6 4 6 (some o) = some x18 ∧
          ∃ x19, gI M6 0 4 x1 = some x19 ∧
          ∃ x20, fX4_discountAfter (x18 - x19) = some x20 ∧
          ∃ x21, gI M6 4 9 (some o) = some x21 ∧
          ∃ M22, pV M6 4 9 (some o) (.int (x21 + 1)) = some M22 ∧
          ∃ x23, gI M22 4 7 (some o) = some x23 ∧
          ∃ x24, fJ6_bitCount_0f7a4 a3 = some x24 ∧
          ∃ M25, pV M22 4 7 (some o) (.int (x23 + x24)) = some M25 ∧
          ∃ x26, gI M25 0 11 x1 = some x26 ∧
          ∃ M27, pV M25 0 11 x1 (.int (x26 + (((12 * x12) * (100 - x20)) / 100))) = some M27 ∧
          ∃ x28, gI M27 4 6 (some o) = some x28 ∧
          ∃ y30, hC M27 0 x1 = some y30 ∧
          wX0_answerCharges M27 y30 a3 x28 (fun M31 =>
          Q M31 (((12 * x12) * (100 - x20)) / 100))
        ) else (
          X "java/lang/IllegalStateException" M6
        )
      ) else (
        X "java/lang/IllegalStateException" M6
      )
    )
  ) else (
    X "java/lang/IllegalStateException" M6
  )) X) X
set_option maxRecDepth 100000 in
set_option maxHeartbeats 4000000 in
theorem cX4_plea_met (l : Launch) (hfl : l.stackTraces = false) (G : hG) (M : hM) {o : Nat} {a1 : Int32} {a2 : Int32} {a3 : Int32} {Q : hM → Int32 → Prop} {X : String → hM → Prop} (h : wX4_plea M o a1 a2 a3 Q X) : hEMet l yX4_plea wsX4_plea rmX4_plea [.ref o, .int a1, .int a2, .int a3] G M (hQi Q) X 3 18 := by
  refine he_entry (own := RX4) (cc := cX4_plea) (maxL := 7) (ret := (some .int)) (lv := [some (va_rf (some o)), some (.int a1), some (.int a2), some (.int a3), none, none, none]) hfl (by decide) rfl rfl (hcc rfl (hcc rfl (hcc rfl (hcc rfl hc0)))) (Nat.le_of_ble_eq_true rfl) rfl (fun κ sz hG hl hR E ht hn => ?_)
  subst hG; subst hl
  unfold wX4_plea at h
  have F := E.1
  have C := F.1
  refine v_aload_n C (pc := 0) (i := 0) dX4_plea_0 rfl ?_
  refine v_iload_n C (pc := 1) (i := 1) dX4_plea_1 rfl ?_
  refine v_iload_n C (pc := 2) (i := 2) dX4_plea_2 rfl ?_
  obtain ⟨y2, hy2, h⟩ := h
  obtain ⟨fsy2, hfy2⟩ := hC_some hy2
  refine v_xV F (pc := 3) (ci := 4) [.int a1, .int a2] 2 (cX4_accusedAt_met (kl κ) F.2.2.2.1 (kG κ) _ h) hfy2 rfl gX4_plea_X4_accusedAt rfl hdX4_accusedAt rfl rfl rfl (by rw [hR]; exact ⟨Nat.le_of_ble_eq_true rfl, Nat.le_of_ble_eq_true rfl⟩) (by rw [hR]; decide) (Nat.le_of_ble_eq_true rfl) rfl dX4_plea_3 (fun Ex M9 h9 => v_out E ht h9 (by decide) (by decide)) (hk_r fun M3 x1 h => ?_)
  refine v_astore C (pc := 6) (i := 4) (lv' := [some (va_rf (some o)), some (.int a1), some (.int a2), some (.int a3), some (va_rf x1), none, none]) dX4_plea_6 rfl (lw_bi (j := 3) rfl) rfl ?_
  refine v_aload_n C (pc := 8) (i := 0) dX4_plea_8 rfl ?_
  refine v_iload_n C (pc := 9) (i := 3) dX4_plea_9 rfl ?_
  obtain ⟨y5, hy5, h⟩ := h
  obtain ⟨fsy5, hfy5⟩ := hC_some hy5
  refine v_xV F (pc := 10) (ci := 4) [.int a3] 1 (cX4_checkToldOffences_met (kl κ) F.2.2.2.1 (kG κ) _ h) hfy5 rfl gX4_plea_X4_checkToldOffences rfl hdX4_checkToldOffences rfl rfl rfl (by rw [hR]; exact ⟨Nat.le_of_ble_eq_true rfl, Nat.le_of_ble_eq_true rfl⟩) (by rw [hR]; decide) (Nat.le_of_ble_eq_true rfl) rfl dX4_plea_10 (fun Ex M9 h9 => v_out E ht h9 (by decide) (by decide)) (hk_v fun M6 h => ?_)
  refine v_aload C (pc := 13) (i := 4) dX4_plea_13 rfl ?_
  obtain ⟨x7, e7, h⟩ := h
  refine v_getI C (pc := 15) (ci := 0) 2 iwX4_plea_X0 rfl (by decide) flX4_plea_178 e7 dX4_plea_15 ?_
  refine v_iconst C (pc := 18) (v := 2) dX4_plea_18 (by decide) ?_
  refine v_icmp_ne C (pc := 19) (tgt := 38) dX4_plea_19 (by decide) (fun c8 => ?_) (fun c8 => ?_)
  · rw [if_neg c8] at h
    exact v_throw E ht (cls := "java/lang/IllegalStateException") (text := "that one is not charged, or not with such a set") (is := 239) (ic := 46) rfl (by decide +kernel) (List.mem_cons_of_mem _ (List.mem_append_left _ (List.mem_append_left _ (List.mem_append_left _ (List.mem_append_left _ (List.mem_append_left _ (List.mem_append_left _ (List.mem_append_left _ (List.mem_append_left _ (List.mem_of_getElem? (i := 0) rfl)))))))))) (List.mem_cons_of_mem _ (List.mem_append_left _ (List.mem_append_left _ (List.mem_append_left _ (List.mem_append_left _ (List.mem_append_left _ (List.mem_append_left _ (List.mem_append_left _ (List.mem_append_left _ (List.mem_of_getElem? (i := 1) rfl)))))))))) (by decide +kernel) (fun _ h => List.mem_cons_of_mem _ (List.mem_append_left _ (List.mem_append_left _ (List.mem_append_right _ (h))))) hnt_ISE hgood_ISE h (by rw [hR]; decide) (by rw [hR]; exact Nat.le_of_ble_eq_true rfl) (by rw [hR]; decide) (by rw [hR]; decide) (by decide) (by decide) dX4_plea_38 dX4_plea_41 dX4_plea_42 dX4_plea_44 dX4_plea_47
  · rw [if_pos c8] at h
    refine v_iload_n C (pc := 22) (i := 3) dX4_plea_22 rfl ?_
    refine v_if_eq C (pc := 23) (tgt := 38) dX4_plea_23 (by decide) (fun c9 => ?_) (fun c9 => ?_)
    · rw [if_pos c9] at h
      exact v_throw E ht (cls := "java/lang/IllegalStateException") (text := "that one is not charged, or not with such a set") (is := 239) (ic := 46) rfl (by decide +kernel) (List.mem_cons_of_mem _ (List.mem_append_left _ (List.mem_append_left _ (List.mem_append_left _ (List.mem_append_left _ (List.mem_append_left _ (List.mem_append_left _ (List.mem_append_left _ (List.mem_append_left _ (List.mem_of_getElem? (i := 0) rfl)))))))))) (List.mem_cons_of_mem _ (List.mem_append_left _ (List.mem_append_left _ (List.mem_append_left _ (List.mem_append_left _ (List.mem_append_left _ (List.mem_append_left _ (List.mem_append_left _ (List.mem_append_left _ (List.mem_of_getElem? (i := 1) rfl)))))))))) (by decide +kernel) (fun _ h => List.mem_cons_of_mem _ (List.mem_append_left _ (List.mem_append_left _ (List.mem_append_right _ (h))))) hnt_ISE hgood_ISE h (by rw [hR]; decide) (by rw [hR]; exact Nat.le_of_ble_eq_true rfl) (by rw [hR]; decide) (by rw [hR]; decide) (by decide) (by decide) dX4_plea_38 dX4_plea_41 dX4_plea_42 dX4_plea_44 dX4_plea_47
    · rw [if_neg c9] at h
      refine v_iload_n C (pc := 26) (i := 3) dX4_plea_26 rfl ?_
      refine v_aload C (pc := 27) (i := 4) dX4_plea_27 rfl ?_
      obtain ⟨x10, e10, h⟩ := h
      refine v_getI C (pc := 29) (ci := 0) 3 iwX4_plea_X0 rfl (by decide) flX4_plea_190 e10 dX4_plea_29 ?_
      refine v_iconst C (pc := 32) (v := (-1)) dX4_plea_32 (by decide) ?_
      refine v_ixor C (pc := 33) dX4_plea_33 ?_
      refine v_iand C (pc := 34) dX4_plea_34 ?_
      refine v_if_eq C (pc := 35) (tgt := 48) dX4_plea_35 (by decide) (fun c11 => ?_) (fun c11 => ?_)
      · rw [if_pos c11] at h
        refine v_aload_n C (pc := 48) (i := 0) dX4_plea_48 rfl ?_
        refine v_iload_n C (pc := 49) (i := 3) dX4_plea_49 rfl ?_
        obtain ⟨y13, hy13, h⟩ := h
        obtain ⟨fsy13, hfy13⟩ := hC_some hy13
        obtain ⟨x12, e12, h⟩ := h
        refine v_pV C (pc := 50) (ci := 4) [.int a3] 1 (cX4_gravityOf_met (kl κ) (kG κ) _ e12) hfy13 rfl gX4_plea_X4_gravityOf rfl hdX4_gravityOf rfl rfl rfl (by rw [hR]; exact ⟨Nat.le_of_ble_eq_true rfl, Nat.le_of_ble_eq_true rfl⟩) (by rw [hR]; decide) (Nat.le_of_ble_eq_true rfl) rfl dX4_plea_50 ?_
        refine v_istore C (pc := 53) (i := 5) (lv' := [some (va_rf (some o)), some (.int a1), some (.int a2), some (.int a3), some (va_rf x1), some (.int x12), none]) dX4_plea_53 rfl (lw_br (j := 4) rfl) rfl ?_
        refine v_iconst C (pc := 55) (v := 2) dX4_plea_55 (by decide) ?_
        refine v_iload C (pc := 56) (i := 5) dX4_plea_56 rfl ?_
        refine v_imul C (pc := 58) dX4_plea_58 ?_
        refine v_aload_n C (pc := 59) (i := 0) dX4_plea_59 rfl ?_
        refine v_aload C (pc := 60) (i := 4) dX4_plea_60 rfl ?_
        obtain ⟨x14, e14, h⟩ := h
        refine v_getI C (pc := 62) (ci := 0) 3 iwX4_plea_X0 rfl (by decide) flX4_plea_190 e14 dX4_plea_62 ?_
        obtain ⟨y16, hy16, h⟩ := h
        obtain ⟨fsy16, hfy16⟩ := hC_some hy16
        obtain ⟨x15, e15, h⟩ := h
        refine v_pV C (pc := 65) (ci := 4) [.int x14] 1 (cX4_gravityOf_met (kl κ) (kG κ) _ e15) hfy16 rfl gX4_plea_X4_gravityOf rfl hdX4_gravityOf rfl rfl rfl (by rw [hR]; exact ⟨Nat.le_of_ble_eq_true rfl, Nat.le_of_ble_eq_true rfl⟩) (by rw [hR]; decide) (Nat.le_of_ble_eq_true rfl) rfl dX4_plea_65 ?_
        refine v_icmp_ge C (pc := 68) (tgt := 81) dX4_plea_68 (by decide) (fun c17 => ?_) (fun c17 => ?_)
        · rw [if_pos c17] at h
          refine v_bipush C (pc := 81) (v := 12) dX4_plea_81 (by decide) ?_
          refine v_iload C (pc := 83) (i := 5) dX4_plea_83 rfl ?_
          refine v_imul C (pc := 85) dX4_plea_85 ?_
          refine v_bipush C (pc := 86) (v := 100) dX4_plea_86 (by decide) ?_
          refine v_aload_n C (pc := 88) (i := 0) dX4_plea_88 rfl ?_
          obtain ⟨x18, e18, h⟩ := h
          refine v_getI C (pc := 89) (ci := 4) 6 iwX4_plea_X4 rfl (by decide) flX4_plea_70 e18 dX4_plea_89 ?_
          refine v_aload C (pc := 92) (i := 4) dX4_plea_92 rfl ?_
          obtain ⟨x19, e19, h⟩ := h
          refine v_getI C (pc := 94) (ci := 0) 4 iwX4_plea_X0 rfl (by decide) flX4_plea_193 e19 dX4_plea_94 ?_
          refine v_isub C (pc := 97) dX4_plea_97 ?_
          obtain ⟨x20, e20, h⟩ := h
          refine v_pS C (pc := 98) [.int (x18 - x19)] 1 (cX4_discountAfter_met (kl κ) (kG κ) _ e20) gX4_plea_X4_discountAfter rfl hdsX4_discountAfter rfl rfl rfl (by rw [hR]; exact ⟨Nat.le_of_ble_eq_true rfl, Nat.le_of_ble_eq_true rfl⟩) (by rw [hR]; decide) (Nat.le_of_ble_eq_true rfl) rfl dX4_plea_98 ?_
          refine v_isub C (pc := 101) dX4_plea_101 ?_
          refine v_imul C (pc := 102) dX4_plea_102 ?_
          refine v_bipush C (pc := 103) (v := 100) dX4_plea_103 (by decide) ?_
          refine v_idiv C (pc := 105) dX4_plea_105 (by decide) ?_
          refine v_istore C (pc := 106) (i := 6) (lv' := [some (va_rf (some o)), some (.int a1), some (.int a2), some (.int a3), some (va_rf x1), some (.int x12), some (.int (((12 * x12) * (100 - x20)) / 100))]) dX4_plea_106 rfl (lw_bi (j := 5) rfl) rfl ?_
          refine v_aload_n C (pc := 108) (i := 0) dX4_plea_108 rfl ?_
          refine v_dup C (pc := 109) dX4_plea_109 (rf_cat _) ?_
          obtain ⟨x21, e21, h⟩ := h
          refine v_getI C (pc := 110) (ci := 4) 9 iwX4_plea_X4 rfl (by decide) flX4_plea_246 e21 dX4_plea_110 ?_
          refine v_iconst C (pc := 113) (v := 1) dX4_plea_113 (by decide) ?_
          refine v_iadd C (pc := 114) dX4_plea_114 ?_
          obtain ⟨M22, e22, h⟩ := h
          refine v_put F (pc := 115) (ci := 4) (ty := .int) 9 iwX4_plea_X4 tyX4 tyX4_ok nmX4 rfl (by decide) flX4_plea_246 rfl rfl (nar_int _) (fit_int _) e22 dX4_plea_115 ?_
          refine v_aload_n C (pc := 118) (i := 0) dX4_plea_118 rfl ?_
          refine v_dup C (pc := 119) dX4_plea_119 (rf_cat _) ?_
          obtain ⟨x23, e23, h⟩ := h
          refine v_getI C (pc := 120) (ci := 4) 7 iwX4_plea_X4 rfl (by decide) flX4_plea_224 e23 dX4_plea_120 ?_
          refine v_iload_n C (pc := 123) (i := 3) dX4_plea_123 rfl ?_
          obtain ⟨x24, e24, h⟩ := h
          refine v_pS C (pc := 124) [.int a3] 1 (cJ6_bitCount_0f7a4_met (kl κ) (kG κ) _ e24) gX4_plea_J6_bitCount_0f7a4 rfl hdsJ6_bitCount_0f7a4 rfl rfl rfl (by rw [hR]; exact ⟨Nat.le_of_ble_eq_true rfl, Nat.le_of_ble_eq_true rfl⟩) (by rw [hR]; decide) (Nat.le_of_ble_eq_true rfl) rfl dX4_plea_124 ?_
          refine v_iadd C (pc := 127) dX4_plea_127 ?_
          obtain ⟨M25, e25, h⟩ := h
          refine v_put F (pc := 128) (ci := 4) (ty := .int) 7 iwX4_plea_X4 tyX4 tyX4_ok nmX4 rfl (by decide) flX4_plea_224 rfl rfl (nar_int _) (fit_int _) e25 dX4_plea_128 ?_
          refine v_aload C (pc := 131) (i := 4) dX4_plea_131 rfl ?_
          refine v_dup C (pc := 133) dX4_plea_133 (rf_cat _) ?_
          obtain ⟨x26, e26, h⟩ := h
          refine v_getI C (pc := 134) (ci := 0) 11 iwX4_plea_X0 rfl (by decide) flX4_plea_249 e26 dX4_plea_134 ?_
          refine v_iload C (pc := 137) (i := 6) dX4_plea_137 rfl ?_
          refine v_iadd C (pc := 139) dX4_plea_139 ?_
          obtain ⟨M27, e27, h⟩ := h
          refine v_put F (pc := 140) (ci := 0) (ty := .int) 11 iwX4_plea_X0 tyX0 tyX0_ok nmX0 rfl (by decide) flX4_plea_249 rfl rfl (nar_int _) (fit_int _) e27 dX4_plea_140 ?_
          refine v_aload C (pc := 143) (i := 4) dX4_plea_143 rfl ?_
          refine v_iload_n C (pc := 145) (i := 3) dX4_plea_145 rfl ?_
          refine v_aload_n C (pc := 146) (i := 0) dX4_plea_146 rfl ?_
          obtain ⟨x28, e28, h⟩ := h
          refine v_getI C (pc := 147) (ci := 4) 6 iwX4_plea_X4 rfl (by decide) flX4_plea_70 e28 dX4_plea_147 ?_
          obtain ⟨y30, hy30, hh⟩ := h
          skip
          obtain ⟨rfl, fsy30, hfy30⟩ := hC_inv hy30
          have h := hh
          clear hh
          refine v_nV F (pc := 150) (ci := 0) [.int a3, .int x28] 2 (cX0_answerCharges_met (kl κ) F.2.2.2.1 (kG κ) _ h) hfy30 rfl gX4_plea_X0_answerCharges rfl hdX0_answerCharges rfl rfl rfl (by rw [hR]; exact ⟨Nat.le_of_ble_eq_true rfl, Nat.le_of_ble_eq_true rfl⟩) (by rw [hR]; decide) (Nat.le_of_ble_eq_true rfl) rfl dX4_plea_150 (hk_v fun M31 h => ?_)
          refine v_iload C (pc := 153) (i := 6) dX4_plea_153 rfl ?_
          exact v_eret (pc := 155) E rfl (nar_int _) ⟨_, rfl, h⟩ (by decide) (by decide) dX4_plea_155
        · rw [if_neg c17] at h
          exact v_throw E ht (cls := "java/lang/IllegalStateException") (text := "less than the half is pleaded") (is := 241) (ic := 46) rfl (by decide +kernel) (List.mem_cons_of_mem _ (List.mem_append_left _ (List.mem_append_left _ (List.mem_append_left _ (List.mem_append_left _ (List.mem_append_left _ (List.mem_append_left _ (List.mem_append_left _ (List.mem_append_left _ (List.mem_of_getElem? (i := 0) rfl)))))))))) (List.mem_cons_of_mem _ (List.mem_append_left _ (List.mem_append_left _ (List.mem_append_left _ (List.mem_append_left _ (List.mem_append_left _ (List.mem_append_left _ (List.mem_append_left _ (List.mem_append_left _ (List.mem_of_getElem? (i := 1) rfl)))))))))) (by decide +kernel) (fun _ h => List.mem_cons_of_mem _ (List.mem_append_left _ (List.mem_append_left _ (List.mem_append_right _ (h))))) hnt_ISE hgood_ISE h (by rw [hR]; decide) (by rw [hR]; exact Nat.le_of_ble_eq_true rfl) (by rw [hR]; decide) (by rw [hR]; decide) (by decide) (by decide) dX4_plea_71 dX4_plea_74 dX4_plea_75 dX4_plea_77 dX4_plea_80
      · rw [if_neg c11] at h
        exact v_throw E ht (cls := "java/lang/IllegalStateException") (text := "that one is not charged, or not with such a set") (is := 239) (ic := 46) rfl (by decide +kernel) (List.mem_cons_of_mem _ (List.mem_append_left _ (List.mem_append_left _ (List.mem_append_left _ (List.mem_append_left _ (List.mem_append_left _ (List.mem_append_left _ (List.mem_append_left _ (List.mem_append_left _ (List.mem_of_getElem? (i := 0) rfl)))))))))) (List.mem_cons_of_mem _ (List.mem_append_left _ (List.mem_append_left _ (List.mem_append_left _ (List.mem_append_left _ (List.mem_append_left _ (List.mem_append_left _ (List.mem_append_left _ (List.mem_append_left _ (List.mem_of_getElem? (i := 1) rfl)))))))))) (by decide +kernel) (fun _ h => List.mem_cons_of_mem _ (List.mem_append_left _ (List.mem_append_left _ (List.mem_append_right _ (h))))) hnt_ISE hgood_ISE h (by rw [hR]; decide) (by rw [hR]; exact Nat.le_of_ble_eq_true rfl) (by rw [hR]; decide) (by rw [hR]; decide) (by decide) (by decide) dX4_plea_38 dX4_plea_41 dX4_plea_42 dX4_plea_44 dX4_plea_47
/-! X4_arrest -/
abbrev rmX4_arrest : Room := { frames := 7, cells := 2, slots := 12, locals := 114 }
theorem iwX4_arrest_X0 : ∀ w ∈ u_ws RX0 TX0 14, w ∈ wsX4_arrest := fun _ h => List.mem_cons_of_mem _ (List.mem_append_left _ (List.mem_append_left _ (List.mem_append_left _ (List.mem_append_left _ (List.mem_append_right _ (h))))))
theorem flX4_arrest_178 : Cond.fieldLink RX4 178 "Chargehouse$Accused" "state" "I" ∈ wsX4_arrest := List.mem_cons_of_mem _ (List.mem_append_left _ (List.mem_append_left _ (List.mem_append_left _ (List.mem_append_left _ (List.mem_append_left _ (List.mem_append_left _ (List.mem_of_getElem? (i := 2) rfl)))))))
theorem flX4_arrest_207 : Cond.fieldLink RX4 207 "Chargehouse$Accused" "isInCustody" "Z" ∈ wsX4_arrest := List.mem_cons_of_mem _ (List.mem_append_left _ (List.mem_append_left _ (List.mem_append_left _ (List.mem_append_left _ (List.mem_append_left _ (List.mem_append_left _ (List.mem_of_getElem? (i := 3) rfl)))))))
def wX4_arrest (M : hM) (o : Nat) (a1 : Int32) (a2 : Int32) (Q : hM → Int32 → Prop) (X : String → hM → Prop) : Prop :=
  ∃ y2, hC M 4 (some o) = some y2 ∧
  wX4_accusedAt M o a1 a2 (fun M3 x1 =>
  ∃ y5, hC M3 0 x1 = some y5 ∧
  ∃ x4, fX0_daysLeft M3 y5 = some x4 ∧
  ∃ x6, gI M3 0 2 (some y5) = some x6 ∧
  if (x6 : Int32) = 1 then (
    X "java/lang/IllegalStateException" M3
  ) else (
    ∃ x8, gI M3 0 7 (some y5) = some x8 ∧
    if (x8 : Int32) = 0 then (
      if 0 < (x4 : Int32) then (
        ∃ M11, pZ M3 0 7 (some y5) 1 = some M11 ∧
        Q M11 x4
      ) else (
        X "java/lang/IllegalStateException" M3
      )
    ) else (
      X "java/lang/IllegalStateException" M3
    )
  )) X
set_option maxRecDepth 100000 in
set_option maxHeartbeats 4000000 in
theorem cX4_arrest_met (l : Launch) (hfl : l.stackTraces = false) (G : hG) (M : hM) {o : Nat} {a1 : Int32} {a2 : Int32} {Q : hM → Int32 → Prop} {X : String → hM → Prop} (h : wX4_arrest M o a1 a2 Q X) : hEMet l yX4_arrest wsX4_arrest rmX4_arrest [.ref o, .int a1, .int a2] G M (hQi Q) X 2 12 := by
  refine he_entry (own := RX4) (cc := cX4_arrest) (maxL := 5) (ret := (some .int)) (lv := [some (va_rf (some o)), some (.int a1), some (.int a2), none, none]) hfl (by decide) rfl rfl (hcc rfl (hcc rfl (hcc rfl hc0))) (Nat.le_of_ble_eq_true rfl) rfl (fun κ sz hG hl hR E ht hn => ?_)
  subst hG; subst hl
  unfold wX4_arrest at h
  have F := E.1
  have C := F.1
  refine v_aload_n C (pc := 0) (i := 0) dX4_arrest_0 rfl ?_
  refine v_iload_n C (pc := 1) (i := 1) dX4_arrest_1 rfl ?_
  refine v_iload_n C (pc := 2) (i := 2) dX4_arrest_2 rfl ?_
  obtain ⟨y2, hy2, h⟩ := h
  obtain ⟨fsy2, hfy2⟩ := hC_some hy2
  refine v_xV F (pc := 3) (ci := 4) [.int a1, .int a2] 2 (cX4_accusedAt_met (kl κ) F.2.2.2.1 (kG κ) _ h) hfy2 rfl gX4_arrest_X4_accusedAt rfl hdX4_accusedAt rfl rfl rfl (by rw [hR]; exact ⟨Nat.le_of_ble_eq_true rfl, Nat.le_of_ble_eq_true rfl⟩) (by rw [hR]; decide) (Nat.le_of_ble_eq_true rfl) rfl dX4_arrest_3 (fun Ex M9 h9 => v_out E ht h9 (by decide) (by decide)) (hk_r fun M3 x1 h => ?_)
  refine v_astore_n C (pc := 6) (i := 3) (lv' := [some (va_rf (some o)), some (.int a1), some (.int a2), some (va_rf x1), none]) dX4_arrest_6 rfl (lw_bi (j := 2) rfl) rfl ?_
  refine v_aload_n C (pc := 7) (i := 3) dX4_arrest_7 rfl ?_
  obtain ⟨y5, hy5, hh⟩ := h
  skip
  obtain ⟨rfl, fsy5, hfy5⟩ := hC_inv hy5
  have h := hh
  clear hh
  obtain ⟨x4, e4, h⟩ := h
  refine v_pV C (pc := 8) (ci := 0) [] 0 (cX0_daysLeft_met (kl κ) (kG κ) _ e4) hfy5 rfl gX4_arrest_X0_daysLeft rfl hdX0_daysLeft rfl rfl rfl (by rw [hR]; exact ⟨Nat.le_of_ble_eq_true rfl, Nat.le_of_ble_eq_true rfl⟩) (by rw [hR]; decide) (Nat.le_of_ble_eq_true rfl) rfl dX4_arrest_8 ?_
  refine v_istore C (pc := 11) (i := 4) (lv' := [some (va_rf (some o)), some (.int a1), some (.int a2), some (va_rf (some y5)), some (.int x4)]) dX4_arrest_11 rfl (lw_br (j := 3) rfl) rfl ?_
  refine v_aload_n C (pc := 13) (i := 3) dX4_arrest_13 rfl ?_
  obtain ⟨x6, e6, h⟩ := h
  refine v_getI C (pc := 14) (ci := 0) 2 iwX4_arrest_X0 rfl (by decide) flX4_arrest_178 e6 dX4_arrest_14 ?_
  refine v_iconst C (pc := 17) (v := 1) dX4_arrest_17 (by decide) ?_
  refine v_icmp_eq C (pc := 18) (tgt := 33) dX4_arrest_18 (by decide) (fun c7 => ?_) (fun c7 => ?_)
  · rw [if_pos c7] at h
    exact v_throwW E ht (cls := "java/lang/IllegalStateException") (text := "that one is dropped, or in custody, or no day is left") (is := 256) (ic := 46) rfl (by decide +kernel) (List.mem_cons_of_mem _ (List.mem_append_left _ (List.mem_append_left _ (List.mem_append_left _ (List.mem_append_left _ (List.mem_append_left _ (List.mem_append_left _ (List.mem_of_getElem? (i := 0) rfl)))))))) (List.mem_cons_of_mem _ (List.mem_append_left _ (List.mem_append_left _ (List.mem_append_left _ (List.mem_append_left _ (List.mem_append_left _ (List.mem_append_left _ (List.mem_of_getElem? (i := 1) rfl)))))))) (by decide +kernel) (fun _ h => List.mem_cons_of_mem _ (List.mem_append_left _ (List.mem_append_right _ (h)))) hnt_ISE hgood_ISE h (by rw [hR]; decide) (by rw [hR]; exact Nat.le_of_ble_eq_true rfl) (by rw [hR]; decide) (by rw [hR]; decide) (by decide) (by decide) dX4_arrest_33 dX4_arrest_36 dX4_arrest_37 dX4_arrest_40 dX4_arrest_43
  · rw [if_neg c7] at h
    refine v_aload_n C (pc := 21) (i := 3) dX4_arrest_21 rfl ?_
    obtain ⟨x8, e8, h⟩ := h
    refine v_getI C (pc := 22) (ci := 0) 7 iwX4_arrest_X0 rfl (by decide) flX4_arrest_207 e8 dX4_arrest_22 ?_
    refine v_if_ne C (pc := 25) (tgt := 33) dX4_arrest_25 (by decide) (fun c9 => ?_) (fun c9 => ?_)
    · rw [if_neg c9] at h
      exact v_throwW E ht (cls := "java/lang/IllegalStateException") (text := "that one is dropped, or in custody, or no day is left") (is := 256) (ic := 46) rfl (by decide +kernel) (List.mem_cons_of_mem _ (List.mem_append_left _ (List.mem_append_left _ (List.mem_append_left _ (List.mem_append_left _ (List.mem_append_left _ (List.mem_append_left _ (List.mem_of_getElem? (i := 0) rfl)))))))) (List.mem_cons_of_mem _ (List.mem_append_left _ (List.mem_append_left _ (List.mem_append_left _ (List.mem_append_left _ (List.mem_append_left _ (List.mem_append_left _ (List.mem_of_getElem? (i := 1) rfl)))))))) (by decide +kernel) (fun _ h => List.mem_cons_of_mem _ (List.mem_append_left _ (List.mem_append_right _ (h)))) hnt_ISE hgood_ISE h (by rw [hR]; decide) (by rw [hR]; exact Nat.le_of_ble_eq_true rfl) (by rw [hR]; decide) (by rw [hR]; decide) (by decide) (by decide) dX4_arrest_33 dX4_arrest_36 dX4_arrest_37 dX4_arrest_40 dX4_arrest_43
    · rw [if_pos c9] at h
      refine v_iload C (pc := 28) (i := 4) dX4_arrest_28 rfl ?_
      refine v_if_gt C (pc := 30) (tgt := 44) dX4_arrest_30 (by decide) (fun c10 => ?_) (fun c10 => ?_)
      · rw [if_pos c10] at h
        refine v_aload_n C (pc := 44) (i := 3) dX4_arrest_44 rfl ?_
        refine v_iconst C (pc := 45) (v := 1) dX4_arrest_45 (by decide) ?_
        obtain ⟨M11, e11, h⟩ := h
        obtain ⟨hbe11, e11⟩ := pZ_inv e11
        refine v_put F (pc := 46) (ci := 0) (ty := .boolean) 7 iwX4_arrest_X0 tyX0 tyX0_ok nmX0 rfl (by decide) flX4_arrest_207 rfl rfl (nar_bool hbe11) (fit_bool hbe11) e11 dX4_arrest_46 ?_
        refine v_iload C (pc := 49) (i := 4) dX4_arrest_49 rfl ?_
        exact v_eret (pc := 51) E rfl (nar_int _) ⟨_, rfl, h⟩ (by decide) (by decide) dX4_arrest_51
      · rw [if_neg c10] at h
        exact v_throwW E ht (cls := "java/lang/IllegalStateException") (text := "that one is dropped, or in custody, or no day is left") (is := 256) (ic := 46) rfl (by decide +kernel) (List.mem_cons_of_mem _ (List.mem_append_left _ (List.mem_append_left _ (List.mem_append_left _ (List.mem_append_left _ (List.mem_append_left _ (List.mem_append_left _ (List.mem_of_getElem? (i := 0) rfl)))))))) (List.mem_cons_of_mem _ (List.mem_append_left _ (List.mem_append_left _ (List.mem_append_left _ (List.mem_append_left _ (List.mem_append_left _ (List.mem_append_left _ (List.mem_of_getElem? (i := 1) rfl)))))))) (by decide +kernel) (fun _ h => List.mem_cons_of_mem _ (List.mem_append_left _ (List.mem_append_right _ (h)))) hnt_ISE hgood_ISE h (by rw [hR]; decide) (by rw [hR]; exact Nat.le_of_ble_eq_true rfl) (by rw [hR]; decide) (by rw [hR]; decide) (by decide) (by decide) dX4_arrest_33 dX4_arrest_36 dX4_arrest_37 dX4_arrest_40 dX4_arrest_43
/-! X4_extend -/
abbrev rmX4_extend : Room := { frames := 7, cells := 2, slots := 12, locals := 114 }
theorem iwX4_extend_X0 : ∀ w ∈ u_ws RX0 TX0 14, w ∈ wsX4_extend := fun _ h => List.mem_cons_of_mem _ (List.mem_append_left _ (List.mem_append_left _ (List.mem_append_left _ (List.mem_append_left _ (List.mem_append_left _ (List.mem_append_right _ (h)))))))
theorem flX4_extend_178 : Cond.fieldLink RX4 178 "Chargehouse$Accused" "state" "I" ∈ wsX4_extend := List.mem_cons_of_mem _ (List.mem_append_left _ (List.mem_append_left _ (List.mem_append_left _ (List.mem_append_left _ (List.mem_append_left _ (List.mem_append_left _ (List.mem_append_left _ (List.mem_of_getElem? (i := 4) rfl))))))))
theorem flX4_extend_260 : Cond.fieldLink RX4 260 "Chargehouse$Accused" "extendedBy" "I" ∈ wsX4_extend := List.mem_cons_of_mem _ (List.mem_append_left _ (List.mem_append_left _ (List.mem_append_left _ (List.mem_append_left _ (List.mem_append_left _ (List.mem_append_left _ (List.mem_append_left _ (List.mem_of_getElem? (i := 5) rfl))))))))
def wX4_extend (M : hM) (o : Nat) (a1 : Int32) (a2 : Int32) (a3 : Int32) (Q : hM → Int32 → Prop) (X : String → hM → Prop) : Prop :=
  ∃ y2, hC M 4 (some o) = some y2 ∧
  wX4_accusedAt M o a1 a2 (fun M3 x1 =>
  ∃ x4, fX4_isWithin a3 1 2 = some x4 ∧
  if (x4 : Int32) = 0 then (
    X "java/lang/IllegalArgumentException" M3
  ) else (
    ∃ x6, gI M3 0 2 x1 = some x6 ∧
    if (x6 : Int32) = 0 then (
      ∃ x8, gI M3 0 10 x1 = some x8 ∧
      ∃ x9, fX4_hasBit x8 a3 = some x9 ∧
      if (x9 : Int32) = 0 then (
        ∃ x11, gI M3 0 10 x1 = some x11 ∧
        ∃ M12, pV M3 0 10 x1 (.int (x11 ||| (1 <<< (a3 &&& 31)))) = some M12 ∧
        ∃ y14, hC M12 0 x1 = some y14 ∧
        ∃ x13, fX0_ceilingWhileOpen M12 y14 = some x13 ∧
        Q M12 x13
      ) else (
        X "java/lang/IllegalStateException" M3
      )
    ) else (
      X "java/lang/IllegalStateException" M3
    )
  )) X
set_option maxRecDepth 100000 in
set_option maxHeartbeats 4000000 in
theorem cX4_extend_met (l : Launch) (hfl : l.stackTraces = false) (G : hG) (M : hM) {o : Nat} {a1 : Int32} {a2 : Int32} {a3 : Int32} {Q : hM → Int32 → Prop} {X : String → hM → Prop} (h : wX4_extend M o a1 a2 a3 Q X) : hEMet l yX4_extend wsX4_extend rmX4_extend [.ref o, .int a1, .int a2, .int a3] G M (hQi Q) X 2 12 := by
  refine he_entry (own := RX4) (cc := cX4_extend) (maxL := 5) (ret := (some .int)) (lv := [some (va_rf (some o)), some (.int a1), some (.int a2), some (.int a3), none]) hfl (by decide) rfl rfl (hcc rfl (hcc rfl (hcc rfl (hcc rfl hc0)))) (Nat.le_of_ble_eq_true rfl) rfl (fun κ sz hG hl hR E ht hn => ?_)
  subst hG; subst hl
  unfold wX4_extend at h
  have F := E.1
  have C := F.1
  refine v_aload_n C (pc := 0) (i := 0) dX4_extend_0 rfl ?_
  refine v_iload_n C (pc := 1) (i := 1) dX4_extend_1 rfl ?_
  refine v_iload_n C (pc := 2) (i := 2) dX4_extend_2 rfl ?_
  obtain ⟨y2, hy2, h⟩ := h
  obtain ⟨fsy2, hfy2⟩ := hC_some hy2
  refine v_xV F (pc := 3) (ci := 4) [.int a1, .int a2] 2 (cX4_accusedAt_met (kl κ) F.2.2.2.1 (kG κ) _ h) hfy2 rfl gX4_extend_X4_accusedAt rfl hdX4_accusedAt rfl rfl rfl (by rw [hR]; exact ⟨Nat.le_of_ble_eq_true rfl, Nat.le_of_ble_eq_true rfl⟩) (by rw [hR]; decide) (Nat.le_of_ble_eq_true rfl) rfl dX4_extend_3 (fun Ex M9 h9 => v_out E ht h9 (by decide) (by decide)) (hk_r fun M3 x1 h => ?_)
  refine v_astore C (pc := 6) (i := 4) (lv' := [some (va_rf (some o)), some (.int a1), some (.int a2), some (.int a3), some (va_rf x1)]) dX4_extend_6 rfl (lw_bi (j := 3) rfl) rfl ?_
  refine v_iload_n C (pc := 8) (i := 3) dX4_extend_8 rfl ?_
  refine v_iconst C (pc := 9) (v := 1) dX4_extend_9 (by decide) ?_
  refine v_iconst C (pc := 10) (v := 2) dX4_extend_10 (by decide) ?_
  obtain ⟨x4, e4, h⟩ := h
  refine v_pS C (pc := 11) [.int a3, .int 1, .int 2] 3 (cX4_isWithin_met (kl κ) (kG κ) _ e4) gX4_extend_X4_isWithin rfl hdsX4_isWithin rfl rfl rfl (by rw [hR]; exact ⟨Nat.le_of_ble_eq_true rfl, Nat.le_of_ble_eq_true rfl⟩) (by rw [hR]; decide) (Nat.le_of_ble_eq_true rfl) rfl dX4_extend_11 ?_
  refine v_if_ne C (pc := 14) (tgt := 28) dX4_extend_14 (by decide) (fun c5 => ?_) (fun c5 => ?_)
  · rw [if_neg c5] at h
    refine v_aload C (pc := 28) (i := 4) dX4_extend_28 rfl ?_
    obtain ⟨x6, e6, h⟩ := h
    refine v_getI C (pc := 30) (ci := 0) 2 iwX4_extend_X0 rfl (by decide) flX4_extend_178 e6 dX4_extend_30 ?_
    refine v_if_ne C (pc := 33) (tgt := 48) dX4_extend_33 (by decide) (fun c7 => ?_) (fun c7 => ?_)
    · rw [if_neg c7] at h
      exact v_throwW E ht (cls := "java/lang/IllegalStateException") (text := "that one is not open, or the rank extended it") (is := 263) (ic := 46) rfl (by decide +kernel) (List.mem_cons_of_mem _ (List.mem_append_left _ (List.mem_append_left _ (List.mem_append_left _ (List.mem_append_left _ (List.mem_append_left _ (List.mem_append_left _ (List.mem_append_left _ (List.mem_of_getElem? (i := 2) rfl))))))))) (List.mem_cons_of_mem _ (List.mem_append_left _ (List.mem_append_left _ (List.mem_append_left _ (List.mem_append_left _ (List.mem_append_left _ (List.mem_append_left _ (List.mem_append_left _ (List.mem_of_getElem? (i := 3) rfl))))))))) (by decide +kernel) (fun _ h => List.mem_cons_of_mem _ (List.mem_append_left _ (List.mem_append_right _ (h)))) hnt_ISE hgood_ISE h (by rw [hR]; decide) (by rw [hR]; exact Nat.le_of_ble_eq_true rfl) (by rw [hR]; decide) (by rw [hR]; decide) (by decide) (by decide) dX4_extend_48 dX4_extend_51 dX4_extend_52 dX4_extend_55 dX4_extend_58
    · rw [if_pos c7] at h
      refine v_aload C (pc := 36) (i := 4) dX4_extend_36 rfl ?_
      obtain ⟨x8, e8, h⟩ := h
      refine v_getI C (pc := 38) (ci := 0) 10 iwX4_extend_X0 rfl (by decide) flX4_extend_260 e8 dX4_extend_38 ?_
      refine v_iload_n C (pc := 41) (i := 3) dX4_extend_41 rfl ?_
      obtain ⟨x9, e9, h⟩ := h
      refine v_pS C (pc := 42) [.int x8, .int a3] 2 (cX4_hasBit_met (kl κ) (kG κ) _ e9) gX4_extend_X4_hasBit rfl hdsX4_hasBit rfl rfl rfl (by rw [hR]; exact ⟨Nat.le_of_ble_eq_true rfl, Nat.le_of_ble_eq_true rfl⟩) (by rw [hR]; decide) (Nat.le_of_ble_eq_true rfl) rfl dX4_extend_42 ?_
      refine v_if_eq C (pc := 45) (tgt := 59) dX4_extend_45 (by decide) (fun c10 => ?_) (fun c10 => ?_)
      · rw [if_pos c10] at h
        refine v_aload C (pc := 59) (i := 4) dX4_extend_59 rfl ?_
        refine v_dup C (pc := 61) dX4_extend_61 (rf_cat _) ?_
        obtain ⟨x11, e11, h⟩ := h
        refine v_getI C (pc := 62) (ci := 0) 10 iwX4_extend_X0 rfl (by decide) flX4_extend_260 e11 dX4_extend_62 ?_
        refine v_iconst C (pc := 65) (v := 1) dX4_extend_65 (by decide) ?_
        refine v_iload_n C (pc := 66) (i := 3) dX4_extend_66 rfl ?_
        refine v_ishl C (pc := 67) dX4_extend_67 ?_
        refine v_ior C (pc := 68) dX4_extend_68 ?_
        obtain ⟨M12, e12, h⟩ := h
        refine v_put F (pc := 69) (ci := 0) (ty := .int) 10 iwX4_extend_X0 tyX0 tyX0_ok nmX0 rfl (by decide) flX4_extend_260 rfl rfl (nar_int _) (fit_int _) e12 dX4_extend_69 ?_
        refine v_aload C (pc := 72) (i := 4) dX4_extend_72 rfl ?_
        obtain ⟨y14, hy14, hh⟩ := h
        skip
        obtain ⟨rfl, fsy14, hfy14⟩ := hC_inv hy14
        have h := hh
        clear hh
        obtain ⟨x13, e13, h⟩ := h
        refine v_pV C (pc := 74) (ci := 0) [] 0 (cX0_ceilingWhileOpen_met (kl κ) (kG κ) _ e13) hfy14 rfl gX4_extend_X0_ceilingWhileOpen rfl hdX0_ceilingWhileOpen rfl rfl rfl (by rw [hR]; exact ⟨Nat.le_of_ble_eq_true rfl, Nat.le_of_ble_eq_true rfl⟩) (by rw [hR]; decide) (Nat.le_of_ble_eq_true rfl) rfl dX4_extend_74 ?_
        exact v_eret (pc := 77) E rfl (nar_int _) ⟨_, rfl, h⟩ (by decide) (by decide) dX4_extend_77
      · rw [if_neg c10] at h
        exact v_throwW E ht (cls := "java/lang/IllegalStateException") (text := "that one is not open, or the rank extended it") (is := 263) (ic := 46) rfl (by decide +kernel) (List.mem_cons_of_mem _ (List.mem_append_left _ (List.mem_append_left _ (List.mem_append_left _ (List.mem_append_left _ (List.mem_append_left _ (List.mem_append_left _ (List.mem_append_left _ (List.mem_of_getElem? (i := 2) rfl))))))))) (List.mem_cons_of_mem _ (List.mem_append_left _ (List.mem_append_left _ (List.mem_append_left _ (List.mem_append_left _ (List.mem_append_left _ (List.mem_append_left _ (List.mem_append_left _ (List.mem_of_getElem? (i := 3) rfl))))))))) (by decide +kernel) (fun _ h => List.mem_cons_of_mem _ (List.mem_append_left _ (List.mem_append_right _ (h)))) hnt_ISE hgood_ISE h (by rw [hR]; decide) (by rw [hR]; exact Nat.le_of_ble_eq_true rfl) (by rw [hR]; decide) (by rw [hR]; decide) (by decide) (by decide) dX4_extend_48 dX4_extend_51 dX4_extend_52 dX4_extend_55 dX4_extend_58
  · rw [if_pos c5] at h
    exact v_throwW E ht (cls := "java/lang/IllegalArgumentException") (text := "rank is out of range") (is := 258) (ic := 35) rfl (by decide +kernel) (List.mem_cons_of_mem _ (List.mem_append_left _ (List.mem_append_left _ (List.mem_append_left _ (List.mem_append_left _ (List.mem_append_left _ (List.mem_append_left _ (List.mem_append_left _ (List.mem_of_getElem? (i := 0) rfl))))))))) (List.mem_cons_of_mem _ (List.mem_append_left _ (List.mem_append_left _ (List.mem_append_left _ (List.mem_append_left _ (List.mem_append_left _ (List.mem_append_left _ (List.mem_append_left _ (List.mem_of_getElem? (i := 1) rfl))))))))) (by decide +kernel) (fun _ h => List.mem_cons_of_mem _ (List.mem_append_left _ (List.mem_append_left _ (List.mem_append_right _ (h))))) hnt_IAE hgood_IAE h (by rw [hR]; decide) (by rw [hR]; exact Nat.le_of_ble_eq_true rfl) (by rw [hR]; decide) (by rw [hR]; decide) (by decide) (by decide) dX4_extend_17 dX4_extend_20 dX4_extend_21 dX4_extend_24 dX4_extend_27
/-! X4_release -/
abbrev rmX4_release : Room := { frames := 7, cells := 2, slots := 12, locals := 114 }
theorem iwX4_release_X0 : ∀ w ∈ u_ws RX0 TX0 14, w ∈ wsX4_release := fun _ h => List.mem_cons_of_mem _ (List.mem_append_left _ (List.mem_append_left _ (List.mem_append_left _ (List.mem_append_left _ (List.mem_append_right _ (h))))))
theorem flX4_release_207 : Cond.fieldLink RX4 207 "Chargehouse$Accused" "isInCustody" "Z" ∈ wsX4_release := List.mem_cons_of_mem _ (List.mem_append_left _ (List.mem_append_left _ (List.mem_append_left _ (List.mem_append_left _ (List.mem_append_left _ (List.mem_of_getElem? (i := 2) rfl))))))
def wX4_release (M : hM) (o : Nat) (a1 : Int32) (a2 : Int32) (Q : hM → Prop) (X : String → hM → Prop) : Prop :=
  ∃ y2, hC M 4 (some o) = some y2 ∧
  wX4_accusedAt M o a1 a2 (fun M3 x1 =>
  ∃ x4, gI M3 0 7 x1 = some x4 ∧
  if (x4 : Int32) = 0 then (
    X "java/lang/IllegalStateException" M3
  ) else (
    ∃ M6, pZ M3 0 7 x1 0 = some M6 ∧
    Q M6
  )) X
set_option maxRecDepth 100000 in
set_option maxHeartbeats 4000000 in
theorem cX4_release_met (l : Launch) (hfl : l.stackTraces = false) (G : hG) (M : hM) {o : Nat} {a1 : Int32} {a2 : Int32} {Q : hM → Prop} {X : String → hM → Prop} (h : wX4_release M o a1 a2 Q X) : hEMet l yX4_release wsX4_release rmX4_release [.ref o, .int a1, .int a2] G M (hQv Q) X 2 12 := by
  refine he_entry (own := RX4) (cc := cX4_release) (maxL := 4) (ret := none) (lv := [some (va_rf (some o)), some (.int a1), some (.int a2), none]) hfl (by decide) rfl rfl (hcc rfl (hcc rfl (hcc rfl hc0))) (Nat.le_of_ble_eq_true rfl) rfl (fun κ sz hG hl hR E ht hn => ?_)
  subst hG; subst hl
  unfold wX4_release at h
  have F := E.1
  have C := F.1
  refine v_aload_n C (pc := 0) (i := 0) dX4_release_0 rfl ?_
  refine v_iload_n C (pc := 1) (i := 1) dX4_release_1 rfl ?_
  refine v_iload_n C (pc := 2) (i := 2) dX4_release_2 rfl ?_
  obtain ⟨y2, hy2, h⟩ := h
  obtain ⟨fsy2, hfy2⟩ := hC_some hy2
  refine v_xV F (pc := 3) (ci := 4) [.int a1, .int a2] 2 (cX4_accusedAt_met (kl κ) F.2.2.2.1 (kG κ) _ h) hfy2 rfl gX4_release_X4_accusedAt rfl hdX4_accusedAt rfl rfl rfl (by rw [hR]; exact ⟨Nat.le_of_ble_eq_true rfl, Nat.le_of_ble_eq_true rfl⟩) (by rw [hR]; decide) (Nat.le_of_ble_eq_true rfl) rfl dX4_release_3 (fun Ex M9 h9 => v_out E ht h9 (by decide) (by decide)) (hk_r fun M3 x1 h => ?_)
  refine v_astore_n C (pc := 6) (i := 3) (lv' := [some (va_rf (some o)), some (.int a1), some (.int a2), some (va_rf x1)]) dX4_release_6 rfl (lw_bi (j := 2) rfl) rfl ?_
  refine v_aload_n C (pc := 7) (i := 3) dX4_release_7 rfl ?_
  obtain ⟨x4, e4, h⟩ := h
  refine v_getI C (pc := 8) (ci := 0) 7 iwX4_release_X0 rfl (by decide) flX4_release_207 e4 dX4_release_8 ?_
  refine v_if_ne C (pc := 11) (tgt := 25) dX4_release_11 (by decide) (fun c5 => ?_) (fun c5 => ?_)
  · rw [if_neg c5] at h
    refine v_aload_n C (pc := 25) (i := 3) dX4_release_25 rfl ?_
    refine v_iconst C (pc := 26) (v := 0) dX4_release_26 (by decide) ?_
    obtain ⟨M6, e6, h⟩ := h
    obtain ⟨hbe6, e6⟩ := pZ_inv e6
    refine v_put F (pc := 27) (ci := 0) (ty := .boolean) 7 iwX4_release_X0 tyX0 tyX0_ok nmX0 rfl (by decide) flX4_release_207 rfl rfl (nar_bool hbe6) (fit_bool hbe6) e6 dX4_release_27 ?_
    exact v_eretV (pc := 30) E rfl ⟨rfl, h⟩ (by decide) (by decide) dX4_release_30
  · rw [if_pos c5] at h
    exact v_throwW E ht (cls := "java/lang/IllegalStateException") (text := "that one is not in custody") (is := 268) (ic := 46) rfl (by decide +kernel) (List.mem_cons_of_mem _ (List.mem_append_left _ (List.mem_append_left _ (List.mem_append_left _ (List.mem_append_left _ (List.mem_append_left _ (List.mem_of_getElem? (i := 0) rfl))))))) (List.mem_cons_of_mem _ (List.mem_append_left _ (List.mem_append_left _ (List.mem_append_left _ (List.mem_append_left _ (List.mem_append_left _ (List.mem_of_getElem? (i := 1) rfl))))))) (by decide +kernel) (fun _ h => List.mem_cons_of_mem _ (List.mem_append_left _ (List.mem_append_right _ (h)))) hnt_ISE hgood_ISE h (by rw [hR]; decide) (by rw [hR]; exact Nat.le_of_ble_eq_true rfl) (by rw [hR]; decide) (by rw [hR]; decide) (by decide) (by decide) dX4_release_14 dX4_release_17 dX4_release_18 dX4_release_21 dX4_release_24
/-! X4_checkDay -/
abbrev rmX4_checkDay : Room := { frames := 6, cells := 1, slots := 6, locals := 90 }
theorem iwX4_checkDay_X4 : ∀ w ∈ u_ws RX4 TX4 13, w ∈ wsX4_checkDay := fun _ h => List.mem_cons_of_mem _ (List.mem_append_left _ (List.mem_append_right _ (h)))
theorem flX4_checkDay_70 : Cond.fieldLink RX4 70 "Chargehouse" "today" "I" ∈ wsX4_checkDay := List.mem_cons_of_mem _ (List.mem_append_left _ (List.mem_append_left _ (List.mem_of_getElem? (i := 2) rfl)))
def wX4_checkDay (M : hM) (o : Nat) (a1 : Int32) (Q : hM → Prop) (X : String → hM → Prop) : Prop :=
  ∃ x1, gI M 4 6 (some o) = some x1 ∧
  ∃ x2, fX4_isWithin a1 0 x1 = some x2 ∧
  if (x2 : Int32) = 0 then (
    X "java/lang/IllegalArgumentException" M
  ) else (
    Q M
  )
set_option maxRecDepth 100000 in
set_option maxHeartbeats 4000000 in
theorem cX4_checkDay_met (l : Launch) (hfl : l.stackTraces = false) (G : hG) (M : hM) {o : Nat} {a1 : Int32} {Q : hM → Prop} {X : String → hM → Prop} (h : wX4_checkDay M o a1 Q X) : hEMet l yX4_checkDay wsX4_checkDay rmX4_checkDay [.ref o, .int a1] G M (hQv Q) X 1 6 := by
  refine he_entry (own := RX4) (cc := cX4_checkDay) (maxL := 2) (ret := none) (lv := [some (va_rf (some o)), some (.int a1)]) hfl (by decide) rfl rfl (hcc rfl (hcc rfl hc0)) (Nat.le_of_ble_eq_true rfl) rfl (fun κ sz hG hl hR E ht hn => ?_)
  subst hG; subst hl
  unfold wX4_checkDay at h
  have F := E.1
  have C := F.1
  refine v_iload_n C (pc := 0) (i := 1) dX4_checkDay_0 rfl ?_
  refine v_iconst C (pc := 1) (v := 0) dX4_checkDay_1 (by decide) ?_
  refine v_aload_n C (pc := 2) (i := 0) dX4_checkDay_2 rfl ?_
  obtain ⟨x1, e1, h⟩ := h
  refine v_getI C (pc := 3) (ci := 4) 6 iwX4_checkDay_X4 rfl (by decide) flX4_checkDay_70 e1 dX4_checkDay_3 ?_
  obtain ⟨x2, e2, h⟩ := h
  refine v_pS C (pc := 6) [.int a1, .int 0, .int x1] 3 (cX4_isWithin_met (kl κ) (kG κ) _ e2) gX4_checkDay_X4_isWithin rfl hdsX4_isWithin rfl rfl rfl (by rw [hR]; exact ⟨Nat.le_of_ble_eq_true rfl, Nat.le_of_ble_eq_true rfl⟩) (by rw [hR]; decide) (Nat.le_of_ble_eq_true rfl) rfl dX4_checkDay_6 ?_
  refine v_if_ne C (pc := 9) (tgt := 23) dX4_checkDay_9 (by decide) (fun c3 => ?_) (fun c3 => ?_)
  · rw [if_neg c3] at h
    exact v_eretV (pc := 23) E rfl ⟨rfl, h⟩ (by decide) (by decide) dX4_checkDay_23
  · rw [if_pos c3] at h
    exact v_throwW E ht (cls := "java/lang/IllegalArgumentException") (text := "day is out of range") (is := 331) (ic := 35) rfl (by decide +kernel) (List.mem_cons_of_mem _ (List.mem_append_left _ (List.mem_append_left _ (List.mem_of_getElem? (i := 0) rfl)))) (List.mem_cons_of_mem _ (List.mem_append_left _ (List.mem_append_left _ (List.mem_of_getElem? (i := 1) rfl)))) (by decide +kernel) (fun _ h => List.mem_cons_of_mem _ (List.mem_append_right _ (h))) hnt_IAE hgood_IAE h (by rw [hR]; decide) (by rw [hR]; exact Nat.le_of_ble_eq_true rfl) (by rw [hR]; decide) (by rw [hR]; decide) (by decide) (by decide) dX4_checkDay_12 dX4_checkDay_15 dX4_checkDay_16 dX4_checkDay_19 dX4_checkDay_22
/-! X4_best -/
abbrev rmX4_best : Room := { frames := 7, cells := 2, slots := 12, locals := 144 }
def wX4_best (M : hM) (o : Nat) (a1 : Int32) (a2 : Int32) (a3 : Int32) (Q : hM → Int32 → Prop) (X : String → hM → Prop) : Prop :=
  ∃ y2, hC M 4 (some o) = some y2 ∧
  wX4_accusedAt M o a1 a2 (fun M3 x1 =>
  ∃ y5, hC M3 4 (some o) = some y5 ∧
  wX4_checkDay M3 o a3 (fun M6 =>
  ∃ y8, hC M6 4 (some o) = some y8 ∧
  ∃ x7, fX4_chargeable M6 o x1 a3 = some x7 ∧
  ∃ y10, hC M6 4 (some o) = some y10 ∧
  ∃ x9, fX4_bestByGrowing M6 o x7 = some x9 ∧
  Q M6 x9) X) X
set_option maxRecDepth 100000 in
set_option maxHeartbeats 4000000 in
theorem cX4_best_met (l : Launch) (hfl : l.stackTraces = false) (G : hG) (M : hM) {o : Nat} {a1 : Int32} {a2 : Int32} {a3 : Int32} {Q : hM → Int32 → Prop} {X : String → hM → Prop} (h : wX4_best M o a1 a2 a3 Q X) : hEMet l yX4_best wsX4_best rmX4_best [.ref o, .int a1, .int a2, .int a3] G M (hQi Q) X 2 12 := by
  refine he_entry (own := RX4) (cc := cX4_best) (maxL := 5) (ret := (some .int)) (lv := [some (va_rf (some o)), some (.int a1), some (.int a2), some (.int a3), none]) hfl (by decide) rfl rfl (hcc rfl (hcc rfl (hcc rfl (hcc rfl hc0)))) (Nat.le_of_ble_eq_true rfl) rfl (fun κ sz hG hl hR E ht hn => ?_)
  subst hG; subst hl
  unfold wX4_best at h
  have F := E.1
  have C := F.1
  refine v_aload_n C (pc := 0) (i := 0) dX4_best_0 rfl ?_
  refine v_iload_n C (pc := 1) (i := 1) dX4_best_1 rfl ?_
  refine v_iload_n C (pc := 2) (i := 2) dX4_best_2 rfl ?_
  obtain ⟨y2, hy2, h⟩ := h
  obtain ⟨fsy2, hfy2⟩ := hC_some hy2
  refine v_xV F (pc := 3) (ci := 4) [.int a1, .int a2] 2 (cX4_accusedAt_met (kl κ) F.2.2.2.1 (kG κ) _ h) hfy2 rfl gX4_best_X4_accusedAt rfl hdX4_accusedAt rfl rfl rfl (by rw [hR]; exact ⟨Nat.le_of_ble_eq_true rfl, Nat.le_of_ble_eq_true rfl⟩) (by rw [hR]; decide) (Nat.le_of_ble_eq_true rfl) rfl dX4_best_3 (fun Ex M9 h9 => v_out E ht h9 (by decide) (by decide)) (hk_r fun M3 x1 h => ?_)
  refine v_astore C (pc := 6) (i := 4) (lv' := [some (va_rf (some o)), some (.int a1), some (.int a2), some (.int a3), some (va_rf x1)]) dX4_best_6 rfl (lw_bi (j := 3) rfl) rfl ?_
  refine v_aload_n C (pc := 8) (i := 0) dX4_best_8 rfl ?_
  refine v_iload_n C (pc := 9) (i := 3) dX4_best_9 rfl ?_
  obtain ⟨y5, hy5, h⟩ := h
  obtain ⟨fsy5, hfy5⟩ := hC_some hy5
  refine v_xV F (pc := 10) (ci := 4) [.int a3] 1 (cX4_checkDay_met (kl κ) F.2.2.2.1 (kG κ) _ h) hfy5 rfl gX4_best_X4_checkDay rfl hdX4_checkDay rfl rfl rfl (by rw [hR]; exact ⟨Nat.le_of_ble_eq_true rfl, Nat.le_of_ble_eq_true rfl⟩) (by rw [hR]; decide) (Nat.le_of_ble_eq_true rfl) rfl dX4_best_10 (fun Ex M9 h9 => v_out E ht h9 (by decide) (by decide)) (hk_v fun M6 h => ?_)
  refine v_aload_n C (pc := 13) (i := 0) dX4_best_13 rfl ?_
  refine v_aload_n C (pc := 14) (i := 0) dX4_best_14 rfl ?_
  refine v_aload C (pc := 15) (i := 4) dX4_best_15 rfl ?_
  refine v_iload_n C (pc := 17) (i := 3) dX4_best_17 rfl ?_
  obtain ⟨y8, hy8, h⟩ := h
  obtain ⟨fsy8, hfy8⟩ := hC_some hy8
  obtain ⟨x7, e7, h⟩ := h
  refine v_pV C (pc := 18) (ci := 4) [va_rf x1, .int a3] 2 (cX4_chargeable_met (kl κ) (kG κ) _ e7) hfy8 rfl gX4_best_X4_chargeable rfl hdX4_chargeable rfl rfl rfl (by rw [hR]; exact ⟨Nat.le_of_ble_eq_true rfl, Nat.le_of_ble_eq_true rfl⟩) (by rw [hR]; decide) (Nat.le_of_ble_eq_true rfl) rfl dX4_best_18 ?_
  obtain ⟨y10, hy10, h⟩ := h
  obtain ⟨fsy10, hfy10⟩ := hC_some hy10
  obtain ⟨x9, e9, h⟩ := h
  refine v_pV C (pc := 21) (ci := 4) [.int x7] 1 (cX4_bestByGrowing_met (kl κ) (kG κ) _ e9) hfy10 rfl gX4_best_X4_bestByGrowing rfl hdX4_bestByGrowing rfl rfl rfl (by rw [hR]; exact ⟨Nat.le_of_ble_eq_true rfl, Nat.le_of_ble_eq_true rfl⟩) (by rw [hR]; decide) (Nat.le_of_ble_eq_true rfl) rfl dX4_best_21 ?_
  exact v_eret (pc := 24) E rfl (nar_int _) ⟨_, rfl, h⟩ (by decide) (by decide) dX4_best_24
/-! X4_lacks -/
abbrev rmX4_lacks : Room := { frames := 7, cells := 1, slots := 6, locals := 114 }
theorem iwX4_lacks_X0 : ∀ w ∈ u_ws RX0 TX0 14, w ∈ wsX4_lacks := fun _ h => List.mem_cons_of_mem _ (List.mem_append_left _ (List.mem_append_left _ (List.mem_append_left _ (List.mem_append_left _ (List.mem_append_right _ (h))))))
theorem iwX4_lacks_X1 : ∀ w ∈ u_ws RX1 TX1 5, w ∈ wsX4_lacks := fun _ h => List.mem_cons_of_mem _ (List.mem_append_left _ (List.mem_append_left _ (List.mem_append_left _ (List.mem_append_right _ (h)))))
theorem flX4_lacks_105 : Cond.fieldLink RX4 105 "Chargehouse$CaseFile" "number" "I" ∈ wsX4_lacks := List.mem_cons_of_mem _ (List.mem_append_left _ (List.mem_append_left _ (List.mem_append_left _ (List.mem_append_left _ (List.mem_append_left _ (List.mem_append_left _ (List.mem_of_getElem? (i := 1) rfl)))))))
theorem flX4_lacks_293 : Cond.fieldLink RX4 293 "Chargehouse$Accused" "file" "LChargehouse$CaseFile;" ∈ wsX4_lacks := List.mem_cons_of_mem _ (List.mem_append_left _ (List.mem_append_left _ (List.mem_append_left _ (List.mem_append_left _ (List.mem_append_left _ (List.mem_append_left _ (List.mem_of_getElem? (i := 0) rfl)))))))
theorem flX4_lacks_296 : Cond.fieldLink RX4 296 "Chargehouse$Accused" "person" "I" ∈ wsX4_lacks := List.mem_cons_of_mem _ (List.mem_append_left _ (List.mem_append_left _ (List.mem_append_left _ (List.mem_append_left _ (List.mem_append_left _ (List.mem_append_left _ (List.mem_of_getElem? (i := 2) rfl)))))))
def wX4_lacks (M : hM) (o : Nat) (a1 : Int32) (a2 : Int32) (Q : hM → Int32 → Prop) (X : String → hM → Prop) : Prop :=
  ∃ y2, hC M 4 (some o) = some y2 ∧
  wX4_accusedAt M o a1 a2 (fun M3 x1 =>
  ∃ x4, gR M3 0 0 x1 = some x4 ∧
  ∃ x5, gI M3 1 0 x4 = some x5 ∧
  ∃ x6, gI M3 0 1 x1 = some x6 ∧
  ∃ y8, hC M3 4 (some o) = some y8 ∧
  ∃ x7, fX4_lackedBy M3 o x5 x6 = some x7 ∧
  Q M3 x7) X
set_option maxRecDepth 100000 in
set_option maxHeartbeats 4000000 in
theorem cX4_lacks_met (l : Launch) (hfl : l.stackTraces = false) (G : hG) (M : hM) {o : Nat} {a1 : Int32} {a2 : Int32} {Q : hM → Int32 → Prop} {X : String → hM → Prop} (h : wX4_lacks M o a1 a2 Q X) : hEMet l yX4_lacks wsX4_lacks rmX4_lacks [.ref o, .int a1, .int a2] G M (hQi Q) X 1 6 := by
  refine he_entry (own := RX4) (cc := cX4_lacks) (maxL := 4) (ret := (some .int)) (lv := [some (va_rf (some o)), some (.int a1), some (.int a2), none]) hfl (by decide) rfl rfl (hcc rfl (hcc rfl (hcc rfl hc0))) (Nat.le_of_ble_eq_true rfl) rfl (fun κ sz hG hl hR E ht hn => ?_)
  subst hG; subst hl
  unfold wX4_lacks at h
  have F := E.1
  have C := F.1
  refine v_aload_n C (pc := 0) (i := 0) dX4_lacks_0 rfl ?_
  refine v_iload_n C (pc := 1) (i := 1) dX4_lacks_1 rfl ?_
  refine v_iload_n C (pc := 2) (i := 2) dX4_lacks_2 rfl ?_
  obtain ⟨y2, hy2, h⟩ := h
  obtain ⟨fsy2, hfy2⟩ := hC_some hy2
  refine v_xV F (pc := 3) (ci := 4) [.int a1, .int a2] 2 (cX4_accusedAt_met (kl κ) F.2.2.2.1 (kG κ) _ h) hfy2 rfl gX4_lacks_X4_accusedAt rfl hdX4_accusedAt rfl rfl rfl (by rw [hR]; exact ⟨Nat.le_of_ble_eq_true rfl, Nat.le_of_ble_eq_true rfl⟩) (by rw [hR]; decide) (Nat.le_of_ble_eq_true rfl) rfl dX4_lacks_3 (fun Ex M9 h9 => v_out E ht h9 (by decide) (by decide)) (hk_r fun M3 x1 h => ?_)
  refine v_astore_n C (pc := 6) (i := 3) (lv' := [some (va_rf (some o)), some (.int a1), some (.int a2), some (va_rf x1)]) dX4_lacks_6 rfl (lw_bi (j := 2) rfl) rfl ?_
  refine v_aload_n C (pc := 7) (i := 0) dX4_lacks_7 rfl ?_
  refine v_aload_n C (pc := 8) (i := 3) dX4_lacks_8 rfl ?_
  obtain ⟨x4, e4, h⟩ := h
  refine v_getR C (pc := 9) (ci := 0) 0 iwX4_lacks_X0 rfl (by decide) flX4_lacks_293 e4 dX4_lacks_9 ?_
  obtain ⟨x5, e5, h⟩ := h
  refine v_getI C (pc := 12) (ci := 1) 0 iwX4_lacks_X1 rfl (by decide) flX4_lacks_105 e5 dX4_lacks_12 ?_
  refine v_aload_n C (pc := 15) (i := 3) dX4_lacks_15 rfl ?_
  obtain ⟨x6, e6, h⟩ := h
  refine v_getI C (pc := 16) (ci := 0) 1 iwX4_lacks_X0 rfl (by decide) flX4_lacks_296 e6 dX4_lacks_16 ?_
  obtain ⟨y8, hy8, h⟩ := h
  obtain ⟨fsy8, hfy8⟩ := hC_some hy8
  obtain ⟨x7, e7, h⟩ := h
  refine v_pV C (pc := 19) (ci := 4) [.int x5, .int x6] 2 (cX4_lackedBy_met (kl κ) (kG κ) _ e7) hfy8 rfl gX4_lacks_X4_lackedBy rfl hdX4_lackedBy rfl rfl rfl (by rw [hR]; exact ⟨Nat.le_of_ble_eq_true rfl, Nat.le_of_ble_eq_true rfl⟩) (by rw [hR]; decide) (Nat.le_of_ble_eq_true rfl) rfl dX4_lacks_19 ?_
  exact v_eret (pc := 22) E rfl (nar_int _) ⟨_, rfl, h⟩ (by decide) (by decide) dX4_lacks_22
/-! X4_ofAccused -/
abbrev rmX4_ofAccused : Room := { frames := 7, cells := 2, slots := 12, locals := 114 }
theorem iwX4_ofAccused_X0 : ∀ w ∈ u_ws RX0 TX0 14, w ∈ wsX4_ofAccused := fun _ h => List.mem_cons_of_mem _ (List.mem_append_left _ (List.mem_append_left _ (List.mem_append_left _ (List.mem_append_left _ (List.mem_append_left _ (List.mem_append_right _ (h)))))))
theorem flX4_ofAccused_178 : Cond.fieldLink RX4 178 "Chargehouse$Accused" "state" "I" ∈ wsX4_ofAccused := List.mem_cons_of_mem _ (List.mem_append_left _ (List.mem_append_left _ (List.mem_append_left _ (List.mem_append_left _ (List.mem_append_left _ (List.mem_append_left _ (List.mem_append_left _ (List.mem_of_getElem? (i := 2) rfl))))))))
theorem flX4_ofAccused_190 : Cond.fieldLink RX4 190 "Chargehouse$Accused" "charges" "I" ∈ wsX4_ofAccused := List.mem_cons_of_mem _ (List.mem_append_left _ (List.mem_append_left _ (List.mem_append_left _ (List.mem_append_left _ (List.mem_append_left _ (List.mem_append_left _ (List.mem_append_left _ (List.mem_of_getElem? (i := 3) rfl))))))))
theorem flX4_ofAccused_207 : Cond.fieldLink RX4 207 "Chargehouse$Accused" "isInCustody" "Z" ∈ wsX4_ofAccused := List.mem_cons_of_mem _ (List.mem_append_left _ (List.mem_append_left _ (List.mem_append_left _ (List.mem_append_left _ (List.mem_append_left _ (List.mem_append_left _ (List.mem_append_left _ (List.mem_of_getElem? (i := 4) rfl))))))))
theorem flX4_ofAccused_249 : Cond.fieldLink RX4 249 "Chargehouse$Accused" "months" "I" ∈ wsX4_ofAccused := List.mem_cons_of_mem _ (List.mem_append_left _ (List.mem_append_left _ (List.mem_append_left _ (List.mem_append_left _ (List.mem_append_left _ (List.mem_append_left _ (List.mem_append_left _ (List.mem_of_getElem? (i := 7) rfl))))))))
theorem flX4_ofAccused_313 : Cond.fieldLink RX4 313 "Chargehouse$Accused" "daysWhileOpen" "I" ∈ wsX4_ofAccused := List.mem_cons_of_mem _ (List.mem_append_left _ (List.mem_append_left _ (List.mem_append_left _ (List.mem_append_left _ (List.mem_append_left _ (List.mem_append_left _ (List.mem_append_left _ (List.mem_of_getElem? (i := 5) rfl))))))))
theorem flX4_ofAccused_316 : Cond.fieldLink RX4 316 "Chargehouse$Accused" "daysWhileCharged" "I" ∈ wsX4_ofAccused := List.mem_cons_of_mem _ (List.mem_append_left _ (List.mem_append_left _ (List.mem_append_left _ (List.mem_append_left _ (List.mem_append_left _ (List.mem_append_left _ (List.mem_append_left _ (List.mem_of_getElem? (i := 6) rfl))))))))
theorem flX4_ofAccused_319 : Cond.fieldLink RX4 319 "Chargehouse$Accused" "convictedOf" "I" ∈ wsX4_ofAccused := List.mem_cons_of_mem _ (List.mem_append_left _ (List.mem_append_left _ (List.mem_append_left _ (List.mem_append_left _ (List.mem_append_left _ (List.mem_append_left _ (List.mem_append_left _ (List.mem_of_getElem? (i := 8) rfl))))))))
def wX4_ofAccused (M : hM) (o : Nat) (a1 : Int32) (a2 : Int32) (a3 : Int32) (Q : hM → Int32 → Prop) (X : String → hM → Prop) : Prop :=
  ∃ y2, hC M 4 (some o) = some y2 ∧
  wX4_accusedAt M o a1 a2 (fun M3 x1 =>
  if (a3 : Int32) = 0 then (
    ∃ x5, gI M3 0 2 x1 = some x5 ∧
    Q M3 x5
  ) else (
    if (a3 : Int32) = 1 then (
      ∃ x7, gI M3 0 3 x1 = some x7 ∧
      Q M3 x7
    ) else (
      if (a3 : Int32) = 2 then (
        ∃ x9, gI M3 0 7 x1 = some x9 ∧
        if (x9 : Int32) = 0 then (
          Q M3 0
        ) else (
          Q M3 1
        )
      ) else (
        if (a3 : Int32) = 3 then (
          ∃ x12, gI M3 0 8 x1 = some x12 ∧
          Q M3 x12
        ) else (
          if (a3 : Int32) = 4 then (
            ∃ x14, gI M3 0 9 x1 = some x14 ∧
            Q M3 x14
          ) else (
            if (a3 : Int32) = 5 then (
              ∃ x16, gI M3 0 11 x1 = some x16 ∧
              Q M3 x16
            ) else (
              if (a3 : Int32) = 6 then (
                ∃ x18, gI M3 0 12 x1 = some x18 ∧
                Q M3 x18
              ) else (
                if (a3 : Int32) = 7 then (
                  ∃ y21, hC M3 4 (some o) = some y21 ∧
                  ∃ x20, fX4_spentOffences M3 o x1 = some x20 ∧
                  Q M3 x20
                ) else (
                    X "java/lang/IllegalArgumentException" M3
                )
              )
            )
          )
        )
      )
    )
  )) X
set_option maxRecDepth 100000 in
set_option maxHeartbeats 4000000 in
theorem cX4_ofAccused_met (l : Launch) (hfl : l.stackTraces = false) (G : hG) (M : hM) {o : Nat} {a1 : Int32} {a2 : Int32} {a3 : Int32} {Q : hM → Int32 → Prop} {X : String → hM → Prop} (h : wX4_ofAccused M o a1 a2 a3 Q X) : hEMet l yX4_ofAccused wsX4_ofAccused rmX4_ofAccused [.ref o, .int a1, .int a2, .int a3] G M (hQi Q) X 2 12 := by
  refine he_entry (own := RX4) (cc := cX4_ofAccused) (maxL := 5) (ret := (some .int)) (lv := [some (va_rf (some o)), some (.int a1), some (.int a2), some (.int a3), none]) hfl (by decide) rfl rfl (hcc rfl (hcc rfl (hcc rfl (hcc rfl hc0)))) (Nat.le_of_ble_eq_true rfl) rfl (fun κ sz hG hl hR E ht hn => ?_)
  subst hG; subst hl
  unfold wX4_ofAccused at h
  have F := E.1
  have C := F.1
  refine v_aload_n C (pc := 0) (i := 0) dX4_ofAccused_0 rfl ?_
  refine v_iload_n C (pc := 1) (i := 1) dX4_ofAccused_1 rfl ?_
  refine v_iload_n C (pc := 2) (i := 2) dX4_ofAccused_2 rfl ?_
  obtain ⟨y2, hy2, h⟩ := h
  obtain ⟨fsy2, hfy2⟩ := hC_some hy2
  refine v_xV F (pc := 3) (ci := 4) [.int a1, .int a2] 2 (cX4_accusedAt_met (kl κ) F.2.2.2.1 (kG κ) _ h) hfy2 rfl gX4_ofAccused_X4_accusedAt rfl hdX4_accusedAt rfl rfl rfl (by rw [hR]; exact ⟨Nat.le_of_ble_eq_true rfl, Nat.le_of_ble_eq_true rfl⟩) (by rw [hR]; decide) (Nat.le_of_ble_eq_true rfl) rfl dX4_ofAccused_3 (fun Ex M9 h9 => v_out E ht h9 (by decide) (by decide)) (hk_r fun M3 x1 h => ?_)
  refine v_astore C (pc := 6) (i := 4) (lv' := [some (va_rf (some o)), some (.int a1), some (.int a2), some (.int a3), some (va_rf x1)]) dX4_ofAccused_6 rfl (lw_bi (j := 3) rfl) rfl ?_
  refine v_iload_n C (pc := 8) (i := 3) dX4_ofAccused_8 rfl ?_
  by_cases c4 : (a3 : Int32) = 0
  · rw [if_pos c4] at h
    refine v_tabIn C (pc := 9) (tgt := 56) dX4_ofAccused_9 c4 (by decide) (by decide) rfl (by decide) ?_
    refine v_aload C (pc := 56) (i := 4) dX4_ofAccused_56 rfl ?_
    obtain ⟨x5, e5, h⟩ := h
    refine v_getI C (pc := 58) (ci := 0) 2 iwX4_ofAccused_X0 rfl (by decide) flX4_ofAccused_178 e5 dX4_ofAccused_58 ?_
    exact v_eret (pc := 61) E rfl (nar_int _) ⟨_, rfl, h⟩ (by decide) (by decide) dX4_ofAccused_61
  · rw [if_neg c4] at h
    by_cases c6 : (a3 : Int32) = 1
    · rw [if_pos c6] at h
      refine v_tabIn C (pc := 9) (tgt := 62) dX4_ofAccused_9 c6 (by decide) (by decide) rfl (by decide) ?_
      refine v_aload C (pc := 62) (i := 4) dX4_ofAccused_62 rfl ?_
      obtain ⟨x7, e7, h⟩ := h
      refine v_getI C (pc := 64) (ci := 0) 3 iwX4_ofAccused_X0 rfl (by decide) flX4_ofAccused_190 e7 dX4_ofAccused_64 ?_
      exact v_eret (pc := 67) E rfl (nar_int _) ⟨_, rfl, h⟩ (by decide) (by decide) dX4_ofAccused_67
    · rw [if_neg c6] at h
      by_cases c8 : (a3 : Int32) = 2
      · rw [if_pos c8] at h
        refine v_tabIn C (pc := 9) (tgt := 68) dX4_ofAccused_9 c8 (by decide) (by decide) rfl (by decide) ?_
        refine v_aload C (pc := 68) (i := 4) dX4_ofAccused_68 rfl ?_
        obtain ⟨x9, e9, h⟩ := h
        refine v_getI C (pc := 70) (ci := 0) 7 iwX4_ofAccused_X0 rfl (by decide) flX4_ofAccused_207 e9 dX4_ofAccused_70 ?_
        refine v_if_eq C (pc := 73) (tgt := 80) dX4_ofAccused_73 (by decide) (fun c10 => ?_) (fun c10 => ?_)
        · rw [if_pos c10] at h
          refine v_iconst C (pc := 80) (v := 0) dX4_ofAccused_80 (by decide) ?_
          exact v_eret (pc := 81) E rfl (nar_int _) ⟨_, rfl, h⟩ (by decide) (by decide) dX4_ofAccused_81
        · rw [if_neg c10] at h
          refine v_iconst C (pc := 76) (v := 1) dX4_ofAccused_76 (by decide) ?_
          refine v_goto C (pc := 77) (tgt := 81) dX4_ofAccused_77 (by decide) ?_
          exact v_eret (pc := 81) E rfl (nar_int _) ⟨_, rfl, h⟩ (by decide) (by decide) dX4_ofAccused_81
      · rw [if_neg c8] at h
        by_cases c11 : (a3 : Int32) = 3
        · rw [if_pos c11] at h
          refine v_tabIn C (pc := 9) (tgt := 82) dX4_ofAccused_9 c11 (by decide) (by decide) rfl (by decide) ?_
          refine v_aload C (pc := 82) (i := 4) dX4_ofAccused_82 rfl ?_
          obtain ⟨x12, e12, h⟩ := h
          refine v_getI C (pc := 84) (ci := 0) 8 iwX4_ofAccused_X0 rfl (by decide) flX4_ofAccused_313 e12 dX4_ofAccused_84 ?_
          exact v_eret (pc := 87) E rfl (nar_int _) ⟨_, rfl, h⟩ (by decide) (by decide) dX4_ofAccused_87
        · rw [if_neg c11] at h
          by_cases c13 : (a3 : Int32) = 4
          · rw [if_pos c13] at h
            refine v_tabIn C (pc := 9) (tgt := 88) dX4_ofAccused_9 c13 (by decide) (by decide) rfl (by decide) ?_
            refine v_aload C (pc := 88) (i := 4) dX4_ofAccused_88 rfl ?_
            obtain ⟨x14, e14, h⟩ := h
            refine v_getI C (pc := 90) (ci := 0) 9 iwX4_ofAccused_X0 rfl (by decide) flX4_ofAccused_316 e14 dX4_ofAccused_90 ?_
            exact v_eret (pc := 93) E rfl (nar_int _) ⟨_, rfl, h⟩ (by decide) (by decide) dX4_ofAccused_93
          · rw [if_neg c13] at h
            by_cases c15 : (a3 : Int32) = 5
            · rw [if_pos c15] at h
              refine v_tabIn C (pc := 9) (tgt := 94) dX4_ofAccused_9 c15 (by decide) (by decide) rfl (by decide) ?_
              refine v_aload C (pc := 94) (i := 4) dX4_ofAccused_94 rfl ?_
              obtain ⟨x16, e16, h⟩ := h
              refine v_getI C (pc := 96) (ci := 0) 11 iwX4_ofAccused_X0 rfl (by decide) flX4_ofAccused_249 e16 dX4_ofAccused_96 ?_
              exact v_eret (pc := 99) E rfl (nar_int _) ⟨_, rfl, h⟩ (by decide) (by decide) dX4_ofAccused_99
            · rw [if_neg c15] at h
              by_cases c17 : (a3 : Int32) = 6
              · rw [if_pos c17] at h
                refine v_tabIn C (pc := 9) (tgt := 100) dX4_ofAccused_9 c17 (by decide) (by decide) rfl (by decide) ?_
                refine v_aload C (pc := 100) (i := 4) dX4_ofAccused_100 rfl ?_
                obtain ⟨x18, e18, h⟩ := h
                refine v_getI C (pc := 102) (ci := 0) 12 iwX4_ofAccused_X0 rfl (by decide) flX4_ofAccused_319 e18 dX4_ofAccused_102 ?_
                exact v_eret (pc := 105) E rfl (nar_int _) ⟨_, rfl, h⟩ (by decide) (by decide) dX4_ofAccused_105
              · rw [if_neg c17] at h
                by_cases c19 : (a3 : Int32) = 7
                · rw [if_pos c19] at h
                  refine v_tabIn C (pc := 9) (tgt := 106) dX4_ofAccused_9 c19 (by decide) (by decide) rfl (by decide) ?_
                  refine v_aload_n C (pc := 106) (i := 0) dX4_ofAccused_106 rfl ?_
                  refine v_aload C (pc := 107) (i := 4) dX4_ofAccused_107 rfl ?_
                  obtain ⟨y21, hy21, h⟩ := h
                  obtain ⟨fsy21, hfy21⟩ := hC_some hy21
                  obtain ⟨x20, e20, h⟩ := h
                  refine v_pV C (pc := 109) (ci := 4) [va_rf x1] 1 (cX4_spentOffences_met (kl κ) (kG κ) _ e20) hfy21 rfl gX4_ofAccused_X4_spentOffences rfl hdX4_spentOffences rfl rfl rfl (by rw [hR]; exact ⟨Nat.le_of_ble_eq_true rfl, Nat.le_of_ble_eq_true rfl⟩) (by rw [hR]; decide) (Nat.le_of_ble_eq_true rfl) rfl dX4_ofAccused_109 ?_
                  exact v_eret (pc := 112) E rfl (nar_int _) ⟨_, rfl, h⟩ (by decide) (by decide) dX4_ofAccused_112
                · rw [if_neg c19] at h
                  refine v_tabOut C (pc := 9) (n := 8) (tgt := 113) dX4_ofAccused_9 (fun k hk => ?_) rfl (by decide) (by decide) ?_
                  · rcases (show k = 0 ∨ k = 1 ∨ k = 2 ∨ k = 3 ∨ k = 4 ∨ k = 5 ∨ k = 6 ∨ k = 7 by omega) with rfl | rfl | rfl | rfl | rfl | rfl | rfl | rfl <;> assumption
                  · exact v_throwW E ht (cls := "java/lang/IllegalArgumentException") (text := "what is out of range") (is := 311) (ic := 35) rfl (by decide +kernel) (List.mem_cons_of_mem _ (List.mem_append_left _ (List.mem_append_left _ (List.mem_append_left _ (List.mem_append_left _ (List.mem_append_left _ (List.mem_append_left _ (List.mem_append_left _ (List.mem_of_getElem? (i := 0) rfl))))))))) (List.mem_cons_of_mem _ (List.mem_append_left _ (List.mem_append_left _ (List.mem_append_left _ (List.mem_append_left _ (List.mem_append_left _ (List.mem_append_left _ (List.mem_append_left _ (List.mem_of_getElem? (i := 1) rfl))))))))) (by decide +kernel) (fun _ h => List.mem_cons_of_mem _ (List.mem_append_left _ (List.mem_append_right _ (h)))) hnt_IAE hgood_IAE h (by rw [hR]; decide) (by rw [hR]; exact Nat.le_of_ble_eq_true rfl) (by rw [hR]; decide) (by rw [hR]; decide) (by decide) (by decide) dX4_ofAccused_113 dX4_ofAccused_116 dX4_ofAccused_117 dX4_ofAccused_120 dX4_ofAccused_123
