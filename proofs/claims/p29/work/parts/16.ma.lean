/-! X4_hasBit -/
abbrev rmX4_hasBit : Room := { frames := 0, cells := 0, slots := 0, locals := 0 }
def fX4_hasBit (a0 : Int32) (a1 : Int32) : Option Int32 :=
  if (((a0 >>> (a1 &&& 31)) &&& 1) : Int32) = 1 then (
    some 1
  ) else (
    some 0
  )
set_option maxRecDepth 100000 in
set_option maxHeartbeats 4000000 in
theorem cX4_hasBit_met (l : Launch) (G : hG) (M : hM) {a0 : Int32} {a1 : Int32} {r : Int32} (h : fX4_hasBit a0 a1 = some r) : hPMet l yX4_hasBit wsX4_hasBit rmX4_hasBit [.int a0, .int a1] G M (some (.int r)) := by
  refine hp_entry (own := RX4) (cc := cX4_hasBit) (maxL := 2) (ret := (some .boolean)) (lv := [some (.int a0), some (.int a1)]) (by decide) rfl rfl (hcc rfl (hcc rfl hc0)) (Nat.le_of_ble_eq_true rfl) rfl (fun κ hG hl hR P => ?_)
  subst hG; subst hl
  unfold fX4_hasBit at h
  have C := P.1
  refine v_iload_n C (pc := 0) (i := 0) dX4_hasBit_0 rfl ?_
  refine v_iload_n C (pc := 1) (i := 1) dX4_hasBit_1 rfl ?_
  refine v_ishr C (pc := 2) dX4_hasBit_2 ?_
  refine v_iconst C (pc := 3) (v := 1) dX4_hasBit_3 (by decide) ?_
  refine v_iand C (pc := 4) dX4_hasBit_4 ?_
  refine v_iconst C (pc := 5) (v := 1) dX4_hasBit_5 (by decide) ?_
  refine v_icmp_ne C (pc := 6) (tgt := 13) dX4_hasBit_6 (by decide) (fun c1 => ?_) (fun c1 => ?_)
  · rw [if_neg c1] at h
    refine v_iconst C (pc := 13) (v := 0) dX4_hasBit_13 (by decide) ?_
    have h := Option.some.inj h
    subst h
    exact v_pret (pc := 14) P rfl rfl (by decide +kernel) dX4_hasBit_14
  · rw [if_pos c1] at h
    refine v_iconst C (pc := 9) (v := 1) dX4_hasBit_9 (by decide) ?_
    refine v_goto C (pc := 10) (tgt := 14) dX4_hasBit_10 (by decide) ?_
    have h := Option.some.inj h
    subst h
    exact v_pret (pc := 14) P rfl rfl (by decide +kernel) dX4_hasBit_14
/-! X0_ceilingWhileOpen -/
abbrev rmX0_ceilingWhileOpen : Room := { frames := 1, cells := 0, slots := 0, locals := 21 }
theorem iwX0_ceilingWhileOpen_X0 : ∀ w ∈ u_ws RX0 TX0 14, w ∈ wsX0_ceilingWhileOpen := fun _ h => List.mem_cons_of_mem _ (List.mem_append_right _ (h))
theorem flX0_ceilingWhileOpen_26 : Cond.fieldLink RX0 26 "Chargehouse$Accused" "extendedBy" "I" ∈ wsX0_ceilingWhileOpen := List.mem_cons_of_mem _ (List.mem_append_left _ (List.mem_of_getElem? (i := 0) rfl))
def bX0_ceilingWhileOpen_17 (M : hM) (o : Nat) (s0 : Int32) (s1 : Int32) : Option Int32 :=
  (gI M 0 10 (some o)).bind fun x4 =>
  (fX4_hasBit x4 2).bind fun x5 =>
  if (x5 : Int32) = 0 then (
    some ((s0 + s1) + 0)
  ) else (
    some ((s0 + s1) + 4)
  )
set_option maxRecDepth 100000 in
set_option maxHeartbeats 4000000 in
theorem tbX0_ceilingWhileOpen_17 {κ : hKx} {M : hM} {o : Nat} {r : Int32} (P : Cp κ RX0 cX0_ceilingWhileOpen wsX0_ceilingWhileOpen (some .int) (some (.int r))) (hR : kR κ = rmX0_ceilingWhileOpen)  {s0 : Int32} {s1 : Int32}  (h : bX0_ceilingWhileOpen_17 M o s0 s1 = some r) : VW κ 0 0 M 17 [some (va_rf (some o))] [.int s1, .int s0] := by
  unfold bX0_ceilingWhileOpen_17 at h
  have C := P.1
  refine v_iadd C (pc := 17) dX0_ceilingWhileOpen_17 ?_
  refine v_aload_n C (pc := 18) (i := 0) dX0_ceilingWhileOpen_18 rfl ?_
  obtain ⟨x4, e4, h⟩ := Option.bind_eq_some_iff.mp h
  refine v_getI C (pc := 19) (ci := 0) 10 iwX0_ceilingWhileOpen_X0 rfl (by decide) flX0_ceilingWhileOpen_26 e4 dX0_ceilingWhileOpen_19 ?_
  refine v_iconst C (pc := 22) (v := 2) dX0_ceilingWhileOpen_22 (by decide) ?_
  obtain ⟨x5, e5, h⟩ := Option.bind_eq_some_iff.mp h
  refine v_pN C (host := RX4) (pc := 23) [.int x4, .int 2] 2 (cX4_hasBit_met (kl κ) (kG κ) _ e5) (by decide) gX0_ceilingWhileOpen_X4_hasBit_n29 rfl (List.mem_cons_of_mem _ (List.mem_append_left _ (List.mem_of_getElem? (i := 1) rfl))) (List.mem_cons_of_mem _ (List.mem_append_left _ (List.mem_of_getElem? (i := 2) rfl))) hdsX4_hasBit rfl rfl rfl (by rw [hR]; exact ⟨Nat.le_of_ble_eq_true rfl, Nat.le_of_ble_eq_true rfl⟩) ⟨Nat.zero_le _, Nat.zero_le _⟩ (Nat.le_of_ble_eq_true rfl) rfl dX0_ceilingWhileOpen_23 ?_
  refine v_if_eq C (pc := 26) (tgt := 33) dX0_ceilingWhileOpen_26 (by decide) (fun c6 => ?_) (fun c6 => ?_)
  · rw [if_pos c6] at h
    refine v_iconst C (pc := 33) (v := 0) dX0_ceilingWhileOpen_33 (by decide) ?_
    refine v_iadd C (pc := 34) dX0_ceilingWhileOpen_34 ?_
    have h := Option.some.inj h
    subst h
    exact v_pret (pc := 35) P rfl rfl (nar_int _) dX0_ceilingWhileOpen_35
  · rw [if_neg c6] at h
    refine v_iconst C (pc := 29) (v := 4) dX0_ceilingWhileOpen_29 (by decide) ?_
    refine v_goto C (pc := 30) (tgt := 34) dX0_ceilingWhileOpen_30 (by decide) ?_
    refine v_iadd C (pc := 34) dX0_ceilingWhileOpen_34 ?_
    have h := Option.some.inj h
    subst h
    exact v_pret (pc := 35) P rfl rfl (nar_int _) dX0_ceilingWhileOpen_35
def fX0_ceilingWhileOpen (M : hM) (o : Nat)  : Option Int32 :=
  (gI M 0 10 (some o)).bind fun x1 =>
  (fX4_hasBit x1 1).bind fun x2 =>
  if (x2 : Int32) = 0 then (
    bX0_ceilingWhileOpen_17 M o 4 0
  ) else (
    bX0_ceilingWhileOpen_17 M o 4 2
  )
set_option maxRecDepth 100000 in
set_option maxHeartbeats 4000000 in
theorem cX0_ceilingWhileOpen_met (l : Launch) (G : hG) (M : hM) {o : Nat}  {r : Int32} (h : fX0_ceilingWhileOpen M o = some r) : hPMet l yX0_ceilingWhileOpen wsX0_ceilingWhileOpen rmX0_ceilingWhileOpen [.ref o] G M (some (.int r)) := by
  refine hp_entry (own := RX0) (cc := cX0_ceilingWhileOpen) (maxL := 1) (ret := (some .int)) (lv := [some (va_rf (some o))]) (by decide) rfl rfl (hcc rfl hc0) (Nat.le_of_ble_eq_true rfl) rfl (fun κ hG hl hR P => ?_)
  subst hG; subst hl
  unfold fX0_ceilingWhileOpen at h
  have C := P.1
  refine v_iconst C (pc := 0) (v := 4) dX0_ceilingWhileOpen_0 (by decide) ?_
  refine v_aload_n C (pc := 1) (i := 0) dX0_ceilingWhileOpen_1 rfl ?_
  obtain ⟨x1, e1, h⟩ := Option.bind_eq_some_iff.mp h
  refine v_getI C (pc := 2) (ci := 0) 10 iwX0_ceilingWhileOpen_X0 rfl (by decide) flX0_ceilingWhileOpen_26 e1 dX0_ceilingWhileOpen_2 ?_
  refine v_iconst C (pc := 5) (v := 1) dX0_ceilingWhileOpen_5 (by decide) ?_
  obtain ⟨x2, e2, h⟩ := Option.bind_eq_some_iff.mp h
  refine v_pN C (host := RX4) (pc := 6) [.int x1, .int 1] 2 (cX4_hasBit_met (kl κ) (kG κ) _ e2) (by decide) gX0_ceilingWhileOpen_X4_hasBit_n29 rfl (List.mem_cons_of_mem _ (List.mem_append_left _ (List.mem_of_getElem? (i := 1) rfl))) (List.mem_cons_of_mem _ (List.mem_append_left _ (List.mem_of_getElem? (i := 2) rfl))) hdsX4_hasBit rfl rfl rfl (by rw [hR]; exact ⟨Nat.le_of_ble_eq_true rfl, Nat.le_of_ble_eq_true rfl⟩) ⟨Nat.zero_le _, Nat.zero_le _⟩ (Nat.le_of_ble_eq_true rfl) rfl dX0_ceilingWhileOpen_6 ?_
  refine v_if_eq C (pc := 9) (tgt := 16) dX0_ceilingWhileOpen_9 (by decide) (fun c3 => ?_) (fun c3 => ?_)
  · rw [if_pos c3] at h
    refine v_iconst C (pc := 16) (v := 0) dX0_ceilingWhileOpen_16 (by decide) ?_
    exact tbX0_ceilingWhileOpen_17 P hR  h
  · rw [if_neg c3] at h
    refine v_iconst C (pc := 12) (v := 2) dX0_ceilingWhileOpen_12 (by decide) ?_
    refine v_goto C (pc := 13) (tgt := 17) dX0_ceilingWhileOpen_13 (by decide) ?_
    exact tbX0_ceilingWhileOpen_17 P hR  h
/-! X0_daysLeft -/
abbrev rmX0_daysLeft : Room := { frames := 2, cells := 0, slots := 0, locals := 41 }
theorem iwX0_daysLeft_X0 : ∀ w ∈ u_ws RX0 TX0 14, w ∈ wsX0_daysLeft := fun _ h => List.mem_cons_of_mem _ (List.mem_append_right _ (h))
theorem flX0_daysLeft_33 : Cond.fieldLink RX0 33 "Chargehouse$Accused" "daysWhileCharged" "I" ∈ wsX0_daysLeft := List.mem_cons_of_mem _ (List.mem_append_left _ (List.mem_of_getElem? (i := 1) rfl))
theorem flX0_daysLeft_40 : Cond.fieldLink RX0 40 "Chargehouse$Accused" "daysWhileOpen" "I" ∈ wsX0_daysLeft := List.mem_cons_of_mem _ (List.mem_append_left _ (List.mem_of_getElem? (i := 2) rfl))
theorem flX0_daysLeft_9 : Cond.fieldLink RX0 9 "Chargehouse$Accused" "state" "I" ∈ wsX0_daysLeft := List.mem_cons_of_mem _ (List.mem_append_left _ (List.mem_of_getElem? (i := 0) rfl))
def fX0_daysLeft (M : hM) (o : Nat)  : Option Int32 :=
  (gI M 0 2 (some o)).bind fun x1 =>
  if (x1 : Int32) = 2 then (
    (gI M 0 9 (some o)).bind fun x6 =>
    some (60 - x6)
  ) else (
    (hC M 0 (some o)).bind fun _ =>
    (fX0_ceilingWhileOpen M o).bind fun x3 =>
    (gI M 0 8 (some o)).bind fun x5 =>
    some (x3 - x5)
  )
set_option maxRecDepth 100000 in
set_option maxHeartbeats 4000000 in
theorem cX0_daysLeft_met (l : Launch) (G : hG) (M : hM) {o : Nat}  {r : Int32} (h : fX0_daysLeft M o = some r) : hPMet l yX0_daysLeft wsX0_daysLeft rmX0_daysLeft [.ref o] G M (some (.int r)) := by
  refine hp_entry (own := RX0) (cc := cX0_daysLeft) (maxL := 1) (ret := (some .int)) (lv := [some (va_rf (some o))]) (by decide) rfl rfl (hcc rfl hc0) (Nat.le_of_ble_eq_true rfl) rfl (fun κ hG hl hR P => ?_)
  subst hG; subst hl
  unfold fX0_daysLeft at h
  have C := P.1
  refine v_aload_n C (pc := 0) (i := 0) dX0_daysLeft_0 rfl ?_
  obtain ⟨x1, e1, h⟩ := Option.bind_eq_some_iff.mp h
  refine v_getI C (pc := 1) (ci := 0) 2 iwX0_daysLeft_X0 rfl (by decide) flX0_daysLeft_9 e1 dX0_daysLeft_1 ?_
  refine v_iconst C (pc := 4) (v := 2) dX0_daysLeft_4 (by decide) ?_
  refine v_icmp_ne C (pc := 5) (tgt := 18) dX0_daysLeft_5 (by decide) (fun c2 => ?_) (fun c2 => ?_)
  · rw [if_neg c2] at h
    refine v_aload_n C (pc := 18) (i := 0) dX0_daysLeft_18 rfl ?_
    obtain ⟨y4, hy4, h⟩ := Option.bind_eq_some_iff.mp h
    obtain ⟨fsy4, hfy4⟩ := hC_some hy4
    obtain ⟨x3, e3, h⟩ := Option.bind_eq_some_iff.mp h
    refine v_pV C (pc := 19) (ci := 0) [] 0 (cX0_ceilingWhileOpen_met (kl κ) (kG κ) _ e3) hfy4 rfl gX0_daysLeft_X0_ceilingWhileOpen rfl hdX0_ceilingWhileOpen rfl rfl rfl (by rw [hR]; exact ⟨Nat.le_of_ble_eq_true rfl, Nat.le_of_ble_eq_true rfl⟩) ⟨Nat.zero_le _, Nat.zero_le _⟩ (Nat.le_of_ble_eq_true rfl) rfl dX0_daysLeft_19 ?_
    refine v_aload_n C (pc := 22) (i := 0) dX0_daysLeft_22 rfl ?_
    obtain ⟨x5, e5, h⟩ := Option.bind_eq_some_iff.mp h
    refine v_getI C (pc := 23) (ci := 0) 8 iwX0_daysLeft_X0 rfl (by decide) flX0_daysLeft_40 e5 dX0_daysLeft_23 ?_
    refine v_isub C (pc := 26) dX0_daysLeft_26 ?_
    have h := Option.some.inj h
    subst h
    exact v_pret (pc := 27) P rfl rfl (nar_int _) dX0_daysLeft_27
  · rw [if_pos c2] at h
    refine v_bipush C (pc := 8) (v := 60) dX0_daysLeft_8 (by decide) ?_
    refine v_aload_n C (pc := 10) (i := 0) dX0_daysLeft_10 rfl ?_
    obtain ⟨x6, e6, h⟩ := Option.bind_eq_some_iff.mp h
    refine v_getI C (pc := 11) (ci := 0) 9 iwX0_daysLeft_X0 rfl (by decide) flX0_daysLeft_33 e6 dX0_daysLeft_11 ?_
    refine v_isub C (pc := 14) dX0_daysLeft_14 ?_
    refine v_goto C (pc := 15) (tgt := 27) dX0_daysLeft_15 (by decide) ?_
    have h := Option.some.inj h
    subst h
    exact v_pret (pc := 27) P rfl rfl (nar_int _) dX0_daysLeft_27
/-! X0_hadAnswered -/
abbrev rmX0_hadAnswered : Room := { frames := 0, cells := 0, slots := 0, locals := 0 }
theorem iwX0_hadAnswered_X0 : ∀ w ∈ u_ws RX0 TX0 14, w ∈ wsX0_hadAnswered := fun _ h => List.mem_cons_of_mem _ (List.mem_append_right _ (h))
theorem flX0_hadAnswered_15 : Cond.fieldLink RX0 15 "Chargehouse$Accused" "firstAnsweredOn" "[I" ∈ wsX0_hadAnswered := List.mem_cons_of_mem _ (List.mem_append_left _ (List.mem_of_getElem? (i := 0) rfl))
def fX0_hadAnswered (M : hM) (o : Nat) (a1 : Int32) (a2 : Int32) : Option Int32 :=
  if (a1 : Int32) < 0 then (
    some 0
  ) else (
    (gR M 0 13 (some o)).bind fun x2 =>
    (aL M 0 x2).bind fun x3 =>
    if (a1 : Int32) < x3 then (
      (gR M 0 13 (some o)).bind fun x5 =>
      (aI M 0 x5 a1).bind fun x6 =>
      if (x6 : Int32) = (-1) then (
        some 0
      ) else (
        (gR M 0 13 (some o)).bind fun x8 =>
        (aI M 0 x8 a1).bind fun x9 =>
        if (a2 : Int32) < x9 then (
          some 0
        ) else (
          some 1
        )
      )
    ) else (
      some 0
    )
  )
set_option maxRecDepth 100000 in
set_option maxHeartbeats 4000000 in
theorem cX0_hadAnswered_met (l : Launch) (G : hG) (M : hM) {o : Nat} {a1 : Int32} {a2 : Int32} {r : Int32} (h : fX0_hadAnswered M o a1 a2 = some r) : hPMet l yX0_hadAnswered wsX0_hadAnswered rmX0_hadAnswered [.ref o, .int a1, .int a2] G M (some (.int r)) := by
  refine hp_entry (own := RX0) (cc := cX0_hadAnswered) (maxL := 3) (ret := (some .boolean)) (lv := [some (va_rf (some o)), some (.int a1), some (.int a2)]) (by decide) rfl rfl (hcc rfl (hcc rfl (hcc rfl hc0))) (Nat.le_of_ble_eq_true rfl) rfl (fun κ hG hl hR P => ?_)
  subst hG; subst hl
  unfold fX0_hadAnswered at h
  have C := P.1
  refine v_iload_n C (pc := 0) (i := 1) dX0_hadAnswered_0 rfl ?_
  refine v_if_lt C (pc := 1) (tgt := 13) dX0_hadAnswered_1 (by decide) (fun c1 => ?_) (fun c1 => ?_)
  · rw [if_pos c1] at h
    refine v_iconst C (pc := 13) (v := 0) dX0_hadAnswered_13 (by decide) ?_
    have h := Option.some.inj h
    subst h
    exact v_pret (pc := 14) P rfl rfl (by decide +kernel) dX0_hadAnswered_14
  · rw [if_neg c1] at h
    refine v_iload_n C (pc := 4) (i := 1) dX0_hadAnswered_4 rfl ?_
    refine v_aload_n C (pc := 5) (i := 0) dX0_hadAnswered_5 rfl ?_
    obtain ⟨x2, e2, h⟩ := Option.bind_eq_some_iff.mp h
    refine v_getR C (pc := 6) (ci := 0) 13 iwX0_hadAnswered_X0 rfl (by decide) flX0_hadAnswered_15 e2 dX0_hadAnswered_6 ?_
    obtain ⟨x3, e3, h⟩ := Option.bind_eq_some_iff.mp h
    refine v_alen C (pc := 9) 0 rfl e3 dX0_hadAnswered_9 ?_
    refine v_icmp_lt C (pc := 10) (tgt := 15) dX0_hadAnswered_10 (by decide) (fun c4 => ?_) (fun c4 => ?_)
    · rw [if_pos c4] at h
      refine v_aload_n C (pc := 15) (i := 0) dX0_hadAnswered_15 rfl ?_
      obtain ⟨x5, e5, h⟩ := Option.bind_eq_some_iff.mp h
      refine v_getR C (pc := 16) (ci := 0) 13 iwX0_hadAnswered_X0 rfl (by decide) flX0_hadAnswered_15 e5 dX0_hadAnswered_16 ?_
      refine v_iload_n C (pc := 19) (i := 1) dX0_hadAnswered_19 rfl ?_
      obtain ⟨x6, e6, h⟩ := Option.bind_eq_some_iff.mp h
      refine v_iald C (pc := 20) e6 dX0_hadAnswered_20 ?_
      refine v_iconst C (pc := 21) (v := (-1)) dX0_hadAnswered_21 (by decide) ?_
      refine v_icmp_eq C (pc := 22) (tgt := 39) dX0_hadAnswered_22 (by decide) (fun c7 => ?_) (fun c7 => ?_)
      · rw [if_pos c7] at h
        refine v_iconst C (pc := 39) (v := 0) dX0_hadAnswered_39 (by decide) ?_
        have h := Option.some.inj h
        subst h
        exact v_pret (pc := 40) P rfl rfl (by decide +kernel) dX0_hadAnswered_40
      · rw [if_neg c7] at h
        refine v_aload_n C (pc := 25) (i := 0) dX0_hadAnswered_25 rfl ?_
        obtain ⟨x8, e8, h⟩ := Option.bind_eq_some_iff.mp h
        refine v_getR C (pc := 26) (ci := 0) 13 iwX0_hadAnswered_X0 rfl (by decide) flX0_hadAnswered_15 e8 dX0_hadAnswered_26 ?_
        refine v_iload_n C (pc := 29) (i := 1) dX0_hadAnswered_29 rfl ?_
        obtain ⟨x9, e9, h⟩ := Option.bind_eq_some_iff.mp h
        refine v_iald C (pc := 30) e9 dX0_hadAnswered_30 ?_
        refine v_iload_n C (pc := 31) (i := 2) dX0_hadAnswered_31 rfl ?_
        refine v_icmp_gt C (pc := 32) (tgt := 39) dX0_hadAnswered_32 (by decide) (fun c10 => ?_) (fun c10 => ?_)
        · rw [if_pos c10] at h
          refine v_iconst C (pc := 39) (v := 0) dX0_hadAnswered_39 (by decide) ?_
          have h := Option.some.inj h
          subst h
          exact v_pret (pc := 40) P rfl rfl (by decide +kernel) dX0_hadAnswered_40
        · rw [if_neg c10] at h
          refine v_iconst C (pc := 35) (v := 1) dX0_hadAnswered_35 (by decide) ?_
          refine v_goto C (pc := 36) (tgt := 40) dX0_hadAnswered_36 (by decide) ?_
          have h := Option.some.inj h
          subst h
          exact v_pret (pc := 40) P rfl rfl (by decide +kernel) dX0_hadAnswered_40
    · rw [if_neg c4] at h
      refine v_iconst C (pc := 13) (v := 0) dX0_hadAnswered_13 (by decide) ?_
      have h := Option.some.inj h
      subst h
      exact v_pret (pc := 14) P rfl rfl (by decide +kernel) dX0_hadAnswered_14
/-! X1_hasAll -/
abbrev rmX1_hasAll : Room := { frames := 0, cells := 0, slots := 0, locals := 0 }
theorem iwX1_hasAll_X1 : ∀ w ∈ u_ws RX1 TX1 5, w ∈ wsX1_hasAll := fun _ h => List.mem_cons_of_mem _ (List.mem_append_right _ (h))
theorem flX1_hasAll_24 : Cond.fieldLink RX1 24 "Chargehouse$CaseFile" "accused" "I" ∈ wsX1_hasAll := List.mem_cons_of_mem _ (List.mem_append_left _ (List.mem_of_getElem? (i := 0) rfl))
def fX1_hasAll (M : hM) (o : Nat) (a1 : Int32) : Option Int32 :=
  if (a1 : Int32) = 0 then (
    some 0
  ) else (
    (gI M 1 2 (some o)).bind fun x2 =>
    if ((a1 &&& (x2 ^^^ (-1))) : Int32) = 0 then (
      some 1
    ) else (
      some 0
    )
  )
set_option maxRecDepth 100000 in
set_option maxHeartbeats 4000000 in
theorem cX1_hasAll_met (l : Launch) (G : hG) (M : hM) {o : Nat} {a1 : Int32} {r : Int32} (h : fX1_hasAll M o a1 = some r) : hPMet l yX1_hasAll wsX1_hasAll rmX1_hasAll [.ref o, .int a1] G M (some (.int r)) := by
  refine hp_entry (own := RX1) (cc := cX1_hasAll) (maxL := 2) (ret := (some .boolean)) (lv := [some (va_rf (some o)), some (.int a1)]) (by decide) rfl rfl (hcc rfl (hcc rfl hc0)) (Nat.le_of_ble_eq_true rfl) rfl (fun κ hG hl hR P => ?_)
  subst hG; subst hl
  unfold fX1_hasAll at h
  have C := P.1
  refine v_iload_n C (pc := 0) (i := 1) dX1_hasAll_0 rfl ?_
  refine v_if_eq C (pc := 1) (tgt := 19) dX1_hasAll_1 (by decide) (fun c1 => ?_) (fun c1 => ?_)
  · rw [if_pos c1] at h
    refine v_iconst C (pc := 19) (v := 0) dX1_hasAll_19 (by decide) ?_
    have h := Option.some.inj h
    subst h
    exact v_pret (pc := 20) P rfl rfl (by decide +kernel) dX1_hasAll_20
  · rw [if_neg c1] at h
    refine v_iload_n C (pc := 4) (i := 1) dX1_hasAll_4 rfl ?_
    refine v_aload_n C (pc := 5) (i := 0) dX1_hasAll_5 rfl ?_
    obtain ⟨x2, e2, h⟩ := Option.bind_eq_some_iff.mp h
    refine v_getI C (pc := 6) (ci := 1) 2 iwX1_hasAll_X1 rfl (by decide) flX1_hasAll_24 e2 dX1_hasAll_6 ?_
    refine v_iconst C (pc := 9) (v := (-1)) dX1_hasAll_9 (by decide) ?_
    refine v_ixor C (pc := 10) dX1_hasAll_10 ?_
    refine v_iand C (pc := 11) dX1_hasAll_11 ?_
    refine v_if_ne C (pc := 12) (tgt := 19) dX1_hasAll_12 (by decide) (fun c3 => ?_) (fun c3 => ?_)
    · rw [if_neg c3] at h
      refine v_iconst C (pc := 19) (v := 0) dX1_hasAll_19 (by decide) ?_
      have h := Option.some.inj h
      subst h
      exact v_pret (pc := 20) P rfl rfl (by decide +kernel) dX1_hasAll_20
    · rw [if_pos c3] at h
      refine v_iconst C (pc := 15) (v := 1) dX1_hasAll_15 (by decide) ?_
      refine v_goto C (pc := 16) (tgt := 20) dX1_hasAll_16 (by decide) ?_
      have h := Option.some.inj h
      subst h
      exact v_pret (pc := 20) P rfl rfl (by decide +kernel) dX1_hasAll_20
/-! X1_rowOf -/
abbrev rmX1_rowOf : Room := { frames := 0, cells := 0, slots := 0, locals := 0 }
theorem iwX1_rowOf_X1 : ∀ w ∈ u_ws RX1 TX1 5, w ∈ wsX1_rowOf := fun _ h => List.mem_cons_of_mem _ (List.mem_append_right _ (h))
theorem flX1_rowOf_11 : Cond.fieldLink RX1 11 "Chargehouse$CaseFile" "rows" "[LChargehouse$Accused;" ∈ wsX1_rowOf := List.mem_cons_of_mem _ (List.mem_append_left _ (List.mem_of_getElem? (i := 0) rfl))
def bX1_rowOf_13 (M : hM) (o : Nat) : Option (Option Nat) :=
  some none
set_option maxRecDepth 100000 in
set_option maxHeartbeats 4000000 in
theorem tbX1_rowOf_13 {κ : hKx} {M : hM} {o : Nat} {r : Option Nat} (P : Cp κ RX1 cX1_rowOf wsX1_rowOf (some (.object "Chargehouse$Accused")) (some (va_rf r))) (hR : kR κ = rmX1_rowOf)    (h : bX1_rowOf_13 M o = some r) : VW κ 0 0 M 13 [none, none] [] := by
  unfold bX1_rowOf_13 at h
  have C := P.1
  refine v_null C (pc := 13) dX1_rowOf_13 ?_
  refine v_goto C (pc := 14) (tgt := 23) dX1_rowOf_14 (by decide) ?_
  have h := Option.some.inj h
  subst h
  exact v_pretR (pc := 23) P rfl rfl dX1_rowOf_23
def fX1_rowOf (M : hM) (o : Nat) (a1 : Int32) : Option (Option Nat) :=
  if (a1 : Int32) < 0 then (
    bX1_rowOf_13 M o
  ) else (
    (gR M 1 4 (some o)).bind fun x2 =>
    (aL M 6 x2).bind fun x3 =>
    if (a1 : Int32) < x3 then (
      (gR M 1 4 (some o)).bind fun x5 =>
      (aR M 6 x5 a1).bind fun x6 =>
      some x6
    ) else (
      bX1_rowOf_13 M o
    )
  )
set_option maxRecDepth 100000 in
set_option maxHeartbeats 4000000 in
theorem cX1_rowOf_met (l : Launch) (G : hG) (M : hM) {o : Nat} {a1 : Int32} {r : Option Nat} (h : fX1_rowOf M o a1 = some r) : hPMet l yX1_rowOf wsX1_rowOf rmX1_rowOf [.ref o, .int a1] G M (some (va_rf r)) := by
  refine hp_entry (own := RX1) (cc := cX1_rowOf) (maxL := 2) (ret := (some (.object "Chargehouse$Accused"))) (lv := [some (va_rf (some o)), some (.int a1)]) (by decide) rfl rfl (hcc rfl (hcc rfl hc0)) (Nat.le_of_ble_eq_true rfl) rfl (fun κ hG hl hR P => ?_)
  subst hG; subst hl
  unfold fX1_rowOf at h
  have C := P.1
  refine v_iload_n C (pc := 0) (i := 1) dX1_rowOf_0 rfl ?_
  refine v_if_lt C (pc := 1) (tgt := 13) dX1_rowOf_1 (by decide) (fun c1 => ?_) (fun c1 => ?_)
  · rw [if_pos c1] at h
    refine v_mask (lv' := [none, none]) [false, false] rfl rfl ?_
    exact tbX1_rowOf_13 P hR  h
  · rw [if_neg c1] at h
    refine v_iload_n C (pc := 4) (i := 1) dX1_rowOf_4 rfl ?_
    refine v_aload_n C (pc := 5) (i := 0) dX1_rowOf_5 rfl ?_
    obtain ⟨x2, e2, h⟩ := Option.bind_eq_some_iff.mp h
    refine v_getR C (pc := 6) (ci := 1) 4 iwX1_rowOf_X1 rfl (by decide) flX1_rowOf_11 e2 dX1_rowOf_6 ?_
    obtain ⟨x3, e3, h⟩ := Option.bind_eq_some_iff.mp h
    refine v_alen C (pc := 9) 6 rfl e3 dX1_rowOf_9 ?_
    refine v_icmp_lt C (pc := 10) (tgt := 17) dX1_rowOf_10 (by decide) (fun c4 => ?_) (fun c4 => ?_)
    · rw [if_pos c4] at h
      refine v_aload_n C (pc := 17) (i := 0) dX1_rowOf_17 rfl ?_
      obtain ⟨x5, e5, h⟩ := Option.bind_eq_some_iff.mp h
      refine v_getR C (pc := 18) (ci := 1) 4 iwX1_rowOf_X1 rfl (by decide) flX1_rowOf_11 e5 dX1_rowOf_18 ?_
      refine v_iload_n C (pc := 21) (i := 1) dX1_rowOf_21 rfl ?_
      obtain ⟨x6, e6, h⟩ := Option.bind_eq_some_iff.mp h
      refine v_aald C (pc := 22) 6 rfl e6 dX1_rowOf_22 ?_
      have h := Option.some.inj h
      subst h
      exact v_pretR (pc := 23) P rfl rfl dX1_rowOf_23
    · rw [if_neg c4] at h
      refine v_mask (lv' := [none, none]) [false, false] rfl rfl ?_
      exact tbX1_rowOf_13 P hR  h
/-! X2_isAgainst -/
abbrev rmX2_isAgainst : Room := { frames := 1, cells := 0, slots := 0, locals := 21 }
theorem iwX2_isAgainst_X2 : ∀ w ∈ u_ws RX2 TX2 10, w ∈ wsX2_isAgainst := fun _ h => List.mem_cons_of_mem _ (List.mem_append_right _ (h))
theorem flX2_isAgainst_24 : Cond.fieldLink RX2 24 "Chargehouse$Item" "against" "I" ∈ wsX2_isAgainst := List.mem_cons_of_mem _ (List.mem_append_left _ (List.mem_of_getElem? (i := 0) rfl))
def fX2_isAgainst (M : hM) (o : Nat) (a1 : Int32) : Option Int32 :=
  (gI M 2 3 (some o)).bind fun x1 =>
  (fX4_hasBit x1 a1).bind fun x2 =>
  hbz x2
set_option maxRecDepth 100000 in
set_option maxHeartbeats 4000000 in
theorem cX2_isAgainst_met (l : Launch) (G : hG) (M : hM) {o : Nat} {a1 : Int32} {r : Int32} (h : fX2_isAgainst M o a1 = some r) : hPMet l yX2_isAgainst wsX2_isAgainst rmX2_isAgainst [.ref o, .int a1] G M (some (.int r)) := by
  refine hp_entry (own := RX2) (cc := cX2_isAgainst) (maxL := 2) (ret := (some .boolean)) (lv := [some (va_rf (some o)), some (.int a1)]) (by decide) rfl rfl (hcc rfl (hcc rfl hc0)) (Nat.le_of_ble_eq_true rfl) rfl (fun κ hG hl hR P => ?_)
  subst hG; subst hl
  unfold fX2_isAgainst at h
  have C := P.1
  refine v_aload_n C (pc := 0) (i := 0) dX2_isAgainst_0 rfl ?_
  obtain ⟨x1, e1, h⟩ := Option.bind_eq_some_iff.mp h
  refine v_getI C (pc := 1) (ci := 2) 3 iwX2_isAgainst_X2 rfl (by decide) flX2_isAgainst_24 e1 dX2_isAgainst_1 ?_
  refine v_iload_n C (pc := 4) (i := 1) dX2_isAgainst_4 rfl ?_
  obtain ⟨x2, e2, h⟩ := Option.bind_eq_some_iff.mp h
  refine v_pN C (host := RX4) (pc := 5) [.int x1, .int a1] 2 (cX4_hasBit_met (kl κ) (kG κ) _ e2) (by decide) gX2_isAgainst_X4_hasBit_n37 rfl (List.mem_cons_of_mem _ (List.mem_append_left _ (List.mem_of_getElem? (i := 1) rfl))) (List.mem_cons_of_mem _ (List.mem_append_left _ (List.mem_of_getElem? (i := 2) rfl))) hdsX4_hasBit rfl rfl rfl (by rw [hR]; exact ⟨Nat.le_of_ble_eq_true rfl, Nat.le_of_ble_eq_true rfl⟩) ⟨Nat.zero_le _, Nat.zero_le _⟩ (Nat.le_of_ble_eq_true rfl) rfl dX2_isAgainst_5 ?_
  obtain ⟨hb, h⟩ := hbz_inv h
  subst h
  exact v_pret (pc := 8) P rfl rfl (nar_bool hb) dX2_isAgainst_8
/-! X2_wasShownTo -/
abbrev rmX2_wasShownTo : Room := { frames := 1, cells := 0, slots := 0, locals := 21 }
theorem iwX2_wasShownTo_X2 : ∀ w ∈ u_ws RX2 TX2 10, w ∈ wsX2_wasShownTo := fun _ h => List.mem_cons_of_mem _ (List.mem_append_right _ (h))
theorem flX2_wasShownTo_41 : Cond.fieldLink RX2 41 "Chargehouse$Item" "shownTo" "I" ∈ wsX2_wasShownTo := List.mem_cons_of_mem _ (List.mem_append_left _ (List.mem_of_getElem? (i := 0) rfl))
def fX2_wasShownTo (M : hM) (o : Nat) (a1 : Int32) : Option Int32 :=
  (gI M 2 8 (some o)).bind fun x1 =>
  (fX4_hasBit x1 a1).bind fun x2 =>
  hbz x2
set_option maxRecDepth 100000 in
set_option maxHeartbeats 4000000 in
theorem cX2_wasShownTo_met (l : Launch) (G : hG) (M : hM) {o : Nat} {a1 : Int32} {r : Int32} (h : fX2_wasShownTo M o a1 = some r) : hPMet l yX2_wasShownTo wsX2_wasShownTo rmX2_wasShownTo [.ref o, .int a1] G M (some (.int r)) := by
  refine hp_entry (own := RX2) (cc := cX2_wasShownTo) (maxL := 2) (ret := (some .boolean)) (lv := [some (va_rf (some o)), some (.int a1)]) (by decide) rfl rfl (hcc rfl (hcc rfl hc0)) (Nat.le_of_ble_eq_true rfl) rfl (fun κ hG hl hR P => ?_)
  subst hG; subst hl
  unfold fX2_wasShownTo at h
  have C := P.1
  refine v_aload_n C (pc := 0) (i := 0) dX2_wasShownTo_0 rfl ?_
  obtain ⟨x1, e1, h⟩ := Option.bind_eq_some_iff.mp h
  refine v_getI C (pc := 1) (ci := 2) 8 iwX2_wasShownTo_X2 rfl (by decide) flX2_wasShownTo_41 e1 dX2_wasShownTo_1 ?_
  refine v_iload_n C (pc := 4) (i := 1) dX2_wasShownTo_4 rfl ?_
  obtain ⟨x2, e2, h⟩ := Option.bind_eq_some_iff.mp h
  refine v_pN C (host := RX4) (pc := 5) [.int x1, .int a1] 2 (cX4_hasBit_met (kl κ) (kG κ) _ e2) (by decide) gX2_wasShownTo_X4_hasBit_n37 rfl (List.mem_cons_of_mem _ (List.mem_append_left _ (List.mem_of_getElem? (i := 1) rfl))) (List.mem_cons_of_mem _ (List.mem_append_left _ (List.mem_of_getElem? (i := 2) rfl))) hdsX4_hasBit rfl rfl rfl (by rw [hR]; exact ⟨Nat.le_of_ble_eq_true rfl, Nat.le_of_ble_eq_true rfl⟩) ⟨Nat.zero_le _, Nat.zero_le _⟩ (Nat.le_of_ble_eq_true rfl) rfl dX2_wasShownTo_5 ?_
  obtain ⟨hb, h⟩ := hbz_inv h
  subst h
  exact v_pret (pc := 8) P rfl rfl (nar_bool hb) dX2_wasShownTo_8
/-! X2_countsOn -/
abbrev rmX2_countsOn : Room := { frames := 0, cells := 0, slots := 0, locals := 0 }
theorem iwX2_countsOn_X2 : ∀ w ∈ u_ws RX2 TX2 10, w ∈ wsX2_countsOn := fun _ h => List.mem_cons_of_mem _ (List.mem_append_right _ (h))
theorem flX2_countsOn_27 : Cond.fieldLink RX2 27 "Chargehouse$Item" "how" "I" ∈ wsX2_countsOn := List.mem_cons_of_mem _ (List.mem_append_left _ (List.mem_of_getElem? (i := 2) rfl))
theorem flX2_countsOn_34 : Cond.fieldLink RX2 34 "Chargehouse$Item" "cameOn" "I" ∈ wsX2_countsOn := List.mem_cons_of_mem _ (List.mem_append_left _ (List.mem_of_getElem? (i := 1) rfl))
theorem flX2_countsOn_9 : Cond.fieldLink RX2 9 "Chargehouse$Item" "admittedOn" "I" ∈ wsX2_countsOn := List.mem_cons_of_mem _ (List.mem_append_left _ (List.mem_of_getElem? (i := 0) rfl))
def bX2_countsOn_41 (M : hM) (o : Nat) : Option Int32 :=
  some 1
set_option maxRecDepth 100000 in
set_option maxHeartbeats 4000000 in
theorem tbX2_countsOn_41 {κ : hKx} {M : hM} {o : Nat} {r : Int32} (P : Cp κ RX2 cX2_countsOn wsX2_countsOn (some .boolean) (some (.int r))) (hR : kR κ = rmX2_countsOn)    (h : bX2_countsOn_41 M o = some r) : VW κ 0 0 M 41 [none, none, none] [] := by
  unfold bX2_countsOn_41 at h
  have C := P.1
  refine v_iconst C (pc := 41) (v := 1) dX2_countsOn_41 (by decide) ?_
  refine v_goto C (pc := 42) (tgt := 46) dX2_countsOn_42 (by decide) ?_
  have h := Option.some.inj h
  subst h
  exact v_pret (pc := 46) P rfl rfl (by decide +kernel) dX2_countsOn_46
def bX2_countsOn_21 (M : hM) (o : Nat) (a1 : Int32) (s0 : Int32) : Option Int32 :=
  (gI M 2 6 (some o)).bind fun x3 =>
  if (a1 : Int32) < x3 then (
    some 0
  ) else (
    (gI M 2 4 (some o)).bind fun x5 =>
    if (x5 : Int32) = 0 then (
      bX2_countsOn_41 M o
    ) else (
      if (s0 : Int32) = 0 then (
        some 0
      ) else (
        bX2_countsOn_41 M o
      )
    )
  )
set_option maxRecDepth 100000 in
set_option maxHeartbeats 4000000 in
theorem tbX2_countsOn_21 {κ : hKx} {M : hM} {o : Nat} {r : Int32} (P : Cp κ RX2 cX2_countsOn wsX2_countsOn (some .boolean) (some (.int r))) (hR : kR κ = rmX2_countsOn)  {a1 : Int32} {s0 : Int32}  (h : bX2_countsOn_21 M o a1 s0 = some r) : VW κ 0 0 M 21 [some (va_rf (some o)), some (.int a1), none] [.int s0] := by
  unfold bX2_countsOn_21 at h
  have C := P.1
  refine v_istore_n C (pc := 21) (i := 2) (lv' := [some (va_rf (some o)), some (.int a1), some (.int s0)]) dX2_countsOn_21 rfl (lw_bi (j := 1) rfl) rfl ?_
  refine v_aload_n C (pc := 22) (i := 0) dX2_countsOn_22 rfl ?_
  obtain ⟨x3, e3, h⟩ := Option.bind_eq_some_iff.mp h
  refine v_getI C (pc := 23) (ci := 2) 6 iwX2_countsOn_X2 rfl (by decide) flX2_countsOn_34 e3 dX2_countsOn_23 ?_
  refine v_iload_n C (pc := 26) (i := 1) dX2_countsOn_26 rfl ?_
  refine v_icmp_gt C (pc := 27) (tgt := 45) dX2_countsOn_27 (by decide) (fun c4 => ?_) (fun c4 => ?_)
  · rw [if_pos c4] at h
    refine v_iconst C (pc := 45) (v := 0) dX2_countsOn_45 (by decide) ?_
    have h := Option.some.inj h
    subst h
    exact v_pret (pc := 46) P rfl rfl (by decide +kernel) dX2_countsOn_46
  · rw [if_neg c4] at h
    refine v_aload_n C (pc := 30) (i := 0) dX2_countsOn_30 rfl ?_
    obtain ⟨x5, e5, h⟩ := Option.bind_eq_some_iff.mp h
    refine v_getI C (pc := 31) (ci := 2) 4 iwX2_countsOn_X2 rfl (by decide) flX2_countsOn_27 e5 dX2_countsOn_31 ?_
    refine v_if_eq C (pc := 34) (tgt := 41) dX2_countsOn_34 (by decide) (fun c6 => ?_) (fun c6 => ?_)
    · rw [if_pos c6] at h
      refine v_mask (lv' := [none, none, none]) [false, false, false] rfl rfl ?_
      exact tbX2_countsOn_41 P hR  h
    · rw [if_neg c6] at h
      refine v_iload_n C (pc := 37) (i := 2) dX2_countsOn_37 rfl ?_
      refine v_if_eq C (pc := 38) (tgt := 45) dX2_countsOn_38 (by decide) (fun c7 => ?_) (fun c7 => ?_)
      · rw [if_pos c7] at h
        refine v_iconst C (pc := 45) (v := 0) dX2_countsOn_45 (by decide) ?_
        have h := Option.some.inj h
        subst h
        exact v_pret (pc := 46) P rfl rfl (by decide +kernel) dX2_countsOn_46
      · rw [if_neg c7] at h
        refine v_mask (lv' := [none, none, none]) [false, false, false] rfl rfl ?_
        exact tbX2_countsOn_41 P hR  h
def bX2_countsOn_20 (M : hM) (o : Nat) (a1 : Int32) : Option Int32 :=
  bX2_countsOn_21 M o a1 0
set_option maxRecDepth 100000 in
set_option maxHeartbeats 4000000 in
theorem tbX2_countsOn_20 {κ : hKx} {M : hM} {o : Nat} {r : Int32} (P : Cp κ RX2 cX2_countsOn wsX2_countsOn (some .boolean) (some (.int r))) (hR : kR κ = rmX2_countsOn)  {a1 : Int32}  (h : bX2_countsOn_20 M o a1 = some r) : VW κ 0 0 M 20 [some (va_rf (some o)), some (.int a1), none] [] := by
  unfold bX2_countsOn_20 at h
  have C := P.1
  refine v_iconst C (pc := 20) (v := 0) dX2_countsOn_20 (by decide) ?_
  exact tbX2_countsOn_21 P hR  h
def fX2_countsOn (M : hM) (o : Nat) (a1 : Int32) : Option Int32 :=
  (gI M 2 7 (some o)).bind fun x1 =>
  if (x1 : Int32) = (-1) then (
    bX2_countsOn_20 M o a1
  ) else (
    (gI M 2 7 (some o)).bind fun x8 =>
    if (a1 : Int32) < x8 then (
      bX2_countsOn_20 M o a1
    ) else (
      bX2_countsOn_21 M o a1 1
    )
  )
set_option maxRecDepth 100000 in
set_option maxHeartbeats 4000000 in
theorem cX2_countsOn_met (l : Launch) (G : hG) (M : hM) {o : Nat} {a1 : Int32} {r : Int32} (h : fX2_countsOn M o a1 = some r) : hPMet l yX2_countsOn wsX2_countsOn rmX2_countsOn [.ref o, .int a1] G M (some (.int r)) := by
  refine hp_entry (own := RX2) (cc := cX2_countsOn) (maxL := 3) (ret := (some .boolean)) (lv := [some (va_rf (some o)), some (.int a1), none]) (by decide) rfl rfl (hcc rfl (hcc rfl hc0)) (Nat.le_of_ble_eq_true rfl) rfl (fun κ hG hl hR P => ?_)
  subst hG; subst hl
  unfold fX2_countsOn at h
  have C := P.1
  refine v_aload_n C (pc := 0) (i := 0) dX2_countsOn_0 rfl ?_
  obtain ⟨x1, e1, h⟩ := Option.bind_eq_some_iff.mp h
  refine v_getI C (pc := 1) (ci := 2) 7 iwX2_countsOn_X2 rfl (by decide) flX2_countsOn_9 e1 dX2_countsOn_1 ?_
  refine v_iconst C (pc := 4) (v := (-1)) dX2_countsOn_4 (by decide) ?_
  refine v_icmp_eq C (pc := 5) (tgt := 20) dX2_countsOn_5 (by decide) (fun c2 => ?_) (fun c2 => ?_)
  · rw [if_pos c2] at h
    exact tbX2_countsOn_20 P hR  h
  · rw [if_neg c2] at h
    refine v_aload_n C (pc := 8) (i := 0) dX2_countsOn_8 rfl ?_
    obtain ⟨x8, e8, h⟩ := Option.bind_eq_some_iff.mp h
    refine v_getI C (pc := 9) (ci := 2) 7 iwX2_countsOn_X2 rfl (by decide) flX2_countsOn_9 e8 dX2_countsOn_9 ?_
    refine v_iload_n C (pc := 12) (i := 1) dX2_countsOn_12 rfl ?_
    refine v_icmp_gt C (pc := 13) (tgt := 20) dX2_countsOn_13 (by decide) (fun c9 => ?_) (fun c9 => ?_)
    · rw [if_pos c9] at h
      exact tbX2_countsOn_20 P hR  h
    · rw [if_neg c9] at h
      refine v_iconst C (pc := 16) (v := 1) dX2_countsOn_16 (by decide) ?_
      refine v_goto C (pc := 17) (tgt := 21) dX2_countsOn_17 (by decide) ?_
      exact tbX2_countsOn_21 P hR  h
/-! X2_isLackedBy -/
abbrev rmX2_isLackedBy : Room := { frames := 2, cells := 0, slots := 0, locals := 42 }
theorem iwX2_isLackedBy_X2 : ∀ w ∈ u_ws RX2 TX2 10, w ∈ wsX2_isLackedBy := fun _ h => List.mem_cons_of_mem _ (List.mem_append_right _ (h))
theorem flX2_isLackedBy_21 : Cond.fieldLink RX2 21 "Chargehouse$Item" "weight" "I" ∈ wsX2_isLackedBy := List.mem_cons_of_mem _ (List.mem_append_left _ (List.mem_of_getElem? (i := 0) rfl))
theorem flX2_isLackedBy_51 : Cond.fieldLink RX2 51 "Chargehouse$Item" "isWithheld" "Z" ∈ wsX2_isLackedBy := List.mem_cons_of_mem _ (List.mem_append_left _ (List.mem_of_getElem? (i := 1) rfl))
def fX2_isLackedBy (M : hM) (o : Nat) (a1 : Int32) : Option Int32 :=
  (gI M 2 2 (some o)).bind fun x1 =>
  if 0 ≤ (x1 : Int32) then (
    some 0
  ) else (
    (hC M 2 (some o)).bind fun _ =>
    (fX2_isAgainst M o a1).bind fun x3 =>
    if (x3 : Int32) = 0 then (
      some 0
    ) else (
      (hC M 2 (some o)).bind fun _ =>
      (fX2_wasShownTo M o a1).bind fun x6 =>
      if (x6 : Int32) = 0 then (
        (gI M 2 9 (some o)).bind fun x9 =>
        if (x9 : Int32) = 0 then (
          some 1
        ) else (
          some 0
        )
      ) else (
        some 0
      )
    )
  )
set_option maxRecDepth 100000 in
set_option maxHeartbeats 4000000 in
theorem cX2_isLackedBy_met (l : Launch) (G : hG) (M : hM) {o : Nat} {a1 : Int32} {r : Int32} (h : fX2_isLackedBy M o a1 = some r) : hPMet l yX2_isLackedBy wsX2_isLackedBy rmX2_isLackedBy [.ref o, .int a1] G M (some (.int r)) := by
  refine hp_entry (own := RX2) (cc := cX2_isLackedBy) (maxL := 2) (ret := (some .boolean)) (lv := [some (va_rf (some o)), some (.int a1)]) (by decide) rfl rfl (hcc rfl (hcc rfl hc0)) (Nat.le_of_ble_eq_true rfl) rfl (fun κ hG hl hR P => ?_)
  subst hG; subst hl
  unfold fX2_isLackedBy at h
  have C := P.1
  refine v_aload_n C (pc := 0) (i := 0) dX2_isLackedBy_0 rfl ?_
  obtain ⟨x1, e1, h⟩ := Option.bind_eq_some_iff.mp h
  refine v_getI C (pc := 1) (ci := 2) 2 iwX2_isLackedBy_X2 rfl (by decide) flX2_isLackedBy_21 e1 dX2_isLackedBy_1 ?_
  refine v_if_ge C (pc := 4) (tgt := 34) dX2_isLackedBy_4 (by decide) (fun c2 => ?_) (fun c2 => ?_)
  · rw [if_pos c2] at h
    refine v_iconst C (pc := 34) (v := 0) dX2_isLackedBy_34 (by decide) ?_
    have h := Option.some.inj h
    subst h
    exact v_pret (pc := 35) P rfl rfl (by decide +kernel) dX2_isLackedBy_35
  · rw [if_neg c2] at h
    refine v_aload_n C (pc := 7) (i := 0) dX2_isLackedBy_7 rfl ?_
    refine v_iload_n C (pc := 8) (i := 1) dX2_isLackedBy_8 rfl ?_
    obtain ⟨y4, hy4, h⟩ := Option.bind_eq_some_iff.mp h
    obtain ⟨fsy4, hfy4⟩ := hC_some hy4
    obtain ⟨x3, e3, h⟩ := Option.bind_eq_some_iff.mp h
    refine v_pV C (pc := 9) (ci := 2) [.int a1] 1 (cX2_isAgainst_met (kl κ) (kG κ) _ e3) hfy4 rfl gX2_isLackedBy_X2_isAgainst rfl hdX2_isAgainst rfl rfl rfl (by rw [hR]; exact ⟨Nat.le_of_ble_eq_true rfl, Nat.le_of_ble_eq_true rfl⟩) ⟨Nat.zero_le _, Nat.zero_le _⟩ (Nat.le_of_ble_eq_true rfl) rfl dX2_isLackedBy_9 ?_
    refine v_if_eq C (pc := 12) (tgt := 34) dX2_isLackedBy_12 (by decide) (fun c5 => ?_) (fun c5 => ?_)
    · rw [if_pos c5] at h
      refine v_iconst C (pc := 34) (v := 0) dX2_isLackedBy_34 (by decide) ?_
      have h := Option.some.inj h
      subst h
      exact v_pret (pc := 35) P rfl rfl (by decide +kernel) dX2_isLackedBy_35
    · rw [if_neg c5] at h
      refine v_aload_n C (pc := 15) (i := 0) dX2_isLackedBy_15 rfl ?_
      refine v_iload_n C (pc := 16) (i := 1) dX2_isLackedBy_16 rfl ?_
      obtain ⟨y7, hy7, h⟩ := Option.bind_eq_some_iff.mp h
      obtain ⟨fsy7, hfy7⟩ := hC_some hy7
      obtain ⟨x6, e6, h⟩ := Option.bind_eq_some_iff.mp h
      refine v_pV C (pc := 17) (ci := 2) [.int a1] 1 (cX2_wasShownTo_met (kl κ) (kG κ) _ e6) hfy7 rfl gX2_isLackedBy_X2_wasShownTo rfl hdX2_wasShownTo rfl rfl rfl (by rw [hR]; exact ⟨Nat.le_of_ble_eq_true rfl, Nat.le_of_ble_eq_true rfl⟩) ⟨Nat.zero_le _, Nat.zero_le _⟩ (Nat.le_of_ble_eq_true rfl) rfl dX2_isLackedBy_17 ?_
      refine v_if_ne C (pc := 20) (tgt := 34) dX2_isLackedBy_20 (by decide) (fun c8 => ?_) (fun c8 => ?_)
      · rw [if_neg c8] at h
        refine v_iconst C (pc := 34) (v := 0) dX2_isLackedBy_34 (by decide) ?_
        have h := Option.some.inj h
        subst h
        exact v_pret (pc := 35) P rfl rfl (by decide +kernel) dX2_isLackedBy_35
      · rw [if_pos c8] at h
        refine v_aload_n C (pc := 23) (i := 0) dX2_isLackedBy_23 rfl ?_
        obtain ⟨x9, e9, h⟩ := Option.bind_eq_some_iff.mp h
        refine v_getI C (pc := 24) (ci := 2) 9 iwX2_isLackedBy_X2 rfl (by decide) flX2_isLackedBy_51 e9 dX2_isLackedBy_24 ?_
        refine v_if_ne C (pc := 27) (tgt := 34) dX2_isLackedBy_27 (by decide) (fun c10 => ?_) (fun c10 => ?_)
        · rw [if_neg c10] at h
          refine v_iconst C (pc := 34) (v := 0) dX2_isLackedBy_34 (by decide) ?_
          have h := Option.some.inj h
          subst h
          exact v_pret (pc := 35) P rfl rfl (by decide +kernel) dX2_isLackedBy_35
        · rw [if_pos c10] at h
          refine v_iconst C (pc := 30) (v := 1) dX2_isLackedBy_30 (by decide) ?_
          refine v_goto C (pc := 31) (tgt := 35) dX2_isLackedBy_31 (by decide) ?_
          have h := Option.some.inj h
          subst h
          exact v_pret (pc := 35) P rfl rfl (by decide +kernel) dX2_isLackedBy_35
/-! X3_excludes -/
abbrev rmX3_excludes : Room := { frames := 1, cells := 0, slots := 0, locals := 21 }
theorem iwX3_excludes_X3 : ∀ w ∈ u_ws RX3 TX3 4, w ∈ wsX3_excludes := fun _ h => List.mem_cons_of_mem _ (List.mem_append_right _ (h))
theorem flX3_excludes_19 : Cond.fieldLink RX3 19 "Chargehouse$Offence" "excluded" "I" ∈ wsX3_excludes := List.mem_cons_of_mem _ (List.mem_append_left _ (List.mem_of_getElem? (i := 0) rfl))
def fX3_excludes (M : hM) (o : Nat) (a1 : Int32) : Option Int32 :=
  (gI M 3 3 (some o)).bind fun x1 =>
  (fX4_hasBit x1 a1).bind fun x2 =>
  hbz x2
set_option maxRecDepth 100000 in
set_option maxHeartbeats 4000000 in
theorem cX3_excludes_met (l : Launch) (G : hG) (M : hM) {o : Nat} {a1 : Int32} {r : Int32} (h : fX3_excludes M o a1 = some r) : hPMet l yX3_excludes wsX3_excludes rmX3_excludes [.ref o, .int a1] G M (some (.int r)) := by
  refine hp_entry (own := RX3) (cc := cX3_excludes) (maxL := 2) (ret := (some .boolean)) (lv := [some (va_rf (some o)), some (.int a1)]) (by decide) rfl rfl (hcc rfl (hcc rfl hc0)) (Nat.le_of_ble_eq_true rfl) rfl (fun κ hG hl hR P => ?_)
  subst hG; subst hl
  unfold fX3_excludes at h
  have C := P.1
  refine v_aload_n C (pc := 0) (i := 0) dX3_excludes_0 rfl ?_
  obtain ⟨x1, e1, h⟩ := Option.bind_eq_some_iff.mp h
  refine v_getI C (pc := 1) (ci := 3) 3 iwX3_excludes_X3 rfl (by decide) flX3_excludes_19 e1 dX3_excludes_1 ?_
  refine v_iload_n C (pc := 4) (i := 1) dX3_excludes_4 rfl ?_
  obtain ⟨x2, e2, h⟩ := Option.bind_eq_some_iff.mp h
  refine v_pN C (host := RX4) (pc := 5) [.int x1, .int a1] 2 (cX4_hasBit_met (kl κ) (kG κ) _ e2) (by decide) gX3_excludes_X4_hasBit_n22 rfl (List.mem_cons_of_mem _ (List.mem_append_left _ (List.mem_of_getElem? (i := 1) rfl))) (List.mem_cons_of_mem _ (List.mem_append_left _ (List.mem_of_getElem? (i := 2) rfl))) hdsX4_hasBit rfl rfl rfl (by rw [hR]; exact ⟨Nat.le_of_ble_eq_true rfl, Nat.le_of_ble_eq_true rfl⟩) ⟨Nat.zero_le _, Nat.zero_le _⟩ (Nat.le_of_ble_eq_true rfl) rfl dX3_excludes_5 ?_
  obtain ⟨hb, h⟩ := hbz_inv h
  subst h
  exact v_pret (pc := 8) P rfl rfl (nar_bool hb) dX3_excludes_8
/-! X3_nestsIn -/
abbrev rmX3_nestsIn : Room := { frames := 0, cells := 0, slots := 0, locals := 0 }
theorem iwX3_nestsIn_X3 : ∀ w ∈ u_ws RX3 TX3 4, w ∈ wsX3_nestsIn := fun _ h => List.mem_cons_of_mem _ (List.mem_append_right _ (h))
theorem flX3_nestsIn_7 : Cond.fieldLink RX3 7 "Chargehouse$Offence" "elements" "I" ∈ wsX3_nestsIn := List.mem_cons_of_mem _ (List.mem_append_left _ (List.mem_of_getElem? (i := 0) rfl))
def fX3_nestsIn (M : hM) (o : Nat) (a1 : Option Nat) : Option Int32 :=
  (gI M 3 0 (some o)).bind fun x1 =>
  (gI M 3 0 a1).bind fun x2 =>
  if (x1 : Int32) = x2 then (
    some 0
  ) else (
    (gI M 3 0 (some o)).bind fun x4 =>
    (gI M 3 0 a1).bind fun x5 =>
    if ((x4 &&& (x5 ^^^ (-1))) : Int32) = 0 then (
      some 1
    ) else (
      some 0
    )
  )
set_option maxRecDepth 100000 in
set_option maxHeartbeats 4000000 in
theorem cX3_nestsIn_met (l : Launch) (G : hG) (M : hM) {o : Nat} {a1 : Option Nat} {r : Int32} (h : fX3_nestsIn M o a1 = some r) : hPMet l yX3_nestsIn wsX3_nestsIn rmX3_nestsIn [.ref o, va_rf a1] G M (some (.int r)) := by
  refine hp_entry (own := RX3) (cc := cX3_nestsIn) (maxL := 2) (ret := (some .boolean)) (lv := [some (va_rf (some o)), some (va_rf a1)]) (by decide) rfl rfl (hcc rfl (hcc (rf_cat _) hc0)) (Nat.le_of_ble_eq_true rfl) rfl (fun κ hG hl hR P => ?_)
  subst hG; subst hl
  unfold fX3_nestsIn at h
  have C := P.1
  refine v_aload_n C (pc := 0) (i := 0) dX3_nestsIn_0 rfl ?_
  obtain ⟨x1, e1, h⟩ := Option.bind_eq_some_iff.mp h
  refine v_getI C (pc := 1) (ci := 3) 0 iwX3_nestsIn_X3 rfl (by decide) flX3_nestsIn_7 e1 dX3_nestsIn_1 ?_
  refine v_aload_n C (pc := 4) (i := 1) dX3_nestsIn_4 rfl ?_
  obtain ⟨x2, e2, h⟩ := Option.bind_eq_some_iff.mp h
  refine v_getI C (pc := 5) (ci := 3) 0 iwX3_nestsIn_X3 rfl (by decide) flX3_nestsIn_7 e2 dX3_nestsIn_5 ?_
  refine v_icmp_eq C (pc := 8) (tgt := 29) dX3_nestsIn_8 (by decide) (fun c3 => ?_) (fun c3 => ?_)
  · rw [if_pos c3] at h
    refine v_iconst C (pc := 29) (v := 0) dX3_nestsIn_29 (by decide) ?_
    have h := Option.some.inj h
    subst h
    exact v_pret (pc := 30) P rfl rfl (by decide +kernel) dX3_nestsIn_30
  · rw [if_neg c3] at h
    refine v_aload_n C (pc := 11) (i := 0) dX3_nestsIn_11 rfl ?_
    obtain ⟨x4, e4, h⟩ := Option.bind_eq_some_iff.mp h
    refine v_getI C (pc := 12) (ci := 3) 0 iwX3_nestsIn_X3 rfl (by decide) flX3_nestsIn_7 e4 dX3_nestsIn_12 ?_
    refine v_aload_n C (pc := 15) (i := 1) dX3_nestsIn_15 rfl ?_
    obtain ⟨x5, e5, h⟩ := Option.bind_eq_some_iff.mp h
    refine v_getI C (pc := 16) (ci := 3) 0 iwX3_nestsIn_X3 rfl (by decide) flX3_nestsIn_7 e5 dX3_nestsIn_16 ?_
    refine v_iconst C (pc := 19) (v := (-1)) dX3_nestsIn_19 (by decide) ?_
    refine v_ixor C (pc := 20) dX3_nestsIn_20 ?_
    refine v_iand C (pc := 21) dX3_nestsIn_21 ?_
    refine v_if_ne C (pc := 22) (tgt := 29) dX3_nestsIn_22 (by decide) (fun c6 => ?_) (fun c6 => ?_)
    · rw [if_neg c6] at h
      refine v_iconst C (pc := 29) (v := 0) dX3_nestsIn_29 (by decide) ?_
      have h := Option.some.inj h
      subst h
      exact v_pret (pc := 30) P rfl rfl (by decide +kernel) dX3_nestsIn_30
    · rw [if_pos c6] at h
      refine v_iconst C (pc := 25) (v := 1) dX3_nestsIn_25 (by decide) ?_
      refine v_goto C (pc := 26) (tgt := 30) dX3_nestsIn_26 (by decide) ?_
      have h := Option.some.inj h
      subst h
      exact v_pret (pc := 30) P rfl rfl (by decide +kernel) dX3_nestsIn_30
/-! X3_isAkinTo -/
abbrev rmX3_isAkinTo : Room := { frames := 1, cells := 0, slots := 0, locals := 21 }
theorem iwX3_isAkinTo_X3 : ∀ w ∈ u_ws RX3 TX3 4, w ∈ wsX3_isAkinTo := fun _ h => List.mem_cons_of_mem _ (List.mem_append_right _ (h))
theorem flX3_isAkinTo_7 : Cond.fieldLink RX3 7 "Chargehouse$Offence" "elements" "I" ∈ wsX3_isAkinTo := List.mem_cons_of_mem _ (List.mem_append_left _ (List.mem_of_getElem? (i := 0) rfl))
def bX3_isAkinTo_27 (M : hM) (o : Nat) : Option Int32 :=
  some 1
set_option maxRecDepth 100000 in
set_option maxHeartbeats 4000000 in
theorem tbX3_isAkinTo_27 {κ : hKx} {M : hM} {o : Nat} {r : Int32} (P : Cp κ RX3 cX3_isAkinTo wsX3_isAkinTo (some .boolean) (some (.int r))) (hR : kR κ = rmX3_isAkinTo)    (h : bX3_isAkinTo_27 M o = some r) : VW κ 0 0 M 27 [none, none] [] := by
  unfold bX3_isAkinTo_27 at h
  have C := P.1
  refine v_iconst C (pc := 27) (v := 1) dX3_isAkinTo_27 (by decide) ?_
  refine v_goto C (pc := 28) (tgt := 32) dX3_isAkinTo_28 (by decide) ?_
  have h := Option.some.inj h
  subst h
  exact v_pret (pc := 32) P rfl rfl (by decide +kernel) dX3_isAkinTo_32
def fX3_isAkinTo (M : hM) (o : Nat) (a1 : Option Nat) : Option Int32 :=
  (gI M 3 0 (some o)).bind fun x1 =>
  (gI M 3 0 a1).bind fun x2 =>
  if (x1 : Int32) = x2 then (
    bX3_isAkinTo_27 M o
  ) else (
    (hC M 3 (some o)).bind fun _ =>
    (fX3_nestsIn M o a1).bind fun x4 =>
    if (x4 : Int32) = 0 then (
      (hC M 3 a1).bind fun y8 =>
      (fX3_nestsIn M y8 (some o)).bind fun x7 =>
      if (x7 : Int32) = 0 then (
        some 0
      ) else (
        bX3_isAkinTo_27 M o
      )
    ) else (
      bX3_isAkinTo_27 M o
    )
  )
set_option maxRecDepth 100000 in
set_option maxHeartbeats 4000000 in
theorem cX3_isAkinTo_met (l : Launch) (G : hG) (M : hM) {o : Nat} {a1 : Option Nat} {r : Int32} (h : fX3_isAkinTo M o a1 = some r) : hPMet l yX3_isAkinTo wsX3_isAkinTo rmX3_isAkinTo [.ref o, va_rf a1] G M (some (.int r)) := by
  refine hp_entry (own := RX3) (cc := cX3_isAkinTo) (maxL := 2) (ret := (some .boolean)) (lv := [some (va_rf (some o)), some (va_rf a1)]) (by decide) rfl rfl (hcc rfl (hcc (rf_cat _) hc0)) (Nat.le_of_ble_eq_true rfl) rfl (fun κ hG hl hR P => ?_)
  subst hG; subst hl
  unfold fX3_isAkinTo at h
  have C := P.1
  refine v_aload_n C (pc := 0) (i := 0) dX3_isAkinTo_0 rfl ?_
  obtain ⟨x1, e1, h⟩ := Option.bind_eq_some_iff.mp h
  refine v_getI C (pc := 1) (ci := 3) 0 iwX3_isAkinTo_X3 rfl (by decide) flX3_isAkinTo_7 e1 dX3_isAkinTo_1 ?_
  refine v_aload_n C (pc := 4) (i := 1) dX3_isAkinTo_4 rfl ?_
  obtain ⟨x2, e2, h⟩ := Option.bind_eq_some_iff.mp h
  refine v_getI C (pc := 5) (ci := 3) 0 iwX3_isAkinTo_X3 rfl (by decide) flX3_isAkinTo_7 e2 dX3_isAkinTo_5 ?_
  refine v_icmp_eq C (pc := 8) (tgt := 27) dX3_isAkinTo_8 (by decide) (fun c3 => ?_) (fun c3 => ?_)
  · rw [if_pos c3] at h
    refine v_mask (lv' := [none, none]) [false, false] rfl rfl ?_
    exact tbX3_isAkinTo_27 P hR  h
  · rw [if_neg c3] at h
    refine v_aload_n C (pc := 11) (i := 0) dX3_isAkinTo_11 rfl ?_
    refine v_aload_n C (pc := 12) (i := 1) dX3_isAkinTo_12 rfl ?_
    obtain ⟨y5, hy5, h⟩ := Option.bind_eq_some_iff.mp h
    obtain ⟨fsy5, hfy5⟩ := hC_some hy5
    obtain ⟨x4, e4, h⟩ := Option.bind_eq_some_iff.mp h
    refine v_pV C (pc := 13) (ci := 3) [va_rf a1] 1 (cX3_nestsIn_met (kl κ) (kG κ) _ e4) hfy5 rfl gX3_isAkinTo_X3_nestsIn rfl hdX3_nestsIn rfl rfl rfl (by rw [hR]; exact ⟨Nat.le_of_ble_eq_true rfl, Nat.le_of_ble_eq_true rfl⟩) ⟨Nat.zero_le _, Nat.zero_le _⟩ (Nat.le_of_ble_eq_true rfl) rfl dX3_isAkinTo_13 ?_
    refine v_if_ne C (pc := 16) (tgt := 27) dX3_isAkinTo_16 (by decide) (fun c6 => ?_) (fun c6 => ?_)
    · rw [if_neg c6] at h
      refine v_mask (lv' := [none, none]) [false, false] rfl rfl ?_
      exact tbX3_isAkinTo_27 P hR  h
    · rw [if_pos c6] at h
      refine v_aload_n C (pc := 19) (i := 1) dX3_isAkinTo_19 rfl ?_
      refine v_aload_n C (pc := 20) (i := 0) dX3_isAkinTo_20 rfl ?_
      obtain ⟨y8, hy8, hh⟩ := Option.bind_eq_some_iff.mp h
      clear h
      obtain ⟨rfl, fsy8, hfy8⟩ := hC_inv hy8
      have h := hh
      clear hh
      obtain ⟨x7, e7, h⟩ := Option.bind_eq_some_iff.mp h
      refine v_pV C (pc := 21) (ci := 3) [va_rf (some o)] 1 (cX3_nestsIn_met (kl κ) (kG κ) _ e7) hfy8 rfl gX3_isAkinTo_X3_nestsIn rfl hdX3_nestsIn rfl rfl rfl (by rw [hR]; exact ⟨Nat.le_of_ble_eq_true rfl, Nat.le_of_ble_eq_true rfl⟩) ⟨Nat.zero_le _, Nat.zero_le _⟩ (Nat.le_of_ble_eq_true rfl) rfl dX3_isAkinTo_21 ?_
      refine v_if_eq C (pc := 24) (tgt := 31) dX3_isAkinTo_24 (by decide) (fun c9 => ?_) (fun c9 => ?_)
      · rw [if_pos c9] at h
        refine v_iconst C (pc := 31) (v := 0) dX3_isAkinTo_31 (by decide) ?_
        have h := Option.some.inj h
        subst h
        exact v_pret (pc := 32) P rfl rfl (by decide +kernel) dX3_isAkinTo_32
      · rw [if_neg c9] at h
        refine v_mask (lv' := [none, none]) [false, false] rfl rfl ?_
        exact tbX3_isAkinTo_27 P hR  h
/-! X4_isWithin -/
abbrev rmX4_isWithin : Room := { frames := 0, cells := 0, slots := 0, locals := 0 }
def fX4_isWithin (a0 : Int32) (a1 : Int32) (a2 : Int32) : Option Int32 :=
  if (a0 : Int32) < a1 then (
    some 0
  ) else (
    if (a2 : Int32) < a0 then (
      some 0
    ) else (
      some 1
    )
  )
set_option maxRecDepth 100000 in
set_option maxHeartbeats 4000000 in
theorem cX4_isWithin_met (l : Launch) (G : hG) (M : hM) {a0 : Int32} {a1 : Int32} {a2 : Int32} {r : Int32} (h : fX4_isWithin a0 a1 a2 = some r) : hPMet l yX4_isWithin wsX4_isWithin rmX4_isWithin [.int a0, .int a1, .int a2] G M (some (.int r)) := by
  refine hp_entry (own := RX4) (cc := cX4_isWithin) (maxL := 3) (ret := (some .boolean)) (lv := [some (.int a0), some (.int a1), some (.int a2)]) (by decide) rfl rfl (hcc rfl (hcc rfl (hcc rfl hc0))) (Nat.le_of_ble_eq_true rfl) rfl (fun κ hG hl hR P => ?_)
  subst hG; subst hl
  unfold fX4_isWithin at h
  have C := P.1
  refine v_iload_n C (pc := 0) (i := 0) dX4_isWithin_0 rfl ?_
  refine v_iload_n C (pc := 1) (i := 1) dX4_isWithin_1 rfl ?_
  refine v_icmp_lt C (pc := 2) (tgt := 14) dX4_isWithin_2 (by decide) (fun c1 => ?_) (fun c1 => ?_)
  · rw [if_pos c1] at h
    refine v_iconst C (pc := 14) (v := 0) dX4_isWithin_14 (by decide) ?_
    have h := Option.some.inj h
    subst h
    exact v_pret (pc := 15) P rfl rfl (by decide +kernel) dX4_isWithin_15
  · rw [if_neg c1] at h
    refine v_iload_n C (pc := 5) (i := 0) dX4_isWithin_5 rfl ?_
    refine v_iload_n C (pc := 6) (i := 2) dX4_isWithin_6 rfl ?_
    refine v_icmp_gt C (pc := 7) (tgt := 14) dX4_isWithin_7 (by decide) (fun c2 => ?_) (fun c2 => ?_)
    · rw [if_pos c2] at h
      refine v_iconst C (pc := 14) (v := 0) dX4_isWithin_14 (by decide) ?_
      have h := Option.some.inj h
      subst h
      exact v_pret (pc := 15) P rfl rfl (by decide +kernel) dX4_isWithin_15
    · rw [if_neg c2] at h
      refine v_iconst C (pc := 10) (v := 1) dX4_isWithin_10 (by decide) ?_
      refine v_goto C (pc := 11) (tgt := 15) dX4_isWithin_11 (by decide) ?_
      have h := Option.some.inj h
      subst h
      exact v_pret (pc := 15) P rfl rfl (by decide +kernel) dX4_isWithin_15
/-! X4_offenceAt -/
abbrev rmX4_offenceAt : Room := { frames := 0, cells := 0, slots := 0, locals := 0 }
theorem iwX4_offenceAt_X4 : ∀ w ∈ u_ws RX4 TX4 13, w ∈ wsX4_offenceAt := fun _ h => List.mem_cons_of_mem _ (List.mem_append_right _ (h))
theorem flX4_offenceAt_11 : Cond.fieldLink RX4 11 "Chargehouse" "offenceRows" "[LChargehouse$Offence;" ∈ wsX4_offenceAt := List.mem_cons_of_mem _ (List.mem_append_left _ (List.mem_of_getElem? (i := 0) rfl))
def bX4_offenceAt_13 (M : hM) (o : Nat) : Option (Option Nat) :=
  some none
set_option maxRecDepth 100000 in
set_option maxHeartbeats 4000000 in
theorem tbX4_offenceAt_13 {κ : hKx} {M : hM} {o : Nat} {r : Option Nat} (P : Cp κ RX4 cX4_offenceAt wsX4_offenceAt (some (.object "Chargehouse$Offence")) (some (va_rf r))) (hR : kR κ = rmX4_offenceAt)    (h : bX4_offenceAt_13 M o = some r) : VW κ 0 0 M 13 [none, none] [] := by
  unfold bX4_offenceAt_13 at h
  have C := P.1
  refine v_null C (pc := 13) dX4_offenceAt_13 ?_
  refine v_goto C (pc := 14) (tgt := 23) dX4_offenceAt_14 (by decide) ?_
  have h := Option.some.inj h
  subst h
  exact v_pretR (pc := 23) P rfl rfl dX4_offenceAt_23
def fX4_offenceAt (M : hM) (o : Nat) (a1 : Int32) : Option (Option Nat) :=
  if (a1 : Int32) < 0 then (
    bX4_offenceAt_13 M o
  ) else (
    (gR M 4 0 (some o)).bind fun x2 =>
    (aL M 3 x2).bind fun x3 =>
    if (a1 : Int32) < x3 then (
      (gR M 4 0 (some o)).bind fun x5 =>
      (aR M 3 x5 a1).bind fun x6 =>
      some x6
    ) else (
      bX4_offenceAt_13 M o
    )
  )
set_option maxRecDepth 100000 in
set_option maxHeartbeats 4000000 in
theorem cX4_offenceAt_met (l : Launch) (G : hG) (M : hM) {o : Nat} {a1 : Int32} {r : Option Nat} (h : fX4_offenceAt M o a1 = some r) : hPMet l yX4_offenceAt wsX4_offenceAt rmX4_offenceAt [.ref o, .int a1] G M (some (va_rf r)) := by
  refine hp_entry (own := RX4) (cc := cX4_offenceAt) (maxL := 2) (ret := (some (.object "Chargehouse$Offence"))) (lv := [some (va_rf (some o)), some (.int a1)]) (by decide) rfl rfl (hcc rfl (hcc rfl hc0)) (Nat.le_of_ble_eq_true rfl) rfl (fun κ hG hl hR P => ?_)
  subst hG; subst hl
  unfold fX4_offenceAt at h
  have C := P.1
  refine v_iload_n C (pc := 0) (i := 1) dX4_offenceAt_0 rfl ?_
  refine v_if_lt C (pc := 1) (tgt := 13) dX4_offenceAt_1 (by decide) (fun c1 => ?_) (fun c1 => ?_)
  · rw [if_pos c1] at h
    refine v_mask (lv' := [none, none]) [false, false] rfl rfl ?_
    exact tbX4_offenceAt_13 P hR  h
  · rw [if_neg c1] at h
    refine v_iload_n C (pc := 4) (i := 1) dX4_offenceAt_4 rfl ?_
    refine v_aload_n C (pc := 5) (i := 0) dX4_offenceAt_5 rfl ?_
    obtain ⟨x2, e2, h⟩ := Option.bind_eq_some_iff.mp h
    refine v_getR C (pc := 6) (ci := 4) 0 iwX4_offenceAt_X4 rfl (by decide) flX4_offenceAt_11 e2 dX4_offenceAt_6 ?_
    obtain ⟨x3, e3, h⟩ := Option.bind_eq_some_iff.mp h
    refine v_alen C (pc := 9) 3 rfl e3 dX4_offenceAt_9 ?_
    refine v_icmp_lt C (pc := 10) (tgt := 17) dX4_offenceAt_10 (by decide) (fun c4 => ?_) (fun c4 => ?_)
    · rw [if_pos c4] at h
      refine v_aload_n C (pc := 17) (i := 0) dX4_offenceAt_17 rfl ?_
      obtain ⟨x5, e5, h⟩ := Option.bind_eq_some_iff.mp h
      refine v_getR C (pc := 18) (ci := 4) 0 iwX4_offenceAt_X4 rfl (by decide) flX4_offenceAt_11 e5 dX4_offenceAt_18 ?_
      refine v_iload_n C (pc := 21) (i := 1) dX4_offenceAt_21 rfl ?_
      obtain ⟨x6, e6, h⟩ := Option.bind_eq_some_iff.mp h
      refine v_aald C (pc := 22) 3 rfl e6 dX4_offenceAt_22 ?_
      have h := Option.some.inj h
      subst h
      exact v_pretR (pc := 23) P rfl rfl dX4_offenceAt_23
    · rw [if_neg c4] at h
      refine v_mask (lv' := [none, none]) [false, false] rfl rfl ?_
      exact tbX4_offenceAt_13 P hR  h
/-! X4_fileAt -/
abbrev rmX4_fileAt : Room := { frames := 0, cells := 0, slots := 0, locals := 0 }
theorem iwX4_fileAt_X4 : ∀ w ∈ u_ws RX4 TX4 13, w ∈ wsX4_fileAt := fun _ h => List.mem_cons_of_mem _ (List.mem_append_right _ (h))
theorem flX4_fileAt_17 : Cond.fieldLink RX4 17 "Chargehouse" "fileRows" "[LChargehouse$CaseFile;" ∈ wsX4_fileAt := List.mem_cons_of_mem _ (List.mem_append_left _ (List.mem_of_getElem? (i := 0) rfl))
def bX4_fileAt_13 (M : hM) (o : Nat) : Option (Option Nat) :=
  some none
set_option maxRecDepth 100000 in
set_option maxHeartbeats 4000000 in
theorem tbX4_fileAt_13 {κ : hKx} {M : hM} {o : Nat} {r : Option Nat} (P : Cp κ RX4 cX4_fileAt wsX4_fileAt (some (.object "Chargehouse$CaseFile")) (some (va_rf r))) (hR : kR κ = rmX4_fileAt)    (h : bX4_fileAt_13 M o = some r) : VW κ 0 0 M 13 [none, none] [] := by
  unfold bX4_fileAt_13 at h
  have C := P.1
  refine v_null C (pc := 13) dX4_fileAt_13 ?_
  refine v_goto C (pc := 14) (tgt := 23) dX4_fileAt_14 (by decide) ?_
  have h := Option.some.inj h
  subst h
  exact v_pretR (pc := 23) P rfl rfl dX4_fileAt_23
def fX4_fileAt (M : hM) (o : Nat) (a1 : Int32) : Option (Option Nat) :=
  if (a1 : Int32) < 0 then (
    bX4_fileAt_13 M o
  ) else (
    (gR M 4 1 (some o)).bind fun x2 =>
    (aL M 4 x2).bind fun x3 =>
    if (a1 : Int32) < x3 then (
      (gR M 4 1 (some o)).bind fun x5 =>
      (aR M 4 x5 a1).bind fun x6 =>
      some x6
    ) else (
      bX4_fileAt_13 M o
    )
  )
set_option maxRecDepth 100000 in
set_option maxHeartbeats 4000000 in
theorem cX4_fileAt_met (l : Launch) (G : hG) (M : hM) {o : Nat} {a1 : Int32} {r : Option Nat} (h : fX4_fileAt M o a1 = some r) : hPMet l yX4_fileAt wsX4_fileAt rmX4_fileAt [.ref o, .int a1] G M (some (va_rf r)) := by
  refine hp_entry (own := RX4) (cc := cX4_fileAt) (maxL := 2) (ret := (some (.object "Chargehouse$CaseFile"))) (lv := [some (va_rf (some o)), some (.int a1)]) (by decide) rfl rfl (hcc rfl (hcc rfl hc0)) (Nat.le_of_ble_eq_true rfl) rfl (fun κ hG hl hR P => ?_)
  subst hG; subst hl
  unfold fX4_fileAt at h
  have C := P.1
  refine v_iload_n C (pc := 0) (i := 1) dX4_fileAt_0 rfl ?_
  refine v_if_lt C (pc := 1) (tgt := 13) dX4_fileAt_1 (by decide) (fun c1 => ?_) (fun c1 => ?_)
  · rw [if_pos c1] at h
    refine v_mask (lv' := [none, none]) [false, false] rfl rfl ?_
    exact tbX4_fileAt_13 P hR  h
  · rw [if_neg c1] at h
    refine v_iload_n C (pc := 4) (i := 1) dX4_fileAt_4 rfl ?_
    refine v_aload_n C (pc := 5) (i := 0) dX4_fileAt_5 rfl ?_
    obtain ⟨x2, e2, h⟩ := Option.bind_eq_some_iff.mp h
    refine v_getR C (pc := 6) (ci := 4) 1 iwX4_fileAt_X4 rfl (by decide) flX4_fileAt_17 e2 dX4_fileAt_6 ?_
    obtain ⟨x3, e3, h⟩ := Option.bind_eq_some_iff.mp h
    refine v_alen C (pc := 9) 4 rfl e3 dX4_fileAt_9 ?_
    refine v_icmp_lt C (pc := 10) (tgt := 17) dX4_fileAt_10 (by decide) (fun c4 => ?_) (fun c4 => ?_)
    · rw [if_pos c4] at h
      refine v_aload_n C (pc := 17) (i := 0) dX4_fileAt_17 rfl ?_
      obtain ⟨x5, e5, h⟩ := Option.bind_eq_some_iff.mp h
      refine v_getR C (pc := 18) (ci := 4) 1 iwX4_fileAt_X4 rfl (by decide) flX4_fileAt_17 e5 dX4_fileAt_18 ?_
      refine v_iload_n C (pc := 21) (i := 1) dX4_fileAt_21 rfl ?_
      obtain ⟨x6, e6, h⟩ := Option.bind_eq_some_iff.mp h
      refine v_aald C (pc := 22) 4 rfl e6 dX4_fileAt_22 ?_
      have h := Option.some.inj h
      subst h
      exact v_pretR (pc := 23) P rfl rfl dX4_fileAt_23
    · rw [if_neg c4] at h
      refine v_mask (lv' := [none, none]) [false, false] rfl rfl ?_
      exact tbX4_fileAt_13 P hR  h
/-! X4_itemAt -/
abbrev rmX4_itemAt : Room := { frames := 0, cells := 0, slots := 0, locals := 0 }
theorem iwX4_itemAt_X4 : ∀ w ∈ u_ws RX4 TX4 13, w ∈ wsX4_itemAt := fun _ h => List.mem_cons_of_mem _ (List.mem_append_right _ (h))
theorem flX4_itemAt_23 : Cond.fieldLink RX4 23 "Chargehouse" "itemRows" "[LChargehouse$Item;" ∈ wsX4_itemAt := List.mem_cons_of_mem _ (List.mem_append_left _ (List.mem_of_getElem? (i := 0) rfl))
def bX4_itemAt_13 (M : hM) (o : Nat) : Option (Option Nat) :=
  some none
set_option maxRecDepth 100000 in
set_option maxHeartbeats 4000000 in
theorem tbX4_itemAt_13 {κ : hKx} {M : hM} {o : Nat} {r : Option Nat} (P : Cp κ RX4 cX4_itemAt wsX4_itemAt (some (.object "Chargehouse$Item")) (some (va_rf r))) (hR : kR κ = rmX4_itemAt)    (h : bX4_itemAt_13 M o = some r) : VW κ 0 0 M 13 [none, none] [] := by
  unfold bX4_itemAt_13 at h
  have C := P.1
  refine v_null C (pc := 13) dX4_itemAt_13 ?_
  refine v_goto C (pc := 14) (tgt := 23) dX4_itemAt_14 (by decide) ?_
  have h := Option.some.inj h
  subst h
  exact v_pretR (pc := 23) P rfl rfl dX4_itemAt_23
def fX4_itemAt (M : hM) (o : Nat) (a1 : Int32) : Option (Option Nat) :=
  if (a1 : Int32) < 0 then (
    bX4_itemAt_13 M o
  ) else (
    (gR M 4 2 (some o)).bind fun x2 =>
    (aL M 5 x2).bind fun x3 =>
    if (a1 : Int32) < x3 then (
      (gR M 4 2 (some o)).bind fun x5 =>
      (aR M 5 x5 a1).bind fun x6 =>
      some x6
    ) else (
      bX4_itemAt_13 M o
    )
  )
set_option maxRecDepth 100000 in
set_option maxHeartbeats 4000000 in
theorem cX4_itemAt_met (l : Launch) (G : hG) (M : hM) {o : Nat} {a1 : Int32} {r : Option Nat} (h : fX4_itemAt M o a1 = some r) : hPMet l yX4_itemAt wsX4_itemAt rmX4_itemAt [.ref o, .int a1] G M (some (va_rf r)) := by
  refine hp_entry (own := RX4) (cc := cX4_itemAt) (maxL := 2) (ret := (some (.object "Chargehouse$Item"))) (lv := [some (va_rf (some o)), some (.int a1)]) (by decide) rfl rfl (hcc rfl (hcc rfl hc0)) (Nat.le_of_ble_eq_true rfl) rfl (fun κ hG hl hR P => ?_)
  subst hG; subst hl
  unfold fX4_itemAt at h
  have C := P.1
  refine v_iload_n C (pc := 0) (i := 1) dX4_itemAt_0 rfl ?_
  refine v_if_lt C (pc := 1) (tgt := 13) dX4_itemAt_1 (by decide) (fun c1 => ?_) (fun c1 => ?_)
  · rw [if_pos c1] at h
    refine v_mask (lv' := [none, none]) [false, false] rfl rfl ?_
    exact tbX4_itemAt_13 P hR  h
  · rw [if_neg c1] at h
    refine v_iload_n C (pc := 4) (i := 1) dX4_itemAt_4 rfl ?_
    refine v_aload_n C (pc := 5) (i := 0) dX4_itemAt_5 rfl ?_
    obtain ⟨x2, e2, h⟩ := Option.bind_eq_some_iff.mp h
    refine v_getR C (pc := 6) (ci := 4) 2 iwX4_itemAt_X4 rfl (by decide) flX4_itemAt_23 e2 dX4_itemAt_6 ?_
    obtain ⟨x3, e3, h⟩ := Option.bind_eq_some_iff.mp h
    refine v_alen C (pc := 9) 5 rfl e3 dX4_itemAt_9 ?_
    refine v_icmp_lt C (pc := 10) (tgt := 17) dX4_itemAt_10 (by decide) (fun c4 => ?_) (fun c4 => ?_)
    · rw [if_pos c4] at h
      refine v_aload_n C (pc := 17) (i := 0) dX4_itemAt_17 rfl ?_
      obtain ⟨x5, e5, h⟩ := Option.bind_eq_some_iff.mp h
      refine v_getR C (pc := 18) (ci := 4) 2 iwX4_itemAt_X4 rfl (by decide) flX4_itemAt_23 e5 dX4_itemAt_18 ?_
      refine v_iload_n C (pc := 21) (i := 1) dX4_itemAt_21 rfl ?_
      obtain ⟨x6, e6, h⟩ := Option.bind_eq_some_iff.mp h
      refine v_aald C (pc := 22) 5 rfl e6 dX4_itemAt_22 ?_
      have h := Option.some.inj h
      subst h
      exact v_pretR (pc := 23) P rfl rfl dX4_itemAt_23
    · rw [if_neg c4] at h
      refine v_mask (lv' := [none, none]) [false, false] rfl rfl ?_
      exact tbX4_itemAt_13 P hR  h
/-! X4_lackedBy -/
abbrev rmX4_lackedBy : Room := { frames := 3, cells := 0, slots := 0, locals := 63 }
theorem iwX4_lackedBy_X2 : ∀ w ∈ u_ws RX2 TX2 10, w ∈ wsX4_lackedBy := fun _ h => List.mem_cons_of_mem _ (List.mem_append_right _ (h))
theorem iwX4_lackedBy_X4 : ∀ w ∈ u_ws RX4 TX4 13, w ∈ wsX4_lackedBy := fun _ h => List.mem_cons_of_mem _ (List.mem_append_left _ (List.mem_append_right _ (h)))
theorem flX4_lackedBy_154 : Cond.fieldLink RX4 154 "Chargehouse$Item" "file" "I" ∈ wsX4_lackedBy := List.mem_cons_of_mem _ (List.mem_append_left _ (List.mem_append_left _ (List.mem_of_getElem? (i := 1) rfl)))
theorem flX4_lackedBy_23 : Cond.fieldLink RX4 23 "Chargehouse" "itemRows" "[LChargehouse$Item;" ∈ wsX4_lackedBy := List.mem_cons_of_mem _ (List.mem_append_left _ (List.mem_append_left _ (List.mem_of_getElem? (i := 0) rfl)))
def lX4_lackedBy_16 (M : hM) (o : Nat) (a1 : Int32) (a2 : Int32) (a4 : Option Nat) (a5 : Int32) : Nat → Int32 → Int32 → Option Int32
  | 0, _ , _ => none
  | n + 1, a3, a6 =>
    if (a5 : Int32) ≤ a6 then (
      some a3
    ) else (
      (aR M 5 a4 a6).bind fun x4 =>
      if x4 = none then (
        (lX4_lackedBy_16 M o a1 a2 a4 a5 n) a3 (a6 + 1)
      ) else (
        (gI M 2 0 x4).bind fun x6 =>
        if (x6 : Int32) = a1 then (
          (hC M 2 x4).bind fun y9 =>
          (fX2_isLackedBy M y9 a2).bind fun x8 =>
          if (x8 : Int32) = 0 then (
            (lX4_lackedBy_16 M o a1 a2 a4 a5 n) a3 (a6 + 1)
          ) else (
            (lX4_lackedBy_16 M o a1 a2 a4 a5 n) (a3 + 1) (a6 + 1)
          )
        ) else (
          (lX4_lackedBy_16 M o a1 a2 a4 a5 n) a3 (a6 + 1)
        )
      )
    )
set_option maxRecDepth 100000 in
set_option maxHeartbeats 4000000 in
theorem tlX4_lackedBy_16 {κ : hKx} {M : hM} {o : Nat} {r : Int32} (P : Cp κ RX4 cX4_lackedBy wsX4_lackedBy (some .int) (some (.int r))) (hR : kR κ = rmX4_lackedBy)  {a1 : Int32} {a2 : Int32} {a4 : Option Nat} {a5 : Int32}  : ∀ (n : Nat) (a3 : Int32) (a6 : Int32), lX4_lackedBy_16 M o a1 a2 a4 a5 n a3 a6 = some r → VW κ 0 0 M 16 [none, some (.int a1), some (.int a2), some (.int a3), some (va_rf a4), some (.int a5), some (.int a6), none] [] := by
  have C := P.1
  intro n
  induction n with
  | zero =>
    intro a3 a6 h
    unfold lX4_lackedBy_16 at h
    cases h
  | succ n ih =>
    intro a3 a6 h
    unfold lX4_lackedBy_16 at h
    refine v_iload C (pc := 16) (i := 6) dX4_lackedBy_16 rfl ?_
    refine v_iload C (pc := 18) (i := 5) dX4_lackedBy_18 rfl ?_
    refine v_icmp_ge C (pc := 20) (tgt := 62) dX4_lackedBy_20 (by decide) (fun c3 => ?_) (fun c3 => ?_)
    · rw [if_pos c3] at h
      refine v_iload_n C (pc := 62) (i := 3) dX4_lackedBy_62 rfl ?_
      have h := Option.some.inj h
      subst h
      exact v_pret (pc := 63) P rfl rfl (nar_int _) dX4_lackedBy_63
    · rw [if_neg c3] at h
      refine v_aload C (pc := 23) (i := 4) dX4_lackedBy_23 rfl ?_
      refine v_iload C (pc := 25) (i := 6) dX4_lackedBy_25 rfl ?_
      obtain ⟨x4, e4, h⟩ := Option.bind_eq_some_iff.mp h
      refine v_aald C (pc := 27) 5 rfl e4 dX4_lackedBy_27 ?_
      refine v_astore C (pc := 28) (i := 7) (lv' := [none, some (.int a1), some (.int a2), some (.int a3), some (va_rf a4), some (.int a5), some (.int a6), some (va_rf x4)]) dX4_lackedBy_28 rfl (lw_bi (j := 6) rfl) rfl ?_
      refine v_aload C (pc := 30) (i := 7) dX4_lackedBy_30 rfl ?_
      refine v_ifnull C (pc := 32) (tgt := 56) dX4_lackedBy_32 (by decide) (fun c5 => ?_) (fun c5 => ?_)
      · rw [if_pos c5] at h
        refine v_iinc C (pc := 56) (i := 6) (w := 1) (lv' := [none, some (.int a1), some (.int a2), some (.int a3), some (va_rf a4), some (.int a5), some (.int (a6 + 1)), some (va_rf x4)]) dX4_lackedBy_56 rfl (by decide) rfl ?_
        refine v_goto C (pc := 59) (tgt := 16) dX4_lackedBy_59 (by decide) ?_
        refine v_mask (lv' := [none, some (.int a1), some (.int a2), some (.int a3), some (va_rf a4), some (.int a5), some (.int (a6 + 1)), none]) [false, true, true, true, true, true, true, false] rfl rfl ?_
        exact ih _ _ h
      · rw [if_neg c5] at h
        refine v_aload C (pc := 35) (i := 7) dX4_lackedBy_35 rfl ?_
        obtain ⟨x6, e6, h⟩ := Option.bind_eq_some_iff.mp h
        refine v_getI C (pc := 37) (ci := 2) 0 iwX4_lackedBy_X2 rfl (by decide) flX4_lackedBy_154 e6 dX4_lackedBy_37 ?_
        refine v_iload_n C (pc := 40) (i := 1) dX4_lackedBy_40 rfl ?_
        refine v_icmp_ne C (pc := 41) (tgt := 56) dX4_lackedBy_41 (by decide) (fun c7 => ?_) (fun c7 => ?_)
        · rw [if_neg c7] at h
          refine v_iinc C (pc := 56) (i := 6) (w := 1) (lv' := [none, some (.int a1), some (.int a2), some (.int a3), some (va_rf a4), some (.int a5), some (.int (a6 + 1)), some (va_rf x4)]) dX4_lackedBy_56 rfl (by decide) rfl ?_
          refine v_goto C (pc := 59) (tgt := 16) dX4_lackedBy_59 (by decide) ?_
          refine v_mask (lv' := [none, some (.int a1), some (.int a2), some (.int a3), some (va_rf a4), some (.int a5), some (.int (a6 + 1)), none]) [false, true, true, true, true, true, true, false] rfl rfl ?_
          exact ih _ _ h
        · rw [if_pos c7] at h
          refine v_aload C (pc := 44) (i := 7) dX4_lackedBy_44 rfl ?_
          refine v_iload_n C (pc := 46) (i := 2) dX4_lackedBy_46 rfl ?_
          obtain ⟨y9, hy9, hh⟩ := Option.bind_eq_some_iff.mp h
          clear h
          obtain ⟨rfl, fsy9, hfy9⟩ := hC_inv hy9
          have h := hh
          clear hh
          obtain ⟨x8, e8, h⟩ := Option.bind_eq_some_iff.mp h
          refine v_pV C (pc := 47) (ci := 2) [.int a2] 1 (cX2_isLackedBy_met (kl κ) (kG κ) _ e8) hfy9 rfl gX4_lackedBy_X2_isLackedBy rfl hdX2_isLackedBy rfl rfl rfl (by rw [hR]; exact ⟨Nat.le_of_ble_eq_true rfl, Nat.le_of_ble_eq_true rfl⟩) ⟨Nat.zero_le _, Nat.zero_le _⟩ (Nat.le_of_ble_eq_true rfl) rfl dX4_lackedBy_47 ?_
          refine v_if_eq C (pc := 50) (tgt := 56) dX4_lackedBy_50 (by decide) (fun c10 => ?_) (fun c10 => ?_)
          · rw [if_pos c10] at h
            refine v_iinc C (pc := 56) (i := 6) (w := 1) (lv' := [none, some (.int a1), some (.int a2), some (.int a3), some (va_rf a4), some (.int a5), some (.int (a6 + 1)), some (va_rf (some y9))]) dX4_lackedBy_56 rfl (by decide) rfl ?_
            refine v_goto C (pc := 59) (tgt := 16) dX4_lackedBy_59 (by decide) ?_
            refine v_mask (lv' := [none, some (.int a1), some (.int a2), some (.int a3), some (va_rf a4), some (.int a5), some (.int (a6 + 1)), none]) [false, true, true, true, true, true, true, false] rfl rfl ?_
            exact ih _ _ h
          · rw [if_neg c10] at h
            refine v_iinc C (pc := 53) (i := 3) (w := 1) (lv' := [none, some (.int a1), some (.int a2), some (.int (a3 + 1)), some (va_rf a4), some (.int a5), some (.int a6), some (va_rf (some y9))]) dX4_lackedBy_53 rfl (by decide) rfl ?_
            refine v_iinc C (pc := 56) (i := 6) (w := 1) (lv' := [none, some (.int a1), some (.int a2), some (.int (a3 + 1)), some (va_rf a4), some (.int a5), some (.int (a6 + 1)), some (va_rf (some y9))]) dX4_lackedBy_56 rfl (by decide) rfl ?_
            refine v_goto C (pc := 59) (tgt := 16) dX4_lackedBy_59 (by decide) ?_
            refine v_mask (lv' := [none, some (.int a1), some (.int a2), some (.int (a3 + 1)), some (va_rf a4), some (.int a5), some (.int (a6 + 1)), none]) [false, true, true, true, true, true, true, false] rfl rfl ?_
            exact ih _ _ h
def fX4_lackedBy (M : hM) (o : Nat) (a1 : Int32) (a2 : Int32) : Option Int32 :=
  (gR M 4 2 (some o)).bind fun x1 =>
  (aL M 5 x1).bind fun x2 =>
  lX4_lackedBy_16 M o a1 a2 x1 x2 1000 0 0
set_option maxRecDepth 100000 in
set_option maxHeartbeats 4000000 in
theorem cX4_lackedBy_met (l : Launch) (G : hG) (M : hM) {o : Nat} {a1 : Int32} {a2 : Int32} {r : Int32} (h : fX4_lackedBy M o a1 a2 = some r) : hPMet l yX4_lackedBy wsX4_lackedBy rmX4_lackedBy [.ref o, .int a1, .int a2] G M (some (.int r)) := by
  refine hp_entry (own := RX4) (cc := cX4_lackedBy) (maxL := 8) (ret := (some .int)) (lv := [some (va_rf (some o)), some (.int a1), some (.int a2), none, none, none, none, none]) (by decide) rfl rfl (hcc rfl (hcc rfl (hcc rfl hc0))) (Nat.le_of_ble_eq_true rfl) rfl (fun κ hG hl hR P => ?_)
  subst hG; subst hl
  unfold fX4_lackedBy at h
  have C := P.1
  refine v_iconst C (pc := 0) (v := 0) dX4_lackedBy_0 (by decide) ?_
  refine v_istore_n C (pc := 1) (i := 3) (lv' := [some (va_rf (some o)), some (.int a1), some (.int a2), some (.int 0), none, none, none, none]) dX4_lackedBy_1 rfl (lw_bi (j := 2) rfl) rfl ?_
  refine v_aload_n C (pc := 2) (i := 0) dX4_lackedBy_2 rfl ?_
  obtain ⟨x1, e1, h⟩ := Option.bind_eq_some_iff.mp h
  refine v_getR C (pc := 3) (ci := 4) 2 iwX4_lackedBy_X4 rfl (by decide) flX4_lackedBy_23 e1 dX4_lackedBy_3 ?_
  refine v_astore C (pc := 6) (i := 4) (lv' := [some (va_rf (some o)), some (.int a1), some (.int a2), some (.int 0), some (va_rf x1), none, none, none]) dX4_lackedBy_6 rfl (lw_bi (j := 3) rfl) rfl ?_
  refine v_aload C (pc := 8) (i := 4) dX4_lackedBy_8 rfl ?_
  obtain ⟨x2, e2, h⟩ := Option.bind_eq_some_iff.mp h
  refine v_alen C (pc := 10) 5 rfl e2 dX4_lackedBy_10 ?_
  refine v_istore C (pc := 11) (i := 5) (lv' := [some (va_rf (some o)), some (.int a1), some (.int a2), some (.int 0), some (va_rf x1), some (.int x2), none, none]) dX4_lackedBy_11 rfl (lw_br (j := 4) rfl) rfl ?_
  refine v_iconst C (pc := 13) (v := 0) dX4_lackedBy_13 (by decide) ?_
  refine v_istore C (pc := 14) (i := 6) (lv' := [some (va_rf (some o)), some (.int a1), some (.int a2), some (.int 0), some (va_rf x1), some (.int x2), some (.int 0), none]) dX4_lackedBy_14 rfl (lw_bi (j := 5) rfl) rfl ?_
  refine v_mask (lv' := [none, some (.int a1), some (.int a2), some (.int 0), some (va_rf x1), some (.int x2), some (.int 0), none]) [false, true, true, true, true, true, true, false] rfl rfl ?_
  exact tlX4_lackedBy_16 P hR  1000 _ _ h
/-! X4_isSpent -/
abbrev rmX4_isSpent : Room := { frames := 2, cells := 0, slots := 0, locals := 42 }
theorem iwX4_isSpent_X4 : ∀ w ∈ u_ws RX4 TX4 13, w ∈ wsX4_isSpent := fun _ h => List.mem_cons_of_mem _ (List.mem_append_left _ (List.mem_append_left _ (List.mem_append_right _ (h))))
theorem flX4_isSpent_11 : Cond.fieldLink RX4 11 "Chargehouse" "offenceRows" "[LChargehouse$Offence;" ∈ wsX4_isSpent := List.mem_cons_of_mem _ (List.mem_append_left _ (List.mem_append_left _ (List.mem_append_left _ (List.mem_of_getElem? (i := 0) rfl))))
def lX4_isSpent_3 (M : hM) (o : Nat) (a1 : Option Nat) (a2 : Option Nat) (a3 : Int32) : Nat → Int32 → Option Int32
  | 0, _ => none
  | n + 1, a4 =>
    (gR M 4 0 (some o)).bind fun x1 =>
    (aL M 3 x1).bind fun x2 =>
    if (x2 : Int32) ≤ a4 then (
      some 0
    ) else (
      (gR M 4 0 (some o)).bind fun x4 =>
      (aR M 3 x4 a4).bind fun x5 =>
      if x5 = none then (
        (lX4_isSpent_3 M o a1 a2 a3 n) (a4 + 1)
      ) else (
        (hC M 3 x5).bind fun y8 =>
        (fX3_isAkinTo M y8 a2).bind fun x7 =>
        if (x7 : Int32) = 0 then (
          (lX4_isSpent_3 M o a1 a2 a3 n) (a4 + 1)
        ) else (
          (hC M 0 a1).bind fun y11 =>
          (fX0_hadAnswered M y11 a4 a3).bind fun x10 =>
          if (x10 : Int32) = 0 then (
            (lX4_isSpent_3 M o a1 a2 a3 n) (a4 + 1)
          ) else (
            some 1
          )
        )
      )
    )
set_option maxRecDepth 100000 in
set_option maxHeartbeats 4000000 in
theorem tlX4_isSpent_3 {κ : hKx} {M : hM} {o : Nat} {r : Int32} (P : Cp κ RX4 cX4_isSpent wsX4_isSpent (some .boolean) (some (.int r))) (hR : kR κ = rmX4_isSpent)  {a1 : Option Nat} {a2 : Option Nat} {a3 : Int32}  : ∀ (n : Nat) (a4 : Int32), lX4_isSpent_3 M o a1 a2 a3 n a4 = some r → VW κ 0 0 M 3 [some (va_rf (some o)), some (va_rf a1), some (va_rf a2), some (.int a3), some (.int a4), none] [] := by
  have C := P.1
  intro n
  induction n with
  | zero =>
    intro a4 h
    unfold lX4_isSpent_3 at h
    cases h
  | succ n ih =>
    intro a4 h
    unfold lX4_isSpent_3 at h
    refine v_iload C (pc := 3) (i := 4) dX4_isSpent_3 rfl ?_
    refine v_aload_n C (pc := 5) (i := 0) dX4_isSpent_5 rfl ?_
    obtain ⟨x1, e1, h⟩ := Option.bind_eq_some_iff.mp h
    refine v_getR C (pc := 6) (ci := 4) 0 iwX4_isSpent_X4 rfl (by decide) flX4_isSpent_11 e1 dX4_isSpent_6 ?_
    obtain ⟨x2, e2, h⟩ := Option.bind_eq_some_iff.mp h
    refine v_alen C (pc := 9) 3 rfl e2 dX4_isSpent_9 ?_
    refine v_icmp_ge C (pc := 10) (tgt := 54) dX4_isSpent_10 (by decide) (fun c3 => ?_) (fun c3 => ?_)
    · rw [if_pos c3] at h
      refine v_iconst C (pc := 54) (v := 0) dX4_isSpent_54 (by decide) ?_
      have h := Option.some.inj h
      subst h
      exact v_pret (pc := 55) P rfl rfl (by decide +kernel) dX4_isSpent_55
    · rw [if_neg c3] at h
      refine v_aload_n C (pc := 13) (i := 0) dX4_isSpent_13 rfl ?_
      obtain ⟨x4, e4, h⟩ := Option.bind_eq_some_iff.mp h
      refine v_getR C (pc := 14) (ci := 4) 0 iwX4_isSpent_X4 rfl (by decide) flX4_isSpent_11 e4 dX4_isSpent_14 ?_
      refine v_iload C (pc := 17) (i := 4) dX4_isSpent_17 rfl ?_
      obtain ⟨x5, e5, h⟩ := Option.bind_eq_some_iff.mp h
      refine v_aald C (pc := 19) 3 rfl e5 dX4_isSpent_19 ?_
      refine v_astore C (pc := 20) (i := 5) (lv' := [some (va_rf (some o)), some (va_rf a1), some (va_rf a2), some (.int a3), some (.int a4), some (va_rf x5)]) dX4_isSpent_20 rfl (lw_bi (j := 4) rfl) rfl ?_
      refine v_aload C (pc := 22) (i := 5) dX4_isSpent_22 rfl ?_
      refine v_ifnull C (pc := 24) (tgt := 48) dX4_isSpent_24 (by decide) (fun c6 => ?_) (fun c6 => ?_)
      · rw [if_pos c6] at h
        refine v_iinc C (pc := 48) (i := 4) (w := 1) (lv' := [some (va_rf (some o)), some (va_rf a1), some (va_rf a2), some (.int a3), some (.int (a4 + 1)), some (va_rf x5)]) dX4_isSpent_48 rfl (by decide) rfl ?_
        refine v_goto C (pc := 51) (tgt := 3) dX4_isSpent_51 (by decide) ?_
        refine v_mask (lv' := [some (va_rf (some o)), some (va_rf a1), some (va_rf a2), some (.int a3), some (.int (a4 + 1)), none]) [true, true, true, true, true, false] rfl rfl ?_
        exact ih _ h
      · rw [if_neg c6] at h
        refine v_aload C (pc := 27) (i := 5) dX4_isSpent_27 rfl ?_
        refine v_aload_n C (pc := 29) (i := 2) dX4_isSpent_29 rfl ?_
        obtain ⟨y8, hy8, hh⟩ := Option.bind_eq_some_iff.mp h
        clear h
        obtain ⟨rfl, fsy8, hfy8⟩ := hC_inv hy8
        have h := hh
        clear hh
        obtain ⟨x7, e7, h⟩ := Option.bind_eq_some_iff.mp h
        refine v_pV C (pc := 30) (ci := 3) [va_rf a2] 1 (cX3_isAkinTo_met (kl κ) (kG κ) _ e7) hfy8 rfl gX4_isSpent_X3_isAkinTo rfl hdX3_isAkinTo rfl rfl rfl (by rw [hR]; exact ⟨Nat.le_of_ble_eq_true rfl, Nat.le_of_ble_eq_true rfl⟩) ⟨Nat.zero_le _, Nat.zero_le _⟩ (Nat.le_of_ble_eq_true rfl) rfl dX4_isSpent_30 ?_
        refine v_if_eq C (pc := 33) (tgt := 48) dX4_isSpent_33 (by decide) (fun c9 => ?_) (fun c9 => ?_)
        · rw [if_pos c9] at h
          refine v_iinc C (pc := 48) (i := 4) (w := 1) (lv' := [some (va_rf (some o)), some (va_rf a1), some (va_rf a2), some (.int a3), some (.int (a4 + 1)), some (va_rf (some y8))]) dX4_isSpent_48 rfl (by decide) rfl ?_
          refine v_goto C (pc := 51) (tgt := 3) dX4_isSpent_51 (by decide) ?_
          refine v_mask (lv' := [some (va_rf (some o)), some (va_rf a1), some (va_rf a2), some (.int a3), some (.int (a4 + 1)), none]) [true, true, true, true, true, false] rfl rfl ?_
          exact ih _ h
        · rw [if_neg c9] at h
          refine v_aload_n C (pc := 36) (i := 1) dX4_isSpent_36 rfl ?_
          refine v_iload C (pc := 37) (i := 4) dX4_isSpent_37 rfl ?_
          refine v_iload_n C (pc := 39) (i := 3) dX4_isSpent_39 rfl ?_
          obtain ⟨y11, hy11, hh⟩ := Option.bind_eq_some_iff.mp h
          clear h
          obtain ⟨rfl, fsy11, hfy11⟩ := hC_inv hy11
          have h := hh
          clear hh
          obtain ⟨x10, e10, h⟩ := Option.bind_eq_some_iff.mp h
          refine v_pV C (pc := 40) (ci := 0) [.int a4, .int a3] 2 (cX0_hadAnswered_met (kl κ) (kG κ) _ e10) hfy11 rfl gX4_isSpent_X0_hadAnswered rfl hdX0_hadAnswered rfl rfl rfl (by rw [hR]; exact ⟨Nat.le_of_ble_eq_true rfl, Nat.le_of_ble_eq_true rfl⟩) ⟨Nat.zero_le _, Nat.zero_le _⟩ (Nat.le_of_ble_eq_true rfl) rfl dX4_isSpent_40 ?_
          refine v_if_eq C (pc := 43) (tgt := 48) dX4_isSpent_43 (by decide) (fun c12 => ?_) (fun c12 => ?_)
          · rw [if_pos c12] at h
            refine v_iinc C (pc := 48) (i := 4) (w := 1) (lv' := [some (va_rf (some o)), some (va_rf (some y11)), some (va_rf a2), some (.int a3), some (.int (a4 + 1)), some (va_rf (some y8))]) dX4_isSpent_48 rfl (by decide) rfl ?_
            refine v_goto C (pc := 51) (tgt := 3) dX4_isSpent_51 (by decide) ?_
            refine v_mask (lv' := [some (va_rf (some o)), some (va_rf (some y11)), some (va_rf a2), some (.int a3), some (.int (a4 + 1)), none]) [true, true, true, true, true, false] rfl rfl ?_
            exact ih _ h
          · rw [if_neg c12] at h
            refine v_iconst C (pc := 46) (v := 1) dX4_isSpent_46 (by decide) ?_
            have h := Option.some.inj h
            subst h
            exact v_pret (pc := 47) P rfl rfl (by decide +kernel) dX4_isSpent_47
def fX4_isSpent (M : hM) (o : Nat) (a1 : Option Nat) (a2 : Option Nat) (a3 : Int32) : Option Int32 :=
  lX4_isSpent_3 M o a1 a2 a3 1000 0
set_option maxRecDepth 100000 in
set_option maxHeartbeats 4000000 in
theorem cX4_isSpent_met (l : Launch) (G : hG) (M : hM) {o : Nat} {a1 : Option Nat} {a2 : Option Nat} {a3 : Int32} {r : Int32} (h : fX4_isSpent M o a1 a2 a3 = some r) : hPMet l yX4_isSpent wsX4_isSpent rmX4_isSpent [.ref o, va_rf a1, va_rf a2, .int a3] G M (some (.int r)) := by
  refine hp_entry (own := RX4) (cc := cX4_isSpent) (maxL := 6) (ret := (some .boolean)) (lv := [some (va_rf (some o)), some (va_rf a1), some (va_rf a2), some (.int a3), none, none]) (by decide) rfl rfl (hcc rfl (hcc (rf_cat _) (hcc (rf_cat _) (hcc rfl hc0)))) (Nat.le_of_ble_eq_true rfl) rfl (fun κ hG hl hR P => ?_)
  subst hG; subst hl
  unfold fX4_isSpent at h
  have C := P.1
  refine v_iconst C (pc := 0) (v := 0) dX4_isSpent_0 (by decide) ?_
  refine v_istore C (pc := 1) (i := 4) (lv' := [some (va_rf (some o)), some (va_rf a1), some (va_rf a2), some (.int a3), some (.int 0), none]) dX4_isSpent_1 rfl (lw_bi (j := 3) rfl) rfl ?_
  exact tlX4_isSpent_3 P hR  1000 _ h
/-! X4_strengthAgainst -/
abbrev rmX4_strengthAgainst : Room := { frames := 2, cells := 0, slots := 0, locals := 42 }
theorem iwX4_strengthAgainst_X0 : ∀ w ∈ u_ws RX0 TX0 14, w ∈ wsX4_strengthAgainst := fun _ h => List.mem_cons_of_mem _ (List.mem_append_left _ (List.mem_append_right _ (h)))
theorem iwX4_strengthAgainst_X1 : ∀ w ∈ u_ws RX1 TX1 5, w ∈ wsX4_strengthAgainst := fun _ h => List.mem_cons_of_mem _ (List.mem_append_right _ (h))
theorem iwX4_strengthAgainst_X2 : ∀ w ∈ u_ws RX2 TX2 10, w ∈ wsX4_strengthAgainst := fun _ h => List.mem_cons_of_mem _ (List.mem_append_left _ (List.mem_append_left _ (List.mem_append_right _ (h))))
theorem iwX4_strengthAgainst_X4 : ∀ w ∈ u_ws RX4 TX4 13, w ∈ wsX4_strengthAgainst := fun _ h => List.mem_cons_of_mem _ (List.mem_append_left _ (List.mem_append_left _ (List.mem_append_left _ (List.mem_append_right _ (h)))))
theorem flX4_strengthAgainst_105 : Cond.fieldLink RX4 105 "Chargehouse$CaseFile" "number" "I" ∈ wsX4_strengthAgainst := List.mem_cons_of_mem _ (List.mem_append_left _ (List.mem_append_left _ (List.mem_append_left _ (List.mem_append_left _ (List.mem_of_getElem? (i := 3) rfl)))))
theorem flX4_strengthAgainst_154 : Cond.fieldLink RX4 154 "Chargehouse$Item" "file" "I" ∈ wsX4_strengthAgainst := List.mem_cons_of_mem _ (List.mem_append_left _ (List.mem_append_left _ (List.mem_append_left _ (List.mem_append_left _ (List.mem_of_getElem? (i := 1) rfl)))))
theorem flX4_strengthAgainst_23 : Cond.fieldLink RX4 23 "Chargehouse" "itemRows" "[LChargehouse$Item;" ∈ wsX4_strengthAgainst := List.mem_cons_of_mem _ (List.mem_append_left _ (List.mem_append_left _ (List.mem_append_left _ (List.mem_append_left _ (List.mem_of_getElem? (i := 0) rfl)))))
theorem flX4_strengthAgainst_293 : Cond.fieldLink RX4 293 "Chargehouse$Accused" "file" "LChargehouse$CaseFile;" ∈ wsX4_strengthAgainst := List.mem_cons_of_mem _ (List.mem_append_left _ (List.mem_append_left _ (List.mem_append_left _ (List.mem_append_left _ (List.mem_of_getElem? (i := 2) rfl)))))
theorem flX4_strengthAgainst_296 : Cond.fieldLink RX4 296 "Chargehouse$Accused" "person" "I" ∈ wsX4_strengthAgainst := List.mem_cons_of_mem _ (List.mem_append_left _ (List.mem_append_left _ (List.mem_append_left _ (List.mem_append_left _ (List.mem_of_getElem? (i := 5) rfl)))))
theorem flX4_strengthAgainst_299 : Cond.fieldLink RX4 299 "Chargehouse$Item" "element" "I" ∈ wsX4_strengthAgainst := List.mem_cons_of_mem _ (List.mem_append_left _ (List.mem_append_left _ (List.mem_append_left _ (List.mem_append_left _ (List.mem_of_getElem? (i := 4) rfl)))))
theorem flX4_strengthAgainst_302 : Cond.fieldLink RX4 302 "Chargehouse$Item" "weight" "I" ∈ wsX4_strengthAgainst := List.mem_cons_of_mem _ (List.mem_append_left _ (List.mem_append_left _ (List.mem_append_left _ (List.mem_append_left _ (List.mem_of_getElem? (i := 6) rfl)))))
def lX4_strengthAgainst_17 (M : hM) (o : Nat) (a1 : Option Nat) (a2 : Int32) (a3 : Int32) (a5 : Option Nat) (a6 : Int32) : Nat → Int32 → Int32 → Option Int32
  | 0, _ , _ => none
  | n + 1, a4, a7 =>
    if (a6 : Int32) ≤ a7 then (
      some a4
    ) else (
      (aR M 5 a5 a7).bind fun x4 =>
      if x4 = none then (
        (lX4_strengthAgainst_17 M o a1 a2 a3 a5 a6 n) a4 (a7 + 1)
      ) else (
        (gI M 2 0 x4).bind fun x6 =>
        (gR M 0 0 a1).bind fun x7 =>
        (gI M 1 0 x7).bind fun x8 =>
        if (x6 : Int32) = x8 then (
          (gI M 2 1 x4).bind fun x10 =>
          if (x10 : Int32) = a2 then (
            (gI M 0 1 a1).bind fun x12 =>
            (hC M 2 x4).bind fun y14 =>
            (fX2_isAgainst M y14 x12).bind fun x13 =>
            if (x13 : Int32) = 0 then (
              (lX4_strengthAgainst_17 M o a1 a2 a3 a5 a6 n) a4 (a7 + 1)
            ) else (
              (hC M 2 (some y14)).bind fun _ =>
              (fX2_countsOn M y14 a3).bind fun x16 =>
              if (x16 : Int32) = 0 then (
                (lX4_strengthAgainst_17 M o a1 a2 a3 a5 a6 n) a4 (a7 + 1)
              ) else (
                (gI M 2 2 (some y14)).bind fun x19 =>
                (lX4_strengthAgainst_17 M o a1 a2 a3 a5 a6 n) (a4 + x19) (a7 + 1)
              )
            )
          ) else (
            (lX4_strengthAgainst_17 M o a1 a2 a3 a5 a6 n) a4 (a7 + 1)
          )
        ) else (
          (lX4_strengthAgainst_17 M o a1 a2 a3 a5 a6 n) a4 (a7 + 1)
        )
      )
    )
set_option maxRecDepth 100000 in
set_option maxHeartbeats 4000000 in
theorem tlX4_strengthAgainst_17 {κ : hKx} {M : hM} {o : Nat} {r : Int32} (P : Cp κ RX4 cX4_strengthAgainst wsX4_strengthAgainst (some .int) (some (.int r))) (hR : kR κ = rmX4_strengthAgainst)  {a1 : Option Nat} {a2 : Int32} {a3 : Int32} {a5 : Option Nat} {a6 : Int32}  : ∀ (n : Nat) (a4 : Int32) (a7 : Int32), lX4_strengthAgainst_17 M o a1 a2 a3 a5 a6 n a4 a7 = some r → VW κ 0 0 M 17 [none, some (va_rf a1), some (.int a2), some (.int a3), some (.int a4), some (va_rf a5), some (.int a6), some (.int a7), none] [] := by
  have C := P.1
  intro n
  induction n with
  | zero =>
    intro a4 a7 h
    unfold lX4_strengthAgainst_17 at h
    cases h
  | succ n ih =>
    intro a4 a7 h
    unfold lX4_strengthAgainst_17 at h
    refine v_iload C (pc := 17) (i := 7) dX4_strengthAgainst_17 rfl ?_
    refine v_iload C (pc := 19) (i := 6) dX4_strengthAgainst_19 rfl ?_
    refine v_icmp_ge C (pc := 21) (tgt := 97) dX4_strengthAgainst_21 (by decide) (fun c3 => ?_) (fun c3 => ?_)
    · rw [if_pos c3] at h
      refine v_iload C (pc := 97) (i := 4) dX4_strengthAgainst_97 rfl ?_
      have h := Option.some.inj h
      subst h
      exact v_pret (pc := 99) P rfl rfl (nar_int _) dX4_strengthAgainst_99
    · rw [if_neg c3] at h
      refine v_aload C (pc := 24) (i := 5) dX4_strengthAgainst_24 rfl ?_
      refine v_iload C (pc := 26) (i := 7) dX4_strengthAgainst_26 rfl ?_
      obtain ⟨x4, e4, h⟩ := Option.bind_eq_some_iff.mp h
      refine v_aald C (pc := 28) 5 rfl e4 dX4_strengthAgainst_28 ?_
      refine v_astore C (pc := 29) (i := 8) (lv' := [none, some (va_rf a1), some (.int a2), some (.int a3), some (.int a4), some (va_rf a5), some (.int a6), some (.int a7), some (va_rf x4)]) dX4_strengthAgainst_29 rfl (lw_bi (j := 7) rfl) rfl ?_
      refine v_aload C (pc := 31) (i := 8) dX4_strengthAgainst_31 rfl ?_
      refine v_ifnull C (pc := 33) (tgt := 91) dX4_strengthAgainst_33 (by decide) (fun c5 => ?_) (fun c5 => ?_)
      · rw [if_pos c5] at h
        refine v_iinc C (pc := 91) (i := 7) (w := 1) (lv' := [none, some (va_rf a1), some (.int a2), some (.int a3), some (.int a4), some (va_rf a5), some (.int a6), some (.int (a7 + 1)), some (va_rf x4)]) dX4_strengthAgainst_91 rfl (by decide) rfl ?_
        refine v_goto C (pc := 94) (tgt := 17) dX4_strengthAgainst_94 (by decide) ?_
        refine v_mask (lv' := [none, some (va_rf a1), some (.int a2), some (.int a3), some (.int a4), some (va_rf a5), some (.int a6), some (.int (a7 + 1)), none]) [false, true, true, true, true, true, true, true, false] rfl rfl ?_
        exact ih _ _ h
      · rw [if_neg c5] at h
        refine v_aload C (pc := 36) (i := 8) dX4_strengthAgainst_36 rfl ?_
        obtain ⟨x6, e6, h⟩ := Option.bind_eq_some_iff.mp h
        refine v_getI C (pc := 38) (ci := 2) 0 iwX4_strengthAgainst_X2 rfl (by decide) flX4_strengthAgainst_154 e6 dX4_strengthAgainst_38 ?_
        refine v_aload_n C (pc := 41) (i := 1) dX4_strengthAgainst_41 rfl ?_
        obtain ⟨x7, e7, h⟩ := Option.bind_eq_some_iff.mp h
        refine v_getR C (pc := 42) (ci := 0) 0 iwX4_strengthAgainst_X0 rfl (by decide) flX4_strengthAgainst_293 e7 dX4_strengthAgainst_42 ?_
        obtain ⟨x8, e8, h⟩ := Option.bind_eq_some_iff.mp h
        refine v_getI C (pc := 45) (ci := 1) 0 iwX4_strengthAgainst_X1 rfl (by decide) flX4_strengthAgainst_105 e8 dX4_strengthAgainst_45 ?_
        refine v_icmp_ne C (pc := 48) (tgt := 91) dX4_strengthAgainst_48 (by decide) (fun c9 => ?_) (fun c9 => ?_)
        · rw [if_neg c9] at h
          refine v_iinc C (pc := 91) (i := 7) (w := 1) (lv' := [none, some (va_rf a1), some (.int a2), some (.int a3), some (.int a4), some (va_rf a5), some (.int a6), some (.int (a7 + 1)), some (va_rf x4)]) dX4_strengthAgainst_91 rfl (by decide) rfl ?_
          refine v_goto C (pc := 94) (tgt := 17) dX4_strengthAgainst_94 (by decide) ?_
          refine v_mask (lv' := [none, some (va_rf a1), some (.int a2), some (.int a3), some (.int a4), some (va_rf a5), some (.int a6), some (.int (a7 + 1)), none]) [false, true, true, true, true, true, true, true, false] rfl rfl ?_
          exact ih _ _ h
        · rw [if_pos c9] at h
          refine v_aload C (pc := 51) (i := 8) dX4_strengthAgainst_51 rfl ?_
          obtain ⟨x10, e10, h⟩ := Option.bind_eq_some_iff.mp h
          refine v_getI C (pc := 53) (ci := 2) 1 iwX4_strengthAgainst_X2 rfl (by decide) flX4_strengthAgainst_299 e10 dX4_strengthAgainst_53 ?_
          refine v_iload_n C (pc := 56) (i := 2) dX4_strengthAgainst_56 rfl ?_
          refine v_icmp_ne C (pc := 57) (tgt := 91) dX4_strengthAgainst_57 (by decide) (fun c11 => ?_) (fun c11 => ?_)
          · rw [if_neg c11] at h
            refine v_iinc C (pc := 91) (i := 7) (w := 1) (lv' := [none, some (va_rf a1), some (.int a2), some (.int a3), some (.int a4), some (va_rf a5), some (.int a6), some (.int (a7 + 1)), some (va_rf x4)]) dX4_strengthAgainst_91 rfl (by decide) rfl ?_
            refine v_goto C (pc := 94) (tgt := 17) dX4_strengthAgainst_94 (by decide) ?_
            refine v_mask (lv' := [none, some (va_rf a1), some (.int a2), some (.int a3), some (.int a4), some (va_rf a5), some (.int a6), some (.int (a7 + 1)), none]) [false, true, true, true, true, true, true, true, false] rfl rfl ?_
            exact ih _ _ h
          · rw [if_pos c11] at h
            refine v_aload C (pc := 60) (i := 8) dX4_strengthAgainst_60 rfl ?_
            refine v_aload_n C (pc := 62) (i := 1) dX4_strengthAgainst_62 rfl ?_
            obtain ⟨x12, e12, h⟩ := Option.bind_eq_some_iff.mp h
            refine v_getI C (pc := 63) (ci := 0) 1 iwX4_strengthAgainst_X0 rfl (by decide) flX4_strengthAgainst_296 e12 dX4_strengthAgainst_63 ?_
            obtain ⟨y14, hy14, hh⟩ := Option.bind_eq_some_iff.mp h
            clear h
            obtain ⟨rfl, fsy14, hfy14⟩ := hC_inv hy14
            have h := hh
            clear hh
            obtain ⟨x13, e13, h⟩ := Option.bind_eq_some_iff.mp h
            refine v_pV C (pc := 66) (ci := 2) [.int x12] 1 (cX2_isAgainst_met (kl κ) (kG κ) _ e13) hfy14 rfl gX4_strengthAgainst_X2_isAgainst rfl hdX2_isAgainst rfl rfl rfl (by rw [hR]; exact ⟨Nat.le_of_ble_eq_true rfl, Nat.le_of_ble_eq_true rfl⟩) ⟨Nat.zero_le _, Nat.zero_le _⟩ (Nat.le_of_ble_eq_true rfl) rfl dX4_strengthAgainst_66 ?_
            refine v_if_eq C (pc := 69) (tgt := 91) dX4_strengthAgainst_69 (by decide) (fun c15 => ?_) (fun c15 => ?_)
            · rw [if_pos c15] at h
              refine v_iinc C (pc := 91) (i := 7) (w := 1) (lv' := [none, some (va_rf a1), some (.int a2), some (.int a3), some (.int a4), some (va_rf a5), some (.int a6), some (.int (a7 + 1)), some (va_rf (some y14))]) dX4_strengthAgainst_91 rfl (by decide) rfl ?_
              refine v_goto C (pc := 94) (tgt := 17) dX4_strengthAgainst_94 (by decide) ?_
              refine v_mask (lv' := [none, some (va_rf a1), some (.int a2), some (.int a3), some (.int a4), some (va_rf a5), some (.int a6), some (.int (a7 + 1)), none]) [false, true, true, true, true, true, true, true, false] rfl rfl ?_
              exact ih _ _ h
            · rw [if_neg c15] at h
              refine v_aload C (pc := 72) (i := 8) dX4_strengthAgainst_72 rfl ?_
              refine v_iload_n C (pc := 74) (i := 3) dX4_strengthAgainst_74 rfl ?_
              obtain ⟨y17, hy17, h⟩ := Option.bind_eq_some_iff.mp h
              obtain ⟨fsy17, hfy17⟩ := hC_some hy17
              obtain ⟨x16, e16, h⟩ := Option.bind_eq_some_iff.mp h
              refine v_pV C (pc := 75) (ci := 2) [.int a3] 1 (cX2_countsOn_met (kl κ) (kG κ) _ e16) hfy17 rfl gX4_strengthAgainst_X2_countsOn rfl hdX2_countsOn rfl rfl rfl (by rw [hR]; exact ⟨Nat.le_of_ble_eq_true rfl, Nat.le_of_ble_eq_true rfl⟩) ⟨Nat.zero_le _, Nat.zero_le _⟩ (Nat.le_of_ble_eq_true rfl) rfl dX4_strengthAgainst_75 ?_
              refine v_if_eq C (pc := 78) (tgt := 91) dX4_strengthAgainst_78 (by decide) (fun c18 => ?_) (fun c18 => ?_)
              · rw [if_pos c18] at h
                refine v_iinc C (pc := 91) (i := 7) (w := 1) (lv' := [none, some (va_rf a1), some (.int a2), some (.int a3), some (.int a4), some (va_rf a5), some (.int a6), some (.int (a7 + 1)), some (va_rf (some y14))]) dX4_strengthAgainst_91 rfl (by decide) rfl ?_
                refine v_goto C (pc := 94) (tgt := 17) dX4_strengthAgainst_94 (by decide) ?_
                refine v_mask (lv' := [none, some (va_rf a1), some (.int a2), some (.int a3), some (.int a4), some (va_rf a5), some (.int a6), some (.int (a7 + 1)), none]) [false, true, true, true, true, true, true, true, false] rfl rfl ?_
                exact ih _ _ h
              · rw [if_neg c18] at h
                refine v_iload C (pc := 81) (i := 4) dX4_strengthAgainst_81 rfl ?_
                refine v_aload C (pc := 83) (i := 8) dX4_strengthAgainst_83 rfl ?_
                obtain ⟨x19, e19, h⟩ := Option.bind_eq_some_iff.mp h
                refine v_getI C (pc := 85) (ci := 2) 2 iwX4_strengthAgainst_X2 rfl (by decide) flX4_strengthAgainst_302 e19 dX4_strengthAgainst_85 ?_
                refine v_iadd C (pc := 88) dX4_strengthAgainst_88 ?_
                refine v_istore C (pc := 89) (i := 4) (lv' := [none, some (va_rf a1), some (.int a2), some (.int a3), some (.int (a4 + x19)), some (va_rf a5), some (.int a6), some (.int a7), some (va_rf (some y14))]) dX4_strengthAgainst_89 rfl (lw_bi (j := 3) rfl) rfl ?_
                refine v_iinc C (pc := 91) (i := 7) (w := 1) (lv' := [none, some (va_rf a1), some (.int a2), some (.int a3), some (.int (a4 + x19)), some (va_rf a5), some (.int a6), some (.int (a7 + 1)), some (va_rf (some y14))]) dX4_strengthAgainst_91 rfl (by decide) rfl ?_
                refine v_goto C (pc := 94) (tgt := 17) dX4_strengthAgainst_94 (by decide) ?_
                refine v_mask (lv' := [none, some (va_rf a1), some (.int a2), some (.int a3), some (.int (a4 + x19)), some (va_rf a5), some (.int a6), some (.int (a7 + 1)), none]) [false, true, true, true, true, true, true, true, false] rfl rfl ?_
                exact ih _ _ h
def fX4_strengthAgainst (M : hM) (o : Nat) (a1 : Option Nat) (a2 : Int32) (a3 : Int32) : Option Int32 :=
  (gR M 4 2 (some o)).bind fun x1 =>
  (aL M 5 x1).bind fun x2 =>
  lX4_strengthAgainst_17 M o a1 a2 a3 x1 x2 1000 0 0
set_option maxRecDepth 100000 in
set_option maxHeartbeats 4000000 in
theorem cX4_strengthAgainst_met (l : Launch) (G : hG) (M : hM) {o : Nat} {a1 : Option Nat} {a2 : Int32} {a3 : Int32} {r : Int32} (h : fX4_strengthAgainst M o a1 a2 a3 = some r) : hPMet l yX4_strengthAgainst wsX4_strengthAgainst rmX4_strengthAgainst [.ref o, va_rf a1, .int a2, .int a3] G M (some (.int r)) := by
  refine hp_entry (own := RX4) (cc := cX4_strengthAgainst) (maxL := 9) (ret := (some .int)) (lv := [some (va_rf (some o)), some (va_rf a1), some (.int a2), some (.int a3), none, none, none, none, none]) (by decide) rfl rfl (hcc rfl (hcc (rf_cat _) (hcc rfl (hcc rfl hc0)))) (Nat.le_of_ble_eq_true rfl) rfl (fun κ hG hl hR P => ?_)
  subst hG; subst hl
  unfold fX4_strengthAgainst at h
  have C := P.1
  refine v_iconst C (pc := 0) (v := 0) dX4_strengthAgainst_0 (by decide) ?_
  refine v_istore C (pc := 1) (i := 4) (lv' := [some (va_rf (some o)), some (va_rf a1), some (.int a2), some (.int a3), some (.int 0), none, none, none, none]) dX4_strengthAgainst_1 rfl (lw_bi (j := 3) rfl) rfl ?_
  refine v_aload_n C (pc := 3) (i := 0) dX4_strengthAgainst_3 rfl ?_
  obtain ⟨x1, e1, h⟩ := Option.bind_eq_some_iff.mp h
  refine v_getR C (pc := 4) (ci := 4) 2 iwX4_strengthAgainst_X4 rfl (by decide) flX4_strengthAgainst_23 e1 dX4_strengthAgainst_4 ?_
  refine v_astore C (pc := 7) (i := 5) (lv' := [some (va_rf (some o)), some (va_rf a1), some (.int a2), some (.int a3), some (.int 0), some (va_rf x1), none, none, none]) dX4_strengthAgainst_7 rfl (lw_bi (j := 4) rfl) rfl ?_
  refine v_aload C (pc := 9) (i := 5) dX4_strengthAgainst_9 rfl ?_
  obtain ⟨x2, e2, h⟩ := Option.bind_eq_some_iff.mp h
  refine v_alen C (pc := 11) 5 rfl e2 dX4_strengthAgainst_11 ?_
  refine v_istore C (pc := 12) (i := 6) (lv' := [some (va_rf (some o)), some (va_rf a1), some (.int a2), some (.int a3), some (.int 0), some (va_rf x1), some (.int x2), none, none]) dX4_strengthAgainst_12 rfl (lw_br (j := 5) rfl) rfl ?_
  refine v_iconst C (pc := 14) (v := 0) dX4_strengthAgainst_14 (by decide) ?_
  refine v_istore C (pc := 15) (i := 7) (lv' := [some (va_rf (some o)), some (va_rf a1), some (.int a2), some (.int a3), some (.int 0), some (va_rf x1), some (.int x2), some (.int 0), none]) dX4_strengthAgainst_15 rfl (lw_bi (j := 6) rfl) rfl ?_
  refine v_mask (lv' := [none, some (va_rf a1), some (.int a2), some (.int a3), some (.int 0), some (va_rf x1), some (.int x2), some (.int 0), none]) [false, true, true, true, true, true, true, true, false] rfl rfl ?_
  exact tlX4_strengthAgainst_17 P hR  1000 _ _ h
/-! X4_hasStrength -/
abbrev rmX4_hasStrength : Room := { frames := 3, cells := 0, slots := 0, locals := 70 }
theorem iwX4_hasStrength_X3 : ∀ w ∈ u_ws RX3 TX3 4, w ∈ wsX4_hasStrength := fun _ h => List.mem_cons_of_mem _ (List.mem_append_left _ (List.mem_append_left _ (List.mem_append_left _ (List.mem_append_left _ (List.mem_append_right _ (h))))))
theorem flX4_hasStrength_338 : Cond.fieldLink RX4 338 "Chargehouse$Offence" "elements" "I" ∈ wsX4_hasStrength := List.mem_cons_of_mem _ (List.mem_append_left _ (List.mem_append_left _ (List.mem_append_left _ (List.mem_append_left _ (List.mem_append_left _ (List.mem_append_left _ (List.mem_of_getElem? (i := 0) rfl)))))))
def lX4_hasStrength_3 (M : hM) (o : Nat) (a1 : Option Nat) (a2 : Option Nat) (a3 : Int32) (a4 : Int32) : Nat → Int32 → Option Int32
  | 0, _ => none
  | n + 1, a5 =>
    if (10 : Int32) ≤ a5 then (
      some 1
    ) else (
      (gI M 3 0 a2).bind fun x2 =>
      (fX4_hasBit x2 a5).bind fun x3 =>
      if (x3 : Int32) = 0 then (
        (lX4_hasStrength_3 M o a1 a2 a3 a4 n) (a5 + 1)
      ) else (
        (hC M 4 (some o)).bind fun _ =>
        (fX4_strengthAgainst M o a1 a5 a4).bind fun x5 =>
        if (a3 : Int32) ≤ x5 then (
          (lX4_hasStrength_3 M o a1 a2 a3 a4 n) (a5 + 1)
        ) else (
          some 0
        )
      )
    )
set_option maxRecDepth 100000 in
set_option maxHeartbeats 4000000 in
theorem tlX4_hasStrength_3 {κ : hKx} {M : hM} {o : Nat} {r : Int32} (P : Cp κ RX4 cX4_hasStrength wsX4_hasStrength (some .boolean) (some (.int r))) (hR : kR κ = rmX4_hasStrength)  {a1 : Option Nat} {a2 : Option Nat} {a3 : Int32} {a4 : Int32}  : ∀ (n : Nat) (a5 : Int32), lX4_hasStrength_3 M o a1 a2 a3 a4 n a5 = some r → VW κ 0 0 M 3 [some (va_rf (some o)), some (va_rf a1), some (va_rf a2), some (.int a3), some (.int a4), some (.int a5)] [] := by
  have C := P.1
  intro n
  induction n with
  | zero =>
    intro a5 h
    unfold lX4_hasStrength_3 at h
    cases h
  | succ n ih =>
    intro a5 h
    unfold lX4_hasStrength_3 at h
    refine v_iload C (pc := 3) (i := 5) dX4_hasStrength_3 rfl ?_
    refine v_bipush C (pc := 5) (v := 10) dX4_hasStrength_5 (by decide) ?_
    refine v_icmp_ge C (pc := 7) (tgt := 43) dX4_hasStrength_7 (by decide) (fun c1 => ?_) (fun c1 => ?_)
    · rw [if_pos c1] at h
      refine v_iconst C (pc := 43) (v := 1) dX4_hasStrength_43 (by decide) ?_
      have h := Option.some.inj h
      subst h
      exact v_pret (pc := 44) P rfl rfl (by decide +kernel) dX4_hasStrength_44
    · rw [if_neg c1] at h
      refine v_aload_n C (pc := 10) (i := 2) dX4_hasStrength_10 rfl ?_
      obtain ⟨x2, e2, h⟩ := Option.bind_eq_some_iff.mp h
      refine v_getI C (pc := 11) (ci := 3) 0 iwX4_hasStrength_X3 rfl (by decide) flX4_hasStrength_338 e2 dX4_hasStrength_11 ?_
      refine v_iload C (pc := 14) (i := 5) dX4_hasStrength_14 rfl ?_
      obtain ⟨x3, e3, h⟩ := Option.bind_eq_some_iff.mp h
      refine v_pS C (pc := 16) [.int x2, .int a5] 2 (cX4_hasBit_met (kl κ) (kG κ) _ e3) gX4_hasStrength_X4_hasBit rfl hdsX4_hasBit rfl rfl rfl (by rw [hR]; exact ⟨Nat.le_of_ble_eq_true rfl, Nat.le_of_ble_eq_true rfl⟩) ⟨Nat.zero_le _, Nat.zero_le _⟩ (Nat.le_of_ble_eq_true rfl) rfl dX4_hasStrength_16 ?_
      refine v_if_eq C (pc := 19) (tgt := 37) dX4_hasStrength_19 (by decide) (fun c4 => ?_) (fun c4 => ?_)
      · rw [if_pos c4] at h
        refine v_iinc C (pc := 37) (i := 5) (w := 1) (lv' := [some (va_rf (some o)), some (va_rf a1), some (va_rf a2), some (.int a3), some (.int a4), some (.int (a5 + 1))]) dX4_hasStrength_37 rfl (by decide) rfl ?_
        refine v_goto C (pc := 40) (tgt := 3) dX4_hasStrength_40 (by decide) ?_
        exact ih _ h
      · rw [if_neg c4] at h
        refine v_aload_n C (pc := 22) (i := 0) dX4_hasStrength_22 rfl ?_
        refine v_aload_n C (pc := 23) (i := 1) dX4_hasStrength_23 rfl ?_
        refine v_iload C (pc := 24) (i := 5) dX4_hasStrength_24 rfl ?_
        refine v_iload C (pc := 26) (i := 4) dX4_hasStrength_26 rfl ?_
        obtain ⟨y6, hy6, h⟩ := Option.bind_eq_some_iff.mp h
        obtain ⟨fsy6, hfy6⟩ := hC_some hy6
        obtain ⟨x5, e5, h⟩ := Option.bind_eq_some_iff.mp h
        refine v_pV C (pc := 28) (ci := 4) [va_rf a1, .int a5, .int a4] 3 (cX4_strengthAgainst_met (kl κ) (kG κ) _ e5) hfy6 rfl gX4_hasStrength_X4_strengthAgainst rfl hdX4_strengthAgainst rfl rfl rfl (by rw [hR]; exact ⟨Nat.le_of_ble_eq_true rfl, Nat.le_of_ble_eq_true rfl⟩) ⟨Nat.zero_le _, Nat.zero_le _⟩ (Nat.le_of_ble_eq_true rfl) rfl dX4_hasStrength_28 ?_
        refine v_iload_n C (pc := 31) (i := 3) dX4_hasStrength_31 rfl ?_
        refine v_icmp_ge C (pc := 32) (tgt := 37) dX4_hasStrength_32 (by decide) (fun c7 => ?_) (fun c7 => ?_)
        · rw [if_pos c7] at h
          refine v_iinc C (pc := 37) (i := 5) (w := 1) (lv' := [some (va_rf (some o)), some (va_rf a1), some (va_rf a2), some (.int a3), some (.int a4), some (.int (a5 + 1))]) dX4_hasStrength_37 rfl (by decide) rfl ?_
          refine v_goto C (pc := 40) (tgt := 3) dX4_hasStrength_40 (by decide) ?_
          exact ih _ h
        · rw [if_neg c7] at h
          refine v_iconst C (pc := 35) (v := 0) dX4_hasStrength_35 (by decide) ?_
          have h := Option.some.inj h
          subst h
          exact v_pret (pc := 36) P rfl rfl (by decide +kernel) dX4_hasStrength_36
def fX4_hasStrength (M : hM) (o : Nat) (a1 : Option Nat) (a2 : Option Nat) (a3 : Int32) (a4 : Int32) : Option Int32 :=
  lX4_hasStrength_3 M o a1 a2 a3 a4 1000 0
set_option maxRecDepth 100000 in
set_option maxHeartbeats 4000000 in
theorem cX4_hasStrength_met (l : Launch) (G : hG) (M : hM) {o : Nat} {a1 : Option Nat} {a2 : Option Nat} {a3 : Int32} {a4 : Int32} {r : Int32} (h : fX4_hasStrength M o a1 a2 a3 a4 = some r) : hPMet l yX4_hasStrength wsX4_hasStrength rmX4_hasStrength [.ref o, va_rf a1, va_rf a2, .int a3, .int a4] G M (some (.int r)) := by
  refine hp_entry (own := RX4) (cc := cX4_hasStrength) (maxL := 6) (ret := (some .boolean)) (lv := [some (va_rf (some o)), some (va_rf a1), some (va_rf a2), some (.int a3), some (.int a4), none]) (by decide) rfl rfl (hcc rfl (hcc (rf_cat _) (hcc (rf_cat _) (hcc rfl (hcc rfl hc0))))) (Nat.le_of_ble_eq_true rfl) rfl (fun κ hG hl hR P => ?_)
  subst hG; subst hl
  unfold fX4_hasStrength at h
  have C := P.1
  refine v_iconst C (pc := 0) (v := 0) dX4_hasStrength_0 (by decide) ?_
  refine v_istore C (pc := 1) (i := 5) (lv' := [some (va_rf (some o)), some (va_rf a1), some (va_rf a2), some (.int a3), some (.int a4), some (.int 0)]) dX4_hasStrength_1 rfl (lw_bi (j := 4) rfl) rfl ?_
  exact tlX4_hasStrength_3 P hR  1000 _ h
/-! X4_hindrance -/
abbrev rmX4_hindrance : Room := { frames := 4, cells := 0, slots := 0, locals := 95 }
theorem iwX4_hindrance_X0 : ∀ w ∈ u_ws RX0 TX0 14, w ∈ wsX4_hindrance := fun _ h => List.mem_cons_of_mem _ (List.mem_append_left _ (List.mem_append_left _ (List.mem_append_left _ (List.mem_append_left _ (List.mem_append_right _ (h))))))
theorem iwX4_hindrance_X1 : ∀ w ∈ u_ws RX1 TX1 5, w ∈ wsX4_hindrance := fun _ h => List.mem_cons_of_mem _ (List.mem_append_left _ (List.mem_append_left _ (List.mem_append_left _ (List.mem_append_right _ (h)))))
theorem iwX4_hindrance_X3 : ∀ w ∈ u_ws RX3 TX3 4, w ∈ wsX4_hindrance := fun _ h => List.mem_cons_of_mem _ (List.mem_append_left _ (List.mem_append_left _ (List.mem_append_right _ (h))))
theorem flX4_hindrance_293 : Cond.fieldLink RX4 293 "Chargehouse$Accused" "file" "LChargehouse$CaseFile;" ∈ wsX4_hindrance := List.mem_cons_of_mem _ (List.mem_append_left _ (List.mem_append_left _ (List.mem_append_left _ (List.mem_append_left _ (List.mem_append_left _ (List.mem_append_left _ (List.mem_of_getElem? (i := 0) rfl)))))))
theorem flX4_hindrance_351 : Cond.fieldLink RX4 351 "Chargehouse$CaseFile" "event" "I" ∈ wsX4_hindrance := List.mem_cons_of_mem _ (List.mem_append_left _ (List.mem_append_left _ (List.mem_append_left _ (List.mem_append_left _ (List.mem_append_left _ (List.mem_append_left _ (List.mem_of_getElem? (i := 1) rfl)))))))
theorem flX4_hindrance_354 : Cond.fieldLink RX4 354 "Chargehouse$Offence" "limit" "I" ∈ wsX4_hindrance := List.mem_cons_of_mem _ (List.mem_append_left _ (List.mem_append_left _ (List.mem_append_left _ (List.mem_append_left _ (List.mem_append_left _ (List.mem_append_left _ (List.mem_of_getElem? (i := 2) rfl)))))))
theorem flX4_hindrance_361 : Cond.fieldLink RX4 361 "Chargehouse$Offence" "gravity" "I" ∈ wsX4_hindrance := List.mem_cons_of_mem _ (List.mem_append_left _ (List.mem_append_left _ (List.mem_append_left _ (List.mem_append_left _ (List.mem_append_left _ (List.mem_append_left _ (List.mem_of_getElem? (i := 3) rfl)))))))
theorem flX4_hindrance_364 : Cond.fieldLink RX4 364 "Chargehouse$CaseFile" "points" "I" ∈ wsX4_hindrance := List.mem_cons_of_mem _ (List.mem_append_left _ (List.mem_append_left _ (List.mem_append_left _ (List.mem_append_left _ (List.mem_append_left _ (List.mem_append_left _ (List.mem_of_getElem? (i := 4) rfl)))))))
def fX4_hindrance (M : hM) (o : Nat) (a1 : Option Nat) (a2 : Option Nat) (a3 : Int32) : Option Int32 :=
  (gR M 0 0 a1).bind fun x1 =>
  (gI M 1 1 x1).bind fun x2 =>
  (gI M 3 2 a2).bind fun x3 =>
  if (a3 : Int32) ≤ (x2 + x3) then (
    (hC M 4 (some o)).bind fun _ =>
    (fX4_isSpent M o a1 a2 a3).bind fun x5 =>
    if (x5 : Int32) = 0 then (
      (hC M 4 (some o)).bind fun _ =>
      (fX4_hasStrength M o a1 a2 5 a3).bind fun x8 =>
      if (x8 : Int32) = 0 then (
        some 3
      ) else (
        (gI M 3 1 a2).bind fun x11 =>
        (gR M 0 0 a1).bind fun x12 =>
        (gI M 1 3 x12).bind fun x13 =>
        if 0 < ((x11 + x13) : Int32) then (
          some 0
        ) else (
          some 4
        )
      )
    ) else (
      some 2
    )
  ) else (
    some 1
  )
set_option maxRecDepth 100000 in
set_option maxHeartbeats 4000000 in
theorem cX4_hindrance_met (l : Launch) (G : hG) (M : hM) {o : Nat} {a1 : Option Nat} {a2 : Option Nat} {a3 : Int32} {r : Int32} (h : fX4_hindrance M o a1 a2 a3 = some r) : hPMet l yX4_hindrance wsX4_hindrance rmX4_hindrance [.ref o, va_rf a1, va_rf a2, .int a3] G M (some (.int r)) := by
  refine hp_entry (own := RX4) (cc := cX4_hindrance) (maxL := 4) (ret := (some .int)) (lv := [some (va_rf (some o)), some (va_rf a1), some (va_rf a2), some (.int a3)]) (by decide) rfl rfl (hcc rfl (hcc (rf_cat _) (hcc (rf_cat _) (hcc rfl hc0)))) (Nat.le_of_ble_eq_true rfl) rfl (fun κ hG hl hR P => ?_)
  subst hG; subst hl
  unfold fX4_hindrance at h
  have C := P.1
  refine v_iload_n C (pc := 0) (i := 3) dX4_hindrance_0 rfl ?_
  refine v_aload_n C (pc := 1) (i := 1) dX4_hindrance_1 rfl ?_
  obtain ⟨x1, e1, h⟩ := Option.bind_eq_some_iff.mp h
  refine v_getR C (pc := 2) (ci := 0) 0 iwX4_hindrance_X0 rfl (by decide) flX4_hindrance_293 e1 dX4_hindrance_2 ?_
  obtain ⟨x2, e2, h⟩ := Option.bind_eq_some_iff.mp h
  refine v_getI C (pc := 5) (ci := 1) 1 iwX4_hindrance_X1 rfl (by decide) flX4_hindrance_351 e2 dX4_hindrance_5 ?_
  refine v_aload_n C (pc := 8) (i := 2) dX4_hindrance_8 rfl ?_
  obtain ⟨x3, e3, h⟩ := Option.bind_eq_some_iff.mp h
  refine v_getI C (pc := 9) (ci := 3) 2 iwX4_hindrance_X3 rfl (by decide) flX4_hindrance_354 e3 dX4_hindrance_9 ?_
  refine v_iadd C (pc := 12) dX4_hindrance_12 ?_
  refine v_icmp_le C (pc := 13) (tgt := 18) dX4_hindrance_13 (by decide) (fun c4 => ?_) (fun c4 => ?_)
  · rw [if_pos c4] at h
    refine v_aload_n C (pc := 18) (i := 0) dX4_hindrance_18 rfl ?_
    refine v_aload_n C (pc := 19) (i := 1) dX4_hindrance_19 rfl ?_
    refine v_aload_n C (pc := 20) (i := 2) dX4_hindrance_20 rfl ?_
    refine v_iload_n C (pc := 21) (i := 3) dX4_hindrance_21 rfl ?_
    obtain ⟨y6, hy6, h⟩ := Option.bind_eq_some_iff.mp h
    obtain ⟨fsy6, hfy6⟩ := hC_some hy6
    obtain ⟨x5, e5, h⟩ := Option.bind_eq_some_iff.mp h
    refine v_pV C (pc := 22) (ci := 4) [va_rf a1, va_rf a2, .int a3] 3 (cX4_isSpent_met (kl κ) (kG κ) _ e5) hfy6 rfl gX4_hindrance_X4_isSpent rfl hdX4_isSpent rfl rfl rfl (by rw [hR]; exact ⟨Nat.le_of_ble_eq_true rfl, Nat.le_of_ble_eq_true rfl⟩) ⟨Nat.zero_le _, Nat.zero_le _⟩ (Nat.le_of_ble_eq_true rfl) rfl dX4_hindrance_22 ?_
    refine v_if_eq C (pc := 25) (tgt := 30) dX4_hindrance_25 (by decide) (fun c7 => ?_) (fun c7 => ?_)
    · rw [if_pos c7] at h
      refine v_aload_n C (pc := 30) (i := 0) dX4_hindrance_30 rfl ?_
      refine v_aload_n C (pc := 31) (i := 1) dX4_hindrance_31 rfl ?_
      refine v_aload_n C (pc := 32) (i := 2) dX4_hindrance_32 rfl ?_
      refine v_iconst C (pc := 33) (v := 5) dX4_hindrance_33 (by decide) ?_
      refine v_iload_n C (pc := 34) (i := 3) dX4_hindrance_34 rfl ?_
      obtain ⟨y9, hy9, h⟩ := Option.bind_eq_some_iff.mp h
      obtain ⟨fsy9, hfy9⟩ := hC_some hy9
      obtain ⟨x8, e8, h⟩ := Option.bind_eq_some_iff.mp h
      refine v_pV C (pc := 35) (ci := 4) [va_rf a1, va_rf a2, .int 5, .int a3] 4 (cX4_hasStrength_met (kl κ) (kG κ) _ e8) hfy9 rfl gX4_hindrance_X4_hasStrength rfl hdX4_hasStrength rfl rfl rfl (by rw [hR]; exact ⟨Nat.le_of_ble_eq_true rfl, Nat.le_of_ble_eq_true rfl⟩) ⟨Nat.zero_le _, Nat.zero_le _⟩ (Nat.le_of_ble_eq_true rfl) rfl dX4_hindrance_35 ?_
      refine v_if_ne C (pc := 38) (tgt := 43) dX4_hindrance_38 (by decide) (fun c10 => ?_) (fun c10 => ?_)
      · rw [if_neg c10] at h
        refine v_aload_n C (pc := 43) (i := 2) dX4_hindrance_43 rfl ?_
        obtain ⟨x11, e11, h⟩ := Option.bind_eq_some_iff.mp h
        refine v_getI C (pc := 44) (ci := 3) 1 iwX4_hindrance_X3 rfl (by decide) flX4_hindrance_361 e11 dX4_hindrance_44 ?_
        refine v_aload_n C (pc := 47) (i := 1) dX4_hindrance_47 rfl ?_
        obtain ⟨x12, e12, h⟩ := Option.bind_eq_some_iff.mp h
        refine v_getR C (pc := 48) (ci := 0) 0 iwX4_hindrance_X0 rfl (by decide) flX4_hindrance_293 e12 dX4_hindrance_48 ?_
        obtain ⟨x13, e13, h⟩ := Option.bind_eq_some_iff.mp h
        refine v_getI C (pc := 51) (ci := 1) 3 iwX4_hindrance_X1 rfl (by decide) flX4_hindrance_364 e13 dX4_hindrance_51 ?_
        refine v_iadd C (pc := 54) dX4_hindrance_54 ?_
        refine v_if_gt C (pc := 55) (tgt := 62) dX4_hindrance_55 (by decide) (fun c14 => ?_) (fun c14 => ?_)
        · rw [if_pos c14] at h
          refine v_iconst C (pc := 62) (v := 0) dX4_hindrance_62 (by decide) ?_
          have h := Option.some.inj h
          subst h
          exact v_pret (pc := 63) P rfl rfl (nar_int _) dX4_hindrance_63
        · rw [if_neg c14] at h
          refine v_iconst C (pc := 58) (v := 4) dX4_hindrance_58 (by decide) ?_
          refine v_goto C (pc := 59) (tgt := 63) dX4_hindrance_59 (by decide) ?_
          have h := Option.some.inj h
          subst h
          exact v_pret (pc := 63) P rfl rfl (nar_int _) dX4_hindrance_63
      · rw [if_pos c10] at h
        refine v_iconst C (pc := 41) (v := 3) dX4_hindrance_41 (by decide) ?_
        have h := Option.some.inj h
        subst h
        exact v_pret (pc := 42) P rfl rfl (nar_int _) dX4_hindrance_42
    · rw [if_neg c7] at h
      refine v_iconst C (pc := 28) (v := 2) dX4_hindrance_28 (by decide) ?_
      have h := Option.some.inj h
      subst h
      exact v_pret (pc := 29) P rfl rfl (nar_int _) dX4_hindrance_29
  · rw [if_neg c4] at h
    refine v_iconst C (pc := 16) (v := 1) dX4_hindrance_16 (by decide) ?_
    have h := Option.some.inj h
    subst h
    exact v_pret (pc := 17) P rfl rfl (nar_int _) dX4_hindrance_17
/-! X4_chargeable -/
abbrev rmX4_chargeable : Room := { frames := 5, cells := 0, slots := 0, locals := 118 }
theorem iwX4_chargeable_X4 : ∀ w ∈ u_ws RX4 TX4 13, w ∈ wsX4_chargeable := fun _ h => List.mem_cons_of_mem _ (List.mem_append_left _ (List.mem_append_left _ (List.mem_append_left _ (List.mem_append_left _ (List.mem_append_right _ (h))))))
theorem flX4_chargeable_11 : Cond.fieldLink RX4 11 "Chargehouse" "offenceRows" "[LChargehouse$Offence;" ∈ wsX4_chargeable := List.mem_cons_of_mem _ (List.mem_append_left _ (List.mem_append_left _ (List.mem_append_left _ (List.mem_append_left _ (List.mem_append_left _ (List.mem_append_left _ (List.mem_of_getElem? (i := 0) rfl)))))))
def lX4_chargeable_5 (M : hM) (o : Nat) (a1 : Option Nat) (a2 : Int32) : Nat → Int32 → Int32 → Option Int32
  | 0, _ , _ => none
  | n + 1, a3, a4 =>
    (gR M 4 0 (some o)).bind fun x1 =>
    (aL M 3 x1).bind fun x2 =>
    if (x2 : Int32) ≤ a4 then (
      some a3
    ) else (
      (gR M 4 0 (some o)).bind fun x4 =>
      (aR M 3 x4 a4).bind fun x5 =>
      if x5 = none then (
        (lX4_chargeable_5 M o a1 a2 n) a3 (a4 + 1)
      ) else (
        (hC M 4 (some o)).bind fun _ =>
        (fX4_hindrance M o a1 x5 a2).bind fun x7 =>
        if (x7 : Int32) = 0 then (
          (lX4_chargeable_5 M o a1 a2 n) (a3 ||| (1 <<< (a4 &&& 31))) (a4 + 1)
        ) else (
          (lX4_chargeable_5 M o a1 a2 n) a3 (a4 + 1)
        )
      )
    )
set_option maxRecDepth 100000 in
set_option maxHeartbeats 4000000 in
theorem tlX4_chargeable_5 {κ : hKx} {M : hM} {o : Nat} {r : Int32} (P : Cp κ RX4 cX4_chargeable wsX4_chargeable (some .int) (some (.int r))) (hR : kR κ = rmX4_chargeable)  {a1 : Option Nat} {a2 : Int32}  : ∀ (n : Nat) (a3 : Int32) (a4 : Int32), lX4_chargeable_5 M o a1 a2 n a3 a4 = some r → VW κ 0 0 M 5 [some (va_rf (some o)), some (va_rf a1), some (.int a2), some (.int a3), some (.int a4), none] [] := by
  have C := P.1
  intro n
  induction n with
  | zero =>
    intro a3 a4 h
    unfold lX4_chargeable_5 at h
    cases h
  | succ n ih =>
    intro a3 a4 h
    unfold lX4_chargeable_5 at h
    refine v_iload C (pc := 5) (i := 4) dX4_chargeable_5 rfl ?_
    refine v_aload_n C (pc := 7) (i := 0) dX4_chargeable_7 rfl ?_
    obtain ⟨x1, e1, h⟩ := Option.bind_eq_some_iff.mp h
    refine v_getR C (pc := 8) (ci := 4) 0 iwX4_chargeable_X4 rfl (by decide) flX4_chargeable_11 e1 dX4_chargeable_8 ?_
    obtain ⟨x2, e2, h⟩ := Option.bind_eq_some_iff.mp h
    refine v_alen C (pc := 11) 3 rfl e2 dX4_chargeable_11 ?_
    refine v_icmp_ge C (pc := 12) (tgt := 53) dX4_chargeable_12 (by decide) (fun c3 => ?_) (fun c3 => ?_)
    · rw [if_pos c3] at h
      refine v_iload_n C (pc := 53) (i := 3) dX4_chargeable_53 rfl ?_
      have h := Option.some.inj h
      subst h
      exact v_pret (pc := 54) P rfl rfl (nar_int _) dX4_chargeable_54
    · rw [if_neg c3] at h
      refine v_aload_n C (pc := 15) (i := 0) dX4_chargeable_15 rfl ?_
      obtain ⟨x4, e4, h⟩ := Option.bind_eq_some_iff.mp h
      refine v_getR C (pc := 16) (ci := 4) 0 iwX4_chargeable_X4 rfl (by decide) flX4_chargeable_11 e4 dX4_chargeable_16 ?_
      refine v_iload C (pc := 19) (i := 4) dX4_chargeable_19 rfl ?_
      obtain ⟨x5, e5, h⟩ := Option.bind_eq_some_iff.mp h
      refine v_aald C (pc := 21) 3 rfl e5 dX4_chargeable_21 ?_
      refine v_astore C (pc := 22) (i := 5) (lv' := [some (va_rf (some o)), some (va_rf a1), some (.int a2), some (.int a3), some (.int a4), some (va_rf x5)]) dX4_chargeable_22 rfl (lw_bi (j := 4) rfl) rfl ?_
      refine v_aload C (pc := 24) (i := 5) dX4_chargeable_24 rfl ?_
      refine v_ifnull C (pc := 26) (tgt := 47) dX4_chargeable_26 (by decide) (fun c6 => ?_) (fun c6 => ?_)
      · rw [if_pos c6] at h
        refine v_iinc C (pc := 47) (i := 4) (w := 1) (lv' := [some (va_rf (some o)), some (va_rf a1), some (.int a2), some (.int a3), some (.int (a4 + 1)), some (va_rf x5)]) dX4_chargeable_47 rfl (by decide) rfl ?_
        refine v_goto C (pc := 50) (tgt := 5) dX4_chargeable_50 (by decide) ?_
        refine v_mask (lv' := [some (va_rf (some o)), some (va_rf a1), some (.int a2), some (.int a3), some (.int (a4 + 1)), none]) [true, true, true, true, true, false] rfl rfl ?_
        exact ih _ _ h
      · rw [if_neg c6] at h
        refine v_aload_n C (pc := 29) (i := 0) dX4_chargeable_29 rfl ?_
        refine v_aload_n C (pc := 30) (i := 1) dX4_chargeable_30 rfl ?_
        refine v_aload C (pc := 31) (i := 5) dX4_chargeable_31 rfl ?_
        refine v_iload_n C (pc := 33) (i := 2) dX4_chargeable_33 rfl ?_
        obtain ⟨y8, hy8, h⟩ := Option.bind_eq_some_iff.mp h
        obtain ⟨fsy8, hfy8⟩ := hC_some hy8
        obtain ⟨x7, e7, h⟩ := Option.bind_eq_some_iff.mp h
        refine v_pV C (pc := 34) (ci := 4) [va_rf a1, va_rf x5, .int a2] 3 (cX4_hindrance_met (kl κ) (kG κ) _ e7) hfy8 rfl gX4_chargeable_X4_hindrance rfl hdX4_hindrance rfl rfl rfl (by rw [hR]; exact ⟨Nat.le_of_ble_eq_true rfl, Nat.le_of_ble_eq_true rfl⟩) ⟨Nat.zero_le _, Nat.zero_le _⟩ (Nat.le_of_ble_eq_true rfl) rfl dX4_chargeable_34 ?_
        refine v_if_ne C (pc := 37) (tgt := 47) dX4_chargeable_37 (by decide) (fun c9 => ?_) (fun c9 => ?_)
        · rw [if_neg c9] at h
          refine v_iinc C (pc := 47) (i := 4) (w := 1) (lv' := [some (va_rf (some o)), some (va_rf a1), some (.int a2), some (.int a3), some (.int (a4 + 1)), some (va_rf x5)]) dX4_chargeable_47 rfl (by decide) rfl ?_
          refine v_goto C (pc := 50) (tgt := 5) dX4_chargeable_50 (by decide) ?_
          refine v_mask (lv' := [some (va_rf (some o)), some (va_rf a1), some (.int a2), some (.int a3), some (.int (a4 + 1)), none]) [true, true, true, true, true, false] rfl rfl ?_
          exact ih _ _ h
        · rw [if_pos c9] at h
          refine v_iload_n C (pc := 40) (i := 3) dX4_chargeable_40 rfl ?_
          refine v_iconst C (pc := 41) (v := 1) dX4_chargeable_41 (by decide) ?_
          refine v_iload C (pc := 42) (i := 4) dX4_chargeable_42 rfl ?_
          refine v_ishl C (pc := 44) dX4_chargeable_44 ?_
          refine v_ior C (pc := 45) dX4_chargeable_45 ?_
          refine v_istore_n C (pc := 46) (i := 3) (lv' := [some (va_rf (some o)), some (va_rf a1), some (.int a2), some (.int (a3 ||| (1 <<< (a4 &&& 31)))), some (.int a4), some (va_rf x5)]) dX4_chargeable_46 rfl (lw_bi (j := 2) rfl) rfl ?_
          refine v_iinc C (pc := 47) (i := 4) (w := 1) (lv' := [some (va_rf (some o)), some (va_rf a1), some (.int a2), some (.int (a3 ||| (1 <<< (a4 &&& 31)))), some (.int (a4 + 1)), some (va_rf x5)]) dX4_chargeable_47 rfl (by decide) rfl ?_
          refine v_goto C (pc := 50) (tgt := 5) dX4_chargeable_50 (by decide) ?_
          refine v_mask (lv' := [some (va_rf (some o)), some (va_rf a1), some (.int a2), some (.int (a3 ||| (1 <<< (a4 &&& 31)))), some (.int (a4 + 1)), none]) [true, true, true, true, true, false] rfl rfl ?_
          exact ih _ _ h
def fX4_chargeable (M : hM) (o : Nat) (a1 : Option Nat) (a2 : Int32) : Option Int32 :=
  lX4_chargeable_5 M o a1 a2 1000 0 0
set_option maxRecDepth 100000 in
set_option maxHeartbeats 4000000 in
theorem cX4_chargeable_met (l : Launch) (G : hG) (M : hM) {o : Nat} {a1 : Option Nat} {a2 : Int32} {r : Int32} (h : fX4_chargeable M o a1 a2 = some r) : hPMet l yX4_chargeable wsX4_chargeable rmX4_chargeable [.ref o, va_rf a1, .int a2] G M (some (.int r)) := by
  refine hp_entry (own := RX4) (cc := cX4_chargeable) (maxL := 6) (ret := (some .int)) (lv := [some (va_rf (some o)), some (va_rf a1), some (.int a2), none, none, none]) (by decide) rfl rfl (hcc rfl (hcc (rf_cat _) (hcc rfl hc0))) (Nat.le_of_ble_eq_true rfl) rfl (fun κ hG hl hR P => ?_)
  subst hG; subst hl
  unfold fX4_chargeable at h
  have C := P.1
  refine v_iconst C (pc := 0) (v := 0) dX4_chargeable_0 (by decide) ?_
  refine v_istore_n C (pc := 1) (i := 3) (lv' := [some (va_rf (some o)), some (va_rf a1), some (.int a2), some (.int 0), none, none]) dX4_chargeable_1 rfl (lw_bi (j := 2) rfl) rfl ?_
  refine v_iconst C (pc := 2) (v := 0) dX4_chargeable_2 (by decide) ?_
  refine v_istore C (pc := 3) (i := 4) (lv' := [some (va_rf (some o)), some (va_rf a1), some (.int a2), some (.int 0), some (.int 0), none]) dX4_chargeable_3 rfl (lw_bi (j := 3) rfl) rfl ?_
  exact tlX4_chargeable_5 P hR  1000 _ _ h
/-! J6_bitCount_0f7a4 -/
abbrev rmJ6_bitCount_0f7a4 : Room := { frames := 0, cells := 0, slots := 0, locals := 0 }
def fJ6_bitCount_0f7a4 (a0 : Int32) : Option Int32 :=
  some ((((((((a0 - (((Int32.toUInt32 a0 >>> (Int32.toUInt32 1 &&& Int32.toUInt32 31)).toInt32) &&& 1431655765)) &&& 858993459) + (((Int32.toUInt32 (a0 - (((Int32.toUInt32 a0 >>> (Int32.toUInt32 1 &&& Int32.toUInt32 31)).toInt32) &&& 1431655765)) >>> (Int32.toUInt32 2 &&& Int32.toUInt32 31)).toInt32) &&& 858993459)) + ((Int32.toUInt32 (((a0 - (((Int32.toUInt32 a0 >>> (Int32.toUInt32 1 &&& Int32.toUInt32 31)).toInt32) &&& 1431655765)) &&& 858993459) + (((Int32.toUInt32 (a0 - (((Int32.toUInt32 a0 >>> (Int32.toUInt32 1 &&& Int32.toUInt32 31)).toInt32) &&& 1431655765)) >>> (Int32.toUInt32 2 &&& Int32.toUInt32 31)).toInt32) &&& 858993459)) >>> (Int32.toUInt32 4 &&& Int32.toUInt32 31)).toInt32)) &&& 252645135) + ((Int32.toUInt32 (((((a0 - (((Int32.toUInt32 a0 >>> (Int32.toUInt32 1 &&& Int32.toUInt32 31)).toInt32) &&& 1431655765)) &&& 858993459) + (((Int32.toUInt32 (a0 - (((Int32.toUInt32 a0 >>> (Int32.toUInt32 1 &&& Int32.toUInt32 31)).toInt32) &&& 1431655765)) >>> (Int32.toUInt32 2 &&& Int32.toUInt32 31)).toInt32) &&& 858993459)) + ((Int32.toUInt32 (((a0 - (((Int32.toUInt32 a0 >>> (Int32.toUInt32 1 &&& Int32.toUInt32 31)).toInt32) &&& 1431655765)) &&& 858993459) + (((Int32.toUInt32 (a0 - (((Int32.toUInt32 a0 >>> (Int32.toUInt32 1 &&& Int32.toUInt32 31)).toInt32) &&& 1431655765)) >>> (Int32.toUInt32 2 &&& Int32.toUInt32 31)).toInt32) &&& 858993459)) >>> (Int32.toUInt32 4 &&& Int32.toUInt32 31)).toInt32)) &&& 252645135) >>> (Int32.toUInt32 8 &&& Int32.toUInt32 31)).toInt32)) + ((Int32.toUInt32 ((((((a0 - (((Int32.toUInt32 a0 >>> (Int32.toUInt32 1 &&& Int32.toUInt32 31)).toInt32) &&& 1431655765)) &&& 858993459) + (((Int32.toUInt32 (a0 - (((Int32.toUInt32 a0 >>> (Int32.toUInt32 1 &&& Int32.toUInt32 31)).toInt32) &&& 1431655765)) >>> (Int32.toUInt32 2 &&& Int32.toUInt32 31)).toInt32) &&& 858993459)) + ((Int32.toUInt32 (((a0 - (((Int32.toUInt32 a0 >>> (Int32.toUInt32 1 &&& Int32.toUInt32 31)).toInt32) &&& 1431655765)) &&& 858993459) + (((Int32.toUInt32 (a0 - (((Int32.toUInt32 a0 >>> (Int32.toUInt32 1 &&& Int32.toUInt32 31)).toInt32) &&& 1431655765)) >>> (Int32.toUInt32 2 &&& Int32.toUInt32 31)).toInt32) &&& 858993459)) >>> (Int32.toUInt32 4 &&& Int32.toUInt32 31)).toInt32)) &&& 252645135) + ((Int32.toUInt32 (((((a0 - (((Int32.toUInt32 a0 >>> (Int32.toUInt32 1 &&& Int32.toUInt32 31)).toInt32) &&& 1431655765)) &&& 858993459) + (((Int32.toUInt32 (a0 - (((Int32.toUInt32 a0 >>> (Int32.toUInt32 1 &&& Int32.toUInt32 31)).toInt32) &&& 1431655765)) >>> (Int32.toUInt32 2 &&& Int32.toUInt32 31)).toInt32) &&& 858993459)) + ((Int32.toUInt32 (((a0 - (((Int32.toUInt32 a0 >>> (Int32.toUInt32 1 &&& Int32.toUInt32 31)).toInt32) &&& 1431655765)) &&& 858993459) + (((Int32.toUInt32 (a0 - (((Int32.toUInt32 a0 >>> (Int32.toUInt32 1 &&& Int32.toUInt32 31)).toInt32) &&& 1431655765)) >>> (Int32.toUInt32 2 &&& Int32.toUInt32 31)).toInt32) &&& 858993459)) >>> (Int32.toUInt32 4 &&& Int32.toUInt32 31)).toInt32)) &&& 252645135) >>> (Int32.toUInt32 8 &&& Int32.toUInt32 31)).toInt32)) >>> (Int32.toUInt32 16 &&& Int32.toUInt32 31)).toInt32)) &&& 63)
set_option maxRecDepth 100000 in
set_option maxHeartbeats 4000000 in
theorem cJ6_bitCount_0f7a4_met (l : Launch) (G : hG) (M : hM) {a0 : Int32} {r : Int32} (h : fJ6_bitCount_0f7a4 a0 = some r) : hPMet l yJ6_bitCount_0f7a4 wsJ6_bitCount_0f7a4 rmJ6_bitCount_0f7a4 [.int a0] G M (some (.int r)) := by
  refine hp_entry (own := RJ6) (cc := cJ6_bitCount_0f7a4) (maxL := 1) (ret := (some .int)) (lv := [some (.int a0)]) (by decide) rfl rfl (hcc rfl hc0) (Nat.le_of_ble_eq_true rfl) rfl (fun κ hG hl hR P => ?_)
  subst hG; subst hl
  unfold fJ6_bitCount_0f7a4 at h
  have C := P.1
  refine v_iload_n C (pc := 0) (i := 0) dJ6_bitCount_0f7a4_0 rfl ?_
  refine v_iload_n C (pc := 1) (i := 0) dJ6_bitCount_0f7a4_1 rfl ?_
  refine v_iconst C (pc := 2) (v := 1) dJ6_bitCount_0f7a4_2 (by decide) ?_
  refine v_iushr C (pc := 3) dJ6_bitCount_0f7a4_3 ?_
  refine v_ldcw C (pc := 4) (v := 1431655765) (List.mem_cons_of_mem _ (List.mem_of_getElem? (i := 0) rfl)) dJ6_bitCount_0f7a4_4 ?_
  refine v_iand C (pc := 7) dJ6_bitCount_0f7a4_7 ?_
  refine v_isub C (pc := 8) dJ6_bitCount_0f7a4_8 ?_
  refine v_istore_n C (pc := 9) (i := 0) (lv' := [some (.int (a0 - (((Int32.toUInt32 a0 >>> (Int32.toUInt32 1 &&& Int32.toUInt32 31)).toInt32) &&& 1431655765)))]) dJ6_bitCount_0f7a4_9 rfl lw_b0 rfl ?_
  refine v_iload_n C (pc := 10) (i := 0) dJ6_bitCount_0f7a4_10 rfl ?_
  refine v_ldcw C (pc := 11) (v := 858993459) (List.mem_cons_of_mem _ (List.mem_of_getElem? (i := 1) rfl)) dJ6_bitCount_0f7a4_11 ?_
  refine v_iand C (pc := 14) dJ6_bitCount_0f7a4_14 ?_
  refine v_iload_n C (pc := 15) (i := 0) dJ6_bitCount_0f7a4_15 rfl ?_
  refine v_iconst C (pc := 16) (v := 2) dJ6_bitCount_0f7a4_16 (by decide) ?_
  refine v_iushr C (pc := 17) dJ6_bitCount_0f7a4_17 ?_
  refine v_ldcw C (pc := 18) (v := 858993459) (List.mem_cons_of_mem _ (List.mem_of_getElem? (i := 1) rfl)) dJ6_bitCount_0f7a4_18 ?_
  refine v_iand C (pc := 21) dJ6_bitCount_0f7a4_21 ?_
  refine v_iadd C (pc := 22) dJ6_bitCount_0f7a4_22 ?_
  refine v_istore_n C (pc := 23) (i := 0) (lv' := [some (.int (((a0 - (((Int32.toUInt32 a0 >>> (Int32.toUInt32 1 &&& Int32.toUInt32 31)).toInt32) &&& 1431655765)) &&& 858993459) + (((Int32.toUInt32 (a0 - (((Int32.toUInt32 a0 >>> (Int32.toUInt32 1 &&& Int32.toUInt32 31)).toInt32) &&& 1431655765)) >>> (Int32.toUInt32 2 &&& Int32.toUInt32 31)).toInt32) &&& 858993459)))]) dJ6_bitCount_0f7a4_23 rfl lw_b0 rfl ?_
  refine v_iload_n C (pc := 24) (i := 0) dJ6_bitCount_0f7a4_24 rfl ?_
  refine v_iload_n C (pc := 25) (i := 0) dJ6_bitCount_0f7a4_25 rfl ?_
  refine v_iconst C (pc := 26) (v := 4) dJ6_bitCount_0f7a4_26 (by decide) ?_
  refine v_iushr C (pc := 27) dJ6_bitCount_0f7a4_27 ?_
  refine v_iadd C (pc := 28) dJ6_bitCount_0f7a4_28 ?_
  refine v_ldcw C (pc := 29) (v := 252645135) (List.mem_cons_of_mem _ (List.mem_of_getElem? (i := 2) rfl)) dJ6_bitCount_0f7a4_29 ?_
  refine v_iand C (pc := 32) dJ6_bitCount_0f7a4_32 ?_
  refine v_istore_n C (pc := 33) (i := 0) (lv' := [some (.int (((((a0 - (((Int32.toUInt32 a0 >>> (Int32.toUInt32 1 &&& Int32.toUInt32 31)).toInt32) &&& 1431655765)) &&& 858993459) + (((Int32.toUInt32 (a0 - (((Int32.toUInt32 a0 >>> (Int32.toUInt32 1 &&& Int32.toUInt32 31)).toInt32) &&& 1431655765)) >>> (Int32.toUInt32 2 &&& Int32.toUInt32 31)).toInt32) &&& 858993459)) + ((Int32.toUInt32 (((a0 - (((Int32.toUInt32 a0 >>> (Int32.toUInt32 1 &&& Int32.toUInt32 31)).toInt32) &&& 1431655765)) &&& 858993459) + (((Int32.toUInt32 (a0 - (((Int32.toUInt32 a0 >>> (Int32.toUInt32 1 &&& Int32.toUInt32 31)).toInt32) &&& 1431655765)) >>> (Int32.toUInt32 2 &&& Int32.toUInt32 31)).toInt32) &&& 858993459)) >>> (Int32.toUInt32 4 &&& Int32.toUInt32 31)).toInt32)) &&& 252645135))]) dJ6_bitCount_0f7a4_33 rfl lw_b0 rfl ?_
  refine v_iload_n C (pc := 34) (i := 0) dJ6_bitCount_0f7a4_34 rfl ?_
  refine v_iload_n C (pc := 35) (i := 0) dJ6_bitCount_0f7a4_35 rfl ?_
  refine v_bipush C (pc := 36) (v := 8) dJ6_bitCount_0f7a4_36 (by decide) ?_
  refine v_iushr C (pc := 38) dJ6_bitCount_0f7a4_38 ?_
  refine v_iadd C (pc := 39) dJ6_bitCount_0f7a4_39 ?_
  refine v_istore_n C (pc := 40) (i := 0) (lv' := [some (.int ((((((a0 - (((Int32.toUInt32 a0 >>> (Int32.toUInt32 1 &&& Int32.toUInt32 31)).toInt32) &&& 1431655765)) &&& 858993459) + (((Int32.toUInt32 (a0 - (((Int32.toUInt32 a0 >>> (Int32.toUInt32 1 &&& Int32.toUInt32 31)).toInt32) &&& 1431655765)) >>> (Int32.toUInt32 2 &&& Int32.toUInt32 31)).toInt32) &&& 858993459)) + ((Int32.toUInt32 (((a0 - (((Int32.toUInt32 a0 >>> (Int32.toUInt32 1 &&& Int32.toUInt32 31)).toInt32) &&& 1431655765)) &&& 858993459) + (((Int32.toUInt32 (a0 - (((Int32.toUInt32 a0 >>> (Int32.toUInt32 1 &&& Int32.toUInt32 31)).toInt32) &&& 1431655765)) >>> (Int32.toUInt32 2 &&& Int32.toUInt32 31)).toInt32) &&& 858993459)) >>> (Int32.toUInt32 4 &&& Int32.toUInt32 31)).toInt32)) &&& 252645135) + ((Int32.toUInt32 (((((a0 - (((Int32.toUInt32 a0 >>> (Int32.toUInt32 1 &&& Int32.toUInt32 31)).toInt32) &&& 1431655765)) &&& 858993459) + (((Int32.toUInt32 (a0 - (((Int32.toUInt32 a0 >>> (Int32.toUInt32 1 &&& Int32.toUInt32 31)).toInt32) &&& 1431655765)) >>> (Int32.toUInt32 2 &&& Int32.toUInt32 31)).toInt32) &&& 858993459)) + ((Int32.toUInt32 (((a0 - (((Int32.toUInt32 a0 >>> (Int32.toUInt32 1 &&& Int32.toUInt32 31)).toInt32) &&& 1431655765)) &&& 858993459) + (((Int32.toUInt32 (a0 - (((Int32.toUInt32 a0 >>> (Int32.toUInt32 1 &&& Int32.toUInt32 31)).toInt32) &&& 1431655765)) >>> (Int32.toUInt32 2 &&& Int32.toUInt32 31)).toInt32) &&& 858993459)) >>> (Int32.toUInt32 4 &&& Int32.toUInt32 31)).toInt32)) &&& 252645135) >>> (Int32.toUInt32 8 &&& Int32.toUInt32 31)).toInt32)))]) dJ6_bitCount_0f7a4_40 rfl lw_b0 rfl ?_
  refine v_iload_n C (pc := 41) (i := 0) dJ6_bitCount_0f7a4_41 rfl ?_
  refine v_iload_n C (pc := 42) (i := 0) dJ6_bitCount_0f7a4_42 rfl ?_
  refine v_bipush C (pc := 43) (v := 16) dJ6_bitCount_0f7a4_43 (by decide) ?_
  refine v_iushr C (pc := 45) dJ6_bitCount_0f7a4_45 ?_
  refine v_iadd C (pc := 46) dJ6_bitCount_0f7a4_46 ?_
  refine v_istore_n C (pc := 47) (i := 0) (lv' := [some (.int (((((((a0 - (((Int32.toUInt32 a0 >>> (Int32.toUInt32 1 &&& Int32.toUInt32 31)).toInt32) &&& 1431655765)) &&& 858993459) + (((Int32.toUInt32 (a0 - (((Int32.toUInt32 a0 >>> (Int32.toUInt32 1 &&& Int32.toUInt32 31)).toInt32) &&& 1431655765)) >>> (Int32.toUInt32 2 &&& Int32.toUInt32 31)).toInt32) &&& 858993459)) + ((Int32.toUInt32 (((a0 - (((Int32.toUInt32 a0 >>> (Int32.toUInt32 1 &&& Int32.toUInt32 31)).toInt32) &&& 1431655765)) &&& 858993459) + (((Int32.toUInt32 (a0 - (((Int32.toUInt32 a0 >>> (Int32.toUInt32 1 &&& Int32.toUInt32 31)).toInt32) &&& 1431655765)) >>> (Int32.toUInt32 2 &&& Int32.toUInt32 31)).toInt32) &&& 858993459)) >>> (Int32.toUInt32 4 &&& Int32.toUInt32 31)).toInt32)) &&& 252645135) + ((Int32.toUInt32 (((((a0 - (((Int32.toUInt32 a0 >>> (Int32.toUInt32 1 &&& Int32.toUInt32 31)).toInt32) &&& 1431655765)) &&& 858993459) + (((Int32.toUInt32 (a0 - (((Int32.toUInt32 a0 >>> (Int32.toUInt32 1 &&& Int32.toUInt32 31)).toInt32) &&& 1431655765)) >>> (Int32.toUInt32 2 &&& Int32.toUInt32 31)).toInt32) &&& 858993459)) + ((Int32.toUInt32 (((a0 - (((Int32.toUInt32 a0 >>> (Int32.toUInt32 1 &&& Int32.toUInt32 31)).toInt32) &&& 1431655765)) &&& 858993459) + (((Int32.toUInt32 (a0 - (((Int32.toUInt32 a0 >>> (Int32.toUInt32 1 &&& Int32.toUInt32 31)).toInt32) &&& 1431655765)) >>> (Int32.toUInt32 2 &&& Int32.toUInt32 31)).toInt32) &&& 858993459)) >>> (Int32.toUInt32 4 &&& Int32.toUInt32 31)).toInt32)) &&& 252645135) >>> (Int32.toUInt32 8 &&& Int32.toUInt32 31)).toInt32)) + ((Int32.toUInt32 ((((((a0 - (((Int32.toUInt32 a0 >>> (Int32.toUInt32 1 &&& Int32.toUInt32 31)).toInt32) &&& 1431655765)) &&& 858993459) + (((Int32.toUInt32 (a0 - (((Int32.toUInt32 a0 >>> (Int32.toUInt32 1 &&& Int32.toUInt32 31)).toInt32) &&& 1431655765)) >>> (Int32.toUInt32 2 &&& Int32.toUInt32 31)).toInt32) &&& 858993459)) + ((Int32.toUInt32 (((a0 - (((Int32.toUInt32 a0 >>> (Int32.toUInt32 1 &&& Int32.toUInt32 31)).toInt32) &&& 1431655765)) &&& 858993459) + (((Int32.toUInt32 (a0 - (((Int32.toUInt32 a0 >>> (Int32.toUInt32 1 &&& Int32.toUInt32 31)).toInt32) &&& 1431655765)) >>> (Int32.toUInt32 2 &&& Int32.toUInt32 31)).toInt32) &&& 858993459)) >>> (Int32.toUInt32 4 &&& Int32.toUInt32 31)).toInt32)) &&& 252645135) + ((Int32.toUInt32 (((((a0 - (((Int32.toUInt32 a0 >>> (Int32.toUInt32 1 &&& Int32.toUInt32 31)).toInt32) &&& 1431655765)) &&& 858993459) + (((Int32.toUInt32 (a0 - (((Int32.toUInt32 a0 >>> (Int32.toUInt32 1 &&& Int32.toUInt32 31)).toInt32) &&& 1431655765)) >>> (Int32.toUInt32 2 &&& Int32.toUInt32 31)).toInt32) &&& 858993459)) + ((Int32.toUInt32 (((a0 - (((Int32.toUInt32 a0 >>> (Int32.toUInt32 1 &&& Int32.toUInt32 31)).toInt32) &&& 1431655765)) &&& 858993459) + (((Int32.toUInt32 (a0 - (((Int32.toUInt32 a0 >>> (Int32.toUInt32 1 &&& Int32.toUInt32 31)).toInt32) &&& 1431655765)) >>> (Int32.toUInt32 2 &&& Int32.toUInt32 31)).toInt32) &&& 858993459)) >>> (Int32.toUInt32 4 &&& Int32.toUInt32 31)).toInt32)) &&& 252645135) >>> (Int32.toUInt32 8 &&& Int32.toUInt32 31)).toInt32)) >>> (Int32.toUInt32 16 &&& Int32.toUInt32 31)).toInt32)))]) dJ6_bitCount_0f7a4_47 rfl lw_b0 rfl ?_
  refine v_iload_n C (pc := 48) (i := 0) dJ6_bitCount_0f7a4_48 rfl ?_
  refine v_bipush C (pc := 49) (v := 63) dJ6_bitCount_0f7a4_49 (by decide) ?_
  refine v_iand C (pc := 51) dJ6_bitCount_0f7a4_51 ?_
  have h := Option.some.inj h
  subst h
  exact v_pret (pc := 52) P rfl rfl (nar_int _) dJ6_bitCount_0f7a4_52
/-! X4_matesOf -/
abbrev rmX4_matesOf : Room := { frames := 2, cells := 0, slots := 0, locals := 42 }
theorem iwX4_matesOf_X4 : ∀ w ∈ u_ws RX4 TX4 13, w ∈ wsX4_matesOf := fun _ h => List.mem_cons_of_mem _ (List.mem_append_left _ (List.mem_append_right _ (h)))
theorem flX4_matesOf_11 : Cond.fieldLink RX4 11 "Chargehouse" "offenceRows" "[LChargehouse$Offence;" ∈ wsX4_matesOf := List.mem_cons_of_mem _ (List.mem_append_left _ (List.mem_append_left _ (List.mem_of_getElem? (i := 0) rfl)))
def lX4_matesOf_11 (M : hM) (o : Nat) (a2 : Option Nat) : Nat → Int32 → Int32 → Option Int32
  | 0, _ , _ => none
  | n + 1, a3, a4 =>
    (gR M 4 0 (some o)).bind fun x3 =>
    (aL M 3 x3).bind fun x4 =>
    if (x4 : Int32) ≤ a4 then (
      some a3
    ) else (
      (gR M 4 0 (some o)).bind fun x6 =>
      (aR M 3 x6 a4).bind fun x7 =>
      if a2 = none then (
        (lX4_matesOf_11 M o a2 n) a3 (a4 + 1)
      ) else (
        if x7 = none then (
          (lX4_matesOf_11 M o a2 n) a3 (a4 + 1)
        ) else (
          (hC M 3 a2).bind fun y11 =>
          (fX3_excludes M y11 a4).bind fun x10 =>
          if (x10 : Int32) = 0 then (
            (hC M 3 (some y11)).bind fun _ =>
            (fX3_isAkinTo M y11 x7).bind fun x13 =>
            if (x13 : Int32) = 0 then (
              (lX4_matesOf_11 M o a2 n) (a3 ||| (1 <<< (a4 &&& 31))) (a4 + 1)
            ) else (
              (lX4_matesOf_11 M o a2 n) a3 (a4 + 1)
            )
          ) else (
            (lX4_matesOf_11 M o a2 n) a3 (a4 + 1)
          )
        )
      )
    )
set_option maxRecDepth 100000 in
set_option maxHeartbeats 4000000 in
theorem tlX4_matesOf_11 {κ : hKx} {M : hM} {o : Nat} {r : Int32} (P : Cp κ RX4 cX4_matesOf wsX4_matesOf (some .int) (some (.int r))) (hR : kR κ = rmX4_matesOf)  {a2 : Option Nat}  : ∀ (n : Nat) (a3 : Int32) (a4 : Int32), lX4_matesOf_11 M o a2 n a3 a4 = some r → VW κ 0 0 M 11 [some (va_rf (some o)), none, some (va_rf a2), some (.int a3), some (.int a4), none] [] := by
  have C := P.1
  intro n
  induction n with
  | zero =>
    intro a3 a4 h
    unfold lX4_matesOf_11 at h
    cases h
  | succ n ih =>
    intro a3 a4 h
    unfold lX4_matesOf_11 at h
    refine v_iload C (pc := 11) (i := 4) dX4_matesOf_11 rfl ?_
    refine v_aload_n C (pc := 13) (i := 0) dX4_matesOf_13 rfl ?_
    obtain ⟨x3, e3, h⟩ := Option.bind_eq_some_iff.mp h
    refine v_getR C (pc := 14) (ci := 4) 0 iwX4_matesOf_X4 rfl (by decide) flX4_matesOf_11 e3 dX4_matesOf_14 ?_
    obtain ⟨x4, e4, h⟩ := Option.bind_eq_some_iff.mp h
    refine v_alen C (pc := 17) 3 rfl e4 dX4_matesOf_17 ?_
    refine v_icmp_ge C (pc := 18) (tgt := 70) dX4_matesOf_18 (by decide) (fun c5 => ?_) (fun c5 => ?_)
    · rw [if_pos c5] at h
      refine v_iload_n C (pc := 70) (i := 3) dX4_matesOf_70 rfl ?_
      have h := Option.some.inj h
      subst h
      exact v_pret (pc := 71) P rfl rfl (nar_int _) dX4_matesOf_71
    · rw [if_neg c5] at h
      refine v_aload_n C (pc := 21) (i := 0) dX4_matesOf_21 rfl ?_
      obtain ⟨x6, e6, h⟩ := Option.bind_eq_some_iff.mp h
      refine v_getR C (pc := 22) (ci := 4) 0 iwX4_matesOf_X4 rfl (by decide) flX4_matesOf_11 e6 dX4_matesOf_22 ?_
      refine v_iload C (pc := 25) (i := 4) dX4_matesOf_25 rfl ?_
      obtain ⟨x7, e7, h⟩ := Option.bind_eq_some_iff.mp h
      refine v_aald C (pc := 27) 3 rfl e7 dX4_matesOf_27 ?_
      refine v_astore C (pc := 28) (i := 5) (lv' := [some (va_rf (some o)), none, some (va_rf a2), some (.int a3), some (.int a4), some (va_rf x7)]) dX4_matesOf_28 rfl (lw_bi (j := 4) rfl) rfl ?_
      refine v_aload_n C (pc := 30) (i := 2) dX4_matesOf_30 rfl ?_
      refine v_ifnull C (pc := 31) (tgt := 64) dX4_matesOf_31 (by decide) (fun c8 => ?_) (fun c8 => ?_)
      · rw [if_pos c8] at h
        refine v_iinc C (pc := 64) (i := 4) (w := 1) (lv' := [some (va_rf (some o)), none, some (va_rf a2), some (.int a3), some (.int (a4 + 1)), some (va_rf x7)]) dX4_matesOf_64 rfl (by decide) rfl ?_
        refine v_goto C (pc := 67) (tgt := 11) dX4_matesOf_67 (by decide) ?_
        refine v_mask (lv' := [some (va_rf (some o)), none, some (va_rf a2), some (.int a3), some (.int (a4 + 1)), none]) [true, false, true, true, true, false] rfl rfl ?_
        exact ih _ _ h
      · rw [if_neg c8] at h
        refine v_aload C (pc := 34) (i := 5) dX4_matesOf_34 rfl ?_
        refine v_ifnull C (pc := 36) (tgt := 64) dX4_matesOf_36 (by decide) (fun c9 => ?_) (fun c9 => ?_)
        · rw [if_pos c9] at h
          refine v_iinc C (pc := 64) (i := 4) (w := 1) (lv' := [some (va_rf (some o)), none, some (va_rf a2), some (.int a3), some (.int (a4 + 1)), some (va_rf x7)]) dX4_matesOf_64 rfl (by decide) rfl ?_
          refine v_goto C (pc := 67) (tgt := 11) dX4_matesOf_67 (by decide) ?_
          refine v_mask (lv' := [some (va_rf (some o)), none, some (va_rf a2), some (.int a3), some (.int (a4 + 1)), none]) [true, false, true, true, true, false] rfl rfl ?_
          exact ih _ _ h
        · rw [if_neg c9] at h
          refine v_aload_n C (pc := 39) (i := 2) dX4_matesOf_39 rfl ?_
          refine v_iload C (pc := 40) (i := 4) dX4_matesOf_40 rfl ?_
          obtain ⟨y11, hy11, hh⟩ := Option.bind_eq_some_iff.mp h
          clear h
          obtain ⟨rfl, fsy11, hfy11⟩ := hC_inv hy11
          have h := hh
          clear hh
          obtain ⟨x10, e10, h⟩ := Option.bind_eq_some_iff.mp h
          refine v_pV C (pc := 42) (ci := 3) [.int a4] 1 (cX3_excludes_met (kl κ) (kG κ) _ e10) hfy11 rfl gX4_matesOf_X3_excludes rfl hdX3_excludes rfl rfl rfl (by rw [hR]; exact ⟨Nat.le_of_ble_eq_true rfl, Nat.le_of_ble_eq_true rfl⟩) ⟨Nat.zero_le _, Nat.zero_le _⟩ (Nat.le_of_ble_eq_true rfl) rfl dX4_matesOf_42 ?_
          refine v_if_ne C (pc := 45) (tgt := 64) dX4_matesOf_45 (by decide) (fun c12 => ?_) (fun c12 => ?_)
          · rw [if_neg c12] at h
            refine v_iinc C (pc := 64) (i := 4) (w := 1) (lv' := [some (va_rf (some o)), none, some (va_rf (some y11)), some (.int a3), some (.int (a4 + 1)), some (va_rf x7)]) dX4_matesOf_64 rfl (by decide) rfl ?_
            refine v_goto C (pc := 67) (tgt := 11) dX4_matesOf_67 (by decide) ?_
            refine v_mask (lv' := [some (va_rf (some o)), none, some (va_rf (some y11)), some (.int a3), some (.int (a4 + 1)), none]) [true, false, true, true, true, false] rfl rfl ?_
            exact ih _ _ h
          · rw [if_pos c12] at h
            refine v_aload_n C (pc := 48) (i := 2) dX4_matesOf_48 rfl ?_
            refine v_aload C (pc := 49) (i := 5) dX4_matesOf_49 rfl ?_
            obtain ⟨y14, hy14, h⟩ := Option.bind_eq_some_iff.mp h
            obtain ⟨fsy14, hfy14⟩ := hC_some hy14
            obtain ⟨x13, e13, h⟩ := Option.bind_eq_some_iff.mp h
            refine v_pV C (pc := 51) (ci := 3) [va_rf x7] 1 (cX3_isAkinTo_met (kl κ) (kG κ) _ e13) hfy14 rfl gX4_matesOf_X3_isAkinTo rfl hdX3_isAkinTo rfl rfl rfl (by rw [hR]; exact ⟨Nat.le_of_ble_eq_true rfl, Nat.le_of_ble_eq_true rfl⟩) ⟨Nat.zero_le _, Nat.zero_le _⟩ (Nat.le_of_ble_eq_true rfl) rfl dX4_matesOf_51 ?_
            refine v_if_ne C (pc := 54) (tgt := 64) dX4_matesOf_54 (by decide) (fun c15 => ?_) (fun c15 => ?_)
            · rw [if_neg c15] at h
              refine v_iinc C (pc := 64) (i := 4) (w := 1) (lv' := [some (va_rf (some o)), none, some (va_rf (some y11)), some (.int a3), some (.int (a4 + 1)), some (va_rf x7)]) dX4_matesOf_64 rfl (by decide) rfl ?_
              refine v_goto C (pc := 67) (tgt := 11) dX4_matesOf_67 (by decide) ?_
              refine v_mask (lv' := [some (va_rf (some o)), none, some (va_rf (some y11)), some (.int a3), some (.int (a4 + 1)), none]) [true, false, true, true, true, false] rfl rfl ?_
              exact ih _ _ h
            · rw [if_pos c15] at h
              refine v_iload_n C (pc := 57) (i := 3) dX4_matesOf_57 rfl ?_
              refine v_iconst C (pc := 58) (v := 1) dX4_matesOf_58 (by decide) ?_
              refine v_iload C (pc := 59) (i := 4) dX4_matesOf_59 rfl ?_
              refine v_ishl C (pc := 61) dX4_matesOf_61 ?_
              refine v_ior C (pc := 62) dX4_matesOf_62 ?_
              refine v_istore_n C (pc := 63) (i := 3) (lv' := [some (va_rf (some o)), none, some (va_rf (some y11)), some (.int (a3 ||| (1 <<< (a4 &&& 31)))), some (.int a4), some (va_rf x7)]) dX4_matesOf_63 rfl (lw_br (j := 2) rfl) rfl ?_
              refine v_iinc C (pc := 64) (i := 4) (w := 1) (lv' := [some (va_rf (some o)), none, some (va_rf (some y11)), some (.int (a3 ||| (1 <<< (a4 &&& 31)))), some (.int (a4 + 1)), some (va_rf x7)]) dX4_matesOf_64 rfl (by decide) rfl ?_
              refine v_goto C (pc := 67) (tgt := 11) dX4_matesOf_67 (by decide) ?_
              refine v_mask (lv' := [some (va_rf (some o)), none, some (va_rf (some y11)), some (.int (a3 ||| (1 <<< (a4 &&& 31)))), some (.int (a4 + 1)), none]) [true, false, true, true, true, false] rfl rfl ?_
              exact ih _ _ h
def fX4_matesOf (M : hM) (o : Nat) (a1 : Int32) : Option Int32 :=
  (hC M 4 (some o)).bind fun _ =>
  (fX4_offenceAt M o a1).bind fun x1 =>
  lX4_matesOf_11 M o x1 1000 0 0
set_option maxRecDepth 100000 in
set_option maxHeartbeats 4000000 in
theorem cX4_matesOf_met (l : Launch) (G : hG) (M : hM) {o : Nat} {a1 : Int32} {r : Int32} (h : fX4_matesOf M o a1 = some r) : hPMet l yX4_matesOf wsX4_matesOf rmX4_matesOf [.ref o, .int a1] G M (some (.int r)) := by
  refine hp_entry (own := RX4) (cc := cX4_matesOf) (maxL := 6) (ret := (some .int)) (lv := [some (va_rf (some o)), some (.int a1), none, none, none, none]) (by decide) rfl rfl (hcc rfl (hcc rfl hc0)) (Nat.le_of_ble_eq_true rfl) rfl (fun κ hG hl hR P => ?_)
  subst hG; subst hl
  unfold fX4_matesOf at h
  have C := P.1
  refine v_aload_n C (pc := 0) (i := 0) dX4_matesOf_0 rfl ?_
  refine v_iload_n C (pc := 1) (i := 1) dX4_matesOf_1 rfl ?_
  obtain ⟨y2, hy2, h⟩ := Option.bind_eq_some_iff.mp h
  obtain ⟨fsy2, hfy2⟩ := hC_some hy2
  obtain ⟨x1, e1, h⟩ := Option.bind_eq_some_iff.mp h
  refine v_pV C (pc := 2) (ci := 4) [.int a1] 1 (cX4_offenceAt_met (kl κ) (kG κ) _ e1) hfy2 rfl gX4_matesOf_X4_offenceAt rfl hdX4_offenceAt rfl rfl rfl (by rw [hR]; exact ⟨Nat.le_of_ble_eq_true rfl, Nat.le_of_ble_eq_true rfl⟩) ⟨Nat.zero_le _, Nat.zero_le _⟩ (Nat.le_of_ble_eq_true rfl) rfl dX4_matesOf_2 ?_
  refine v_astore_n C (pc := 5) (i := 2) (lv' := [some (va_rf (some o)), some (.int a1), some (va_rf x1), none, none, none]) dX4_matesOf_5 rfl (lw_bi (j := 1) rfl) rfl ?_
  refine v_iconst C (pc := 6) (v := 0) dX4_matesOf_6 (by decide) ?_
  refine v_istore_n C (pc := 7) (i := 3) (lv' := [some (va_rf (some o)), some (.int a1), some (va_rf x1), some (.int 0), none, none]) dX4_matesOf_7 rfl (lw_br (j := 2) rfl) rfl ?_
  refine v_iconst C (pc := 8) (v := 0) dX4_matesOf_8 (by decide) ?_
  refine v_istore C (pc := 9) (i := 4) (lv' := [some (va_rf (some o)), some (.int a1), some (va_rf x1), some (.int 0), some (.int 0), none]) dX4_matesOf_9 rfl (lw_bi (j := 3) rfl) rfl ?_
  refine v_mask (lv' := [some (va_rf (some o)), none, some (va_rf x1), some (.int 0), some (.int 0), none]) [true, false, true, true, true, false] rfl rfl ?_
  exact tlX4_matesOf_11 P hR  1000 _ _ h
/-! X4_isRight -/
abbrev rmX4_isRight : Room := { frames := 3, cells := 0, slots := 0, locals := 67 }
theorem iwX4_isRight_X4 : ∀ w ∈ u_ws RX4 TX4 13, w ∈ wsX4_isRight := fun _ h => List.mem_cons_of_mem _ (List.mem_append_left _ (List.mem_append_right _ (h)))
theorem flX4_isRight_11 : Cond.fieldLink RX4 11 "Chargehouse" "offenceRows" "[LChargehouse$Offence;" ∈ wsX4_isRight := List.mem_cons_of_mem _ (List.mem_append_left _ (List.mem_append_left _ (List.mem_append_left _ (List.mem_of_getElem? (i := 0) rfl))))
def lX4_isRight_28 (M : hM) (o : Nat) (a1 : Int32) : Nat → Int32 → Option Int32
  | 0, _ => none
  | n + 1, a4 =>
    (gR M 4 0 (some o)).bind fun x5 =>
    (aL M 3 x5).bind fun x6 =>
    if (x6 : Int32) ≤ a4 then (
      some 1
    ) else (
      (fX4_hasBit a1 a4).bind fun x8 =>
      if (x8 : Int32) = 0 then (
        (lX4_isRight_28 M o a1 n) (a4 + 1)
      ) else (
        (hC M 4 (some o)).bind fun _ =>
        (fX4_matesOf M o a4).bind fun x10 =>
        if (((a1 &&& ((1 <<< (a4 &&& 31)) ^^^ (-1))) &&& (x10 ^^^ (-1))) : Int32) = 0 then (
          (lX4_isRight_28 M o a1 n) (a4 + 1)
        ) else (
          some 0
        )
      )
    )
set_option maxRecDepth 100000 in
set_option maxHeartbeats 4000000 in
theorem tlX4_isRight_28 {κ : hKx} {M : hM} {o : Nat} {r : Int32} (P : Cp κ RX4 cX4_isRight wsX4_isRight (some .boolean) (some (.int r))) (hR : kR κ = rmX4_isRight)  {a1 : Int32}  : ∀ (n : Nat) (a4 : Int32), lX4_isRight_28 M o a1 n a4 = some r → VW κ 0 0 M 28 [some (va_rf (some o)), some (.int a1), none, none, some (.int a4)] [] := by
  have C := P.1
  intro n
  induction n with
  | zero =>
    intro a4 h
    unfold lX4_isRight_28 at h
    cases h
  | succ n ih =>
    intro a4 h
    unfold lX4_isRight_28 at h
    refine v_iload C (pc := 28) (i := 4) dX4_isRight_28 rfl ?_
    refine v_aload_n C (pc := 30) (i := 0) dX4_isRight_30 rfl ?_
    obtain ⟨x5, e5, h⟩ := Option.bind_eq_some_iff.mp h
    refine v_getR C (pc := 31) (ci := 4) 0 iwX4_isRight_X4 rfl (by decide) flX4_isRight_11 e5 dX4_isRight_31 ?_
    obtain ⟨x6, e6, h⟩ := Option.bind_eq_some_iff.mp h
    refine v_alen C (pc := 34) 3 rfl e6 dX4_isRight_34 ?_
    refine v_icmp_ge C (pc := 35) (tgt := 75) dX4_isRight_35 (by decide) (fun c7 => ?_) (fun c7 => ?_)
    · rw [if_pos c7] at h
      refine v_iconst C (pc := 75) (v := 1) dX4_isRight_75 (by decide) ?_
      have h := Option.some.inj h
      subst h
      exact v_pret (pc := 76) P rfl rfl (by decide +kernel) dX4_isRight_76
    · rw [if_neg c7] at h
      refine v_iload_n C (pc := 38) (i := 1) dX4_isRight_38 rfl ?_
      refine v_iload C (pc := 39) (i := 4) dX4_isRight_39 rfl ?_
      obtain ⟨x8, e8, h⟩ := Option.bind_eq_some_iff.mp h
      refine v_pS C (pc := 41) [.int a1, .int a4] 2 (cX4_hasBit_met (kl κ) (kG κ) _ e8) gX4_isRight_X4_hasBit rfl hdsX4_hasBit rfl rfl rfl (by rw [hR]; exact ⟨Nat.le_of_ble_eq_true rfl, Nat.le_of_ble_eq_true rfl⟩) ⟨Nat.zero_le _, Nat.zero_le _⟩ (Nat.le_of_ble_eq_true rfl) rfl dX4_isRight_41 ?_
      refine v_if_eq C (pc := 44) (tgt := 69) dX4_isRight_44 (by decide) (fun c9 => ?_) (fun c9 => ?_)
      · rw [if_pos c9] at h
        refine v_iinc C (pc := 69) (i := 4) (w := 1) (lv' := [some (va_rf (some o)), some (.int a1), none, none, some (.int (a4 + 1))]) dX4_isRight_69 rfl (by decide) rfl ?_
        refine v_goto C (pc := 72) (tgt := 28) dX4_isRight_72 (by decide) ?_
        exact ih _ h
      · rw [if_neg c9] at h
        refine v_iload_n C (pc := 47) (i := 1) dX4_isRight_47 rfl ?_
        refine v_iconst C (pc := 48) (v := 1) dX4_isRight_48 (by decide) ?_
        refine v_iload C (pc := 49) (i := 4) dX4_isRight_49 rfl ?_
        refine v_ishl C (pc := 51) dX4_isRight_51 ?_
        refine v_iconst C (pc := 52) (v := (-1)) dX4_isRight_52 (by decide) ?_
        refine v_ixor C (pc := 53) dX4_isRight_53 ?_
        refine v_iand C (pc := 54) dX4_isRight_54 ?_
        refine v_aload_n C (pc := 55) (i := 0) dX4_isRight_55 rfl ?_
        refine v_iload C (pc := 56) (i := 4) dX4_isRight_56 rfl ?_
        obtain ⟨y11, hy11, h⟩ := Option.bind_eq_some_iff.mp h
        obtain ⟨fsy11, hfy11⟩ := hC_some hy11
        obtain ⟨x10, e10, h⟩ := Option.bind_eq_some_iff.mp h
        refine v_pV C (pc := 58) (ci := 4) [.int a4] 1 (cX4_matesOf_met (kl κ) (kG κ) _ e10) hfy11 rfl gX4_isRight_X4_matesOf rfl hdX4_matesOf rfl rfl rfl (by rw [hR]; exact ⟨Nat.le_of_ble_eq_true rfl, Nat.le_of_ble_eq_true rfl⟩) ⟨Nat.zero_le _, Nat.zero_le _⟩ (Nat.le_of_ble_eq_true rfl) rfl dX4_isRight_58 ?_
        refine v_iconst C (pc := 61) (v := (-1)) dX4_isRight_61 (by decide) ?_
        refine v_ixor C (pc := 62) dX4_isRight_62 ?_
        refine v_iand C (pc := 63) dX4_isRight_63 ?_
        refine v_if_eq C (pc := 64) (tgt := 69) dX4_isRight_64 (by decide) (fun c12 => ?_) (fun c12 => ?_)
        · rw [if_pos c12] at h
          refine v_iinc C (pc := 69) (i := 4) (w := 1) (lv' := [some (va_rf (some o)), some (.int a1), none, none, some (.int (a4 + 1))]) dX4_isRight_69 rfl (by decide) rfl ?_
          refine v_goto C (pc := 72) (tgt := 28) dX4_isRight_72 (by decide) ?_
          exact ih _ h
        · rw [if_neg c12] at h
          refine v_iconst C (pc := 67) (v := 0) dX4_isRight_67 (by decide) ?_
          have h := Option.some.inj h
          subst h
          exact v_pret (pc := 68) P rfl rfl (by decide +kernel) dX4_isRight_68
def fX4_isRight (M : hM) (o : Nat) (a1 : Int32) (a2 : Int32) : Option Int32 :=
  (fJ6_bitCount_0f7a4 a1).bind fun x1 =>
  if (x1 : Int32) < 1 then (
    some 0
  ) else (
    if (3 : Int32) < x1 then (
      some 0
    ) else (
      if ((a1 &&& (a2 ^^^ (-1))) : Int32) = 0 then (
        lX4_isRight_28 M o a1 1000 0
      ) else (
        some 0
      )
    )
  )
set_option maxRecDepth 100000 in
set_option maxHeartbeats 4000000 in
theorem cX4_isRight_met (l : Launch) (G : hG) (M : hM) {o : Nat} {a1 : Int32} {a2 : Int32} {r : Int32} (h : fX4_isRight M o a1 a2 = some r) : hPMet l yX4_isRight wsX4_isRight rmX4_isRight [.ref o, .int a1, .int a2] G M (some (.int r)) := by
  refine hp_entry (own := RX4) (cc := cX4_isRight) (maxL := 5) (ret := (some .boolean)) (lv := [some (va_rf (some o)), some (.int a1), some (.int a2), none, none]) (by decide) rfl rfl (hcc rfl (hcc rfl (hcc rfl hc0))) (Nat.le_of_ble_eq_true rfl) rfl (fun κ hG hl hR P => ?_)
  subst hG; subst hl
  unfold fX4_isRight at h
  have C := P.1
  refine v_iload_n C (pc := 0) (i := 1) dX4_isRight_0 rfl ?_
  obtain ⟨x1, e1, h⟩ := Option.bind_eq_some_iff.mp h
  refine v_pS C (pc := 1) [.int a1] 1 (cJ6_bitCount_0f7a4_met (kl κ) (kG κ) _ e1) gX4_isRight_J6_bitCount_0f7a4 rfl hdsJ6_bitCount_0f7a4 rfl rfl rfl (by rw [hR]; exact ⟨Nat.le_of_ble_eq_true rfl, Nat.le_of_ble_eq_true rfl⟩) ⟨Nat.zero_le _, Nat.zero_le _⟩ (Nat.le_of_ble_eq_true rfl) rfl dX4_isRight_1 ?_
  refine v_istore_n C (pc := 4) (i := 3) (lv' := [some (va_rf (some o)), some (.int a1), some (.int a2), some (.int x1), none]) dX4_isRight_4 rfl (lw_bi (j := 2) rfl) rfl ?_
  refine v_iload_n C (pc := 5) (i := 3) dX4_isRight_5 rfl ?_
  refine v_iconst C (pc := 6) (v := 1) dX4_isRight_6 (by decide) ?_
  refine v_icmp_lt C (pc := 7) (tgt := 23) dX4_isRight_7 (by decide) (fun c2 => ?_) (fun c2 => ?_)
  · rw [if_pos c2] at h
    refine v_iconst C (pc := 23) (v := 0) dX4_isRight_23 (by decide) ?_
    have h := Option.some.inj h
    subst h
    exact v_pret (pc := 24) P rfl rfl (by decide +kernel) dX4_isRight_24
  · rw [if_neg c2] at h
    refine v_iload_n C (pc := 10) (i := 3) dX4_isRight_10 rfl ?_
    refine v_iconst C (pc := 11) (v := 3) dX4_isRight_11 (by decide) ?_
    refine v_icmp_gt C (pc := 12) (tgt := 23) dX4_isRight_12 (by decide) (fun c3 => ?_) (fun c3 => ?_)
    · rw [if_pos c3] at h
      refine v_iconst C (pc := 23) (v := 0) dX4_isRight_23 (by decide) ?_
      have h := Option.some.inj h
      subst h
      exact v_pret (pc := 24) P rfl rfl (by decide +kernel) dX4_isRight_24
    · rw [if_neg c3] at h
      refine v_iload_n C (pc := 15) (i := 1) dX4_isRight_15 rfl ?_
      refine v_iload_n C (pc := 16) (i := 2) dX4_isRight_16 rfl ?_
      refine v_iconst C (pc := 17) (v := (-1)) dX4_isRight_17 (by decide) ?_
      refine v_ixor C (pc := 18) dX4_isRight_18 ?_
      refine v_iand C (pc := 19) dX4_isRight_19 ?_
      refine v_if_eq C (pc := 20) (tgt := 25) dX4_isRight_20 (by decide) (fun c4 => ?_) (fun c4 => ?_)
      · rw [if_pos c4] at h
        refine v_iconst C (pc := 25) (v := 0) dX4_isRight_25 (by decide) ?_
        refine v_istore C (pc := 26) (i := 4) (lv' := [some (va_rf (some o)), some (.int a1), some (.int a2), some (.int x1), some (.int 0)]) dX4_isRight_26 rfl (lw_bi (j := 3) rfl) rfl ?_
        refine v_mask (lv' := [some (va_rf (some o)), some (.int a1), none, none, some (.int 0)]) [true, true, false, false, true] rfl rfl ?_
        exact tlX4_isRight_28 P hR  1000 _ h
      · rw [if_neg c4] at h
        refine v_iconst C (pc := 23) (v := 0) dX4_isRight_23 (by decide) ?_
        have h := Option.some.inj h
        subst h
        exact v_pret (pc := 24) P rfl rfl (by decide +kernel) dX4_isRight_24
/-! X4_gravityOf -/
abbrev rmX4_gravityOf : Room := { frames := 1, cells := 0, slots := 0, locals := 21 }
theorem iwX4_gravityOf_X3 : ∀ w ∈ u_ws RX3 TX3 4, w ∈ wsX4_gravityOf := fun _ h => List.mem_cons_of_mem _ (List.mem_append_right _ (h))
theorem iwX4_gravityOf_X4 : ∀ w ∈ u_ws RX4 TX4 13, w ∈ wsX4_gravityOf := fun _ h => List.mem_cons_of_mem _ (List.mem_append_left _ (List.mem_append_right _ (h)))
theorem flX4_gravityOf_11 : Cond.fieldLink RX4 11 "Chargehouse" "offenceRows" "[LChargehouse$Offence;" ∈ wsX4_gravityOf := List.mem_cons_of_mem _ (List.mem_append_left _ (List.mem_append_left _ (List.mem_of_getElem? (i := 0) rfl)))
theorem flX4_gravityOf_361 : Cond.fieldLink RX4 361 "Chargehouse$Offence" "gravity" "I" ∈ wsX4_gravityOf := List.mem_cons_of_mem _ (List.mem_append_left _ (List.mem_append_left _ (List.mem_of_getElem? (i := 1) rfl)))
def lX4_gravityOf_4 (M : hM) (o : Nat) (a1 : Int32) : Nat → Int32 → Int32 → Option Int32
  | 0, _ , _ => none
  | n + 1, a2, a3 =>
    (gR M 4 0 (some o)).bind fun x1 =>
    (aL M 3 x1).bind fun x2 =>
    if (x2 : Int32) ≤ a3 then (
      some a2
    ) else (
      (gR M 4 0 (some o)).bind fun x4 =>
      (aR M 3 x4 a3).bind fun x5 =>
      if x5 = none then (
        (lX4_gravityOf_4 M o a1 n) a2 (a3 + 1)
      ) else (
        (fX4_hasBit a1 a3).bind fun x7 =>
        if (x7 : Int32) = 0 then (
          (lX4_gravityOf_4 M o a1 n) a2 (a3 + 1)
        ) else (
          (gI M 3 1 x5).bind fun x9 =>
          (lX4_gravityOf_4 M o a1 n) (a2 + x9) (a3 + 1)
        )
      )
    )
set_option maxRecDepth 100000 in
set_option maxHeartbeats 4000000 in
theorem tlX4_gravityOf_4 {κ : hKx} {M : hM} {o : Nat} {r : Int32} (P : Cp κ RX4 cX4_gravityOf wsX4_gravityOf (some .int) (some (.int r))) (hR : kR κ = rmX4_gravityOf)  {a1 : Int32}  : ∀ (n : Nat) (a2 : Int32) (a3 : Int32), lX4_gravityOf_4 M o a1 n a2 a3 = some r → VW κ 0 0 M 4 [some (va_rf (some o)), some (.int a1), some (.int a2), some (.int a3), none] [] := by
  have C := P.1
  intro n
  induction n with
  | zero =>
    intro a2 a3 h
    unfold lX4_gravityOf_4 at h
    cases h
  | succ n ih =>
    intro a2 a3 h
    unfold lX4_gravityOf_4 at h
    refine v_iload_n C (pc := 4) (i := 3) dX4_gravityOf_4 rfl ?_
    refine v_aload_n C (pc := 5) (i := 0) dX4_gravityOf_5 rfl ?_
    obtain ⟨x1, e1, h⟩ := Option.bind_eq_some_iff.mp h
    refine v_getR C (pc := 6) (ci := 4) 0 iwX4_gravityOf_X4 rfl (by decide) flX4_gravityOf_11 e1 dX4_gravityOf_6 ?_
    obtain ⟨x2, e2, h⟩ := Option.bind_eq_some_iff.mp h
    refine v_alen C (pc := 9) 3 rfl e2 dX4_gravityOf_9 ?_
    refine v_icmp_ge C (pc := 10) (tgt := 48) dX4_gravityOf_10 (by decide) (fun c3 => ?_) (fun c3 => ?_)
    · rw [if_pos c3] at h
      refine v_iload_n C (pc := 48) (i := 2) dX4_gravityOf_48 rfl ?_
      have h := Option.some.inj h
      subst h
      exact v_pret (pc := 49) P rfl rfl (nar_int _) dX4_gravityOf_49
    · rw [if_neg c3] at h
      refine v_aload_n C (pc := 13) (i := 0) dX4_gravityOf_13 rfl ?_
      obtain ⟨x4, e4, h⟩ := Option.bind_eq_some_iff.mp h
      refine v_getR C (pc := 14) (ci := 4) 0 iwX4_gravityOf_X4 rfl (by decide) flX4_gravityOf_11 e4 dX4_gravityOf_14 ?_
      refine v_iload_n C (pc := 17) (i := 3) dX4_gravityOf_17 rfl ?_
      obtain ⟨x5, e5, h⟩ := Option.bind_eq_some_iff.mp h
      refine v_aald C (pc := 18) 3 rfl e5 dX4_gravityOf_18 ?_
      refine v_astore C (pc := 19) (i := 4) (lv' := [some (va_rf (some o)), some (.int a1), some (.int a2), some (.int a3), some (va_rf x5)]) dX4_gravityOf_19 rfl (lw_bi (j := 3) rfl) rfl ?_
      refine v_aload C (pc := 21) (i := 4) dX4_gravityOf_21 rfl ?_
      refine v_ifnull C (pc := 23) (tgt := 42) dX4_gravityOf_23 (by decide) (fun c6 => ?_) (fun c6 => ?_)
      · rw [if_pos c6] at h
        refine v_iinc C (pc := 42) (i := 3) (w := 1) (lv' := [some (va_rf (some o)), some (.int a1), some (.int a2), some (.int (a3 + 1)), some (va_rf x5)]) dX4_gravityOf_42 rfl (by decide) rfl ?_
        refine v_goto C (pc := 45) (tgt := 4) dX4_gravityOf_45 (by decide) ?_
        refine v_mask (lv' := [some (va_rf (some o)), some (.int a1), some (.int a2), some (.int (a3 + 1)), none]) [true, true, true, true, false] rfl rfl ?_
        exact ih _ _ h
      · rw [if_neg c6] at h
        refine v_iload_n C (pc := 26) (i := 1) dX4_gravityOf_26 rfl ?_
        refine v_iload_n C (pc := 27) (i := 3) dX4_gravityOf_27 rfl ?_
        obtain ⟨x7, e7, h⟩ := Option.bind_eq_some_iff.mp h
        refine v_pS C (pc := 28) [.int a1, .int a3] 2 (cX4_hasBit_met (kl κ) (kG κ) _ e7) gX4_gravityOf_X4_hasBit rfl hdsX4_hasBit rfl rfl rfl (by rw [hR]; exact ⟨Nat.le_of_ble_eq_true rfl, Nat.le_of_ble_eq_true rfl⟩) ⟨Nat.zero_le _, Nat.zero_le _⟩ (Nat.le_of_ble_eq_true rfl) rfl dX4_gravityOf_28 ?_
        refine v_if_eq C (pc := 31) (tgt := 42) dX4_gravityOf_31 (by decide) (fun c8 => ?_) (fun c8 => ?_)
        · rw [if_pos c8] at h
          refine v_iinc C (pc := 42) (i := 3) (w := 1) (lv' := [some (va_rf (some o)), some (.int a1), some (.int a2), some (.int (a3 + 1)), some (va_rf x5)]) dX4_gravityOf_42 rfl (by decide) rfl ?_
          refine v_goto C (pc := 45) (tgt := 4) dX4_gravityOf_45 (by decide) ?_
          refine v_mask (lv' := [some (va_rf (some o)), some (.int a1), some (.int a2), some (.int (a3 + 1)), none]) [true, true, true, true, false] rfl rfl ?_
          exact ih _ _ h
        · rw [if_neg c8] at h
          refine v_iload_n C (pc := 34) (i := 2) dX4_gravityOf_34 rfl ?_
          refine v_aload C (pc := 35) (i := 4) dX4_gravityOf_35 rfl ?_
          obtain ⟨x9, e9, h⟩ := Option.bind_eq_some_iff.mp h
          refine v_getI C (pc := 37) (ci := 3) 1 iwX4_gravityOf_X3 rfl (by decide) flX4_gravityOf_361 e9 dX4_gravityOf_37 ?_
          refine v_iadd C (pc := 40) dX4_gravityOf_40 ?_
          refine v_istore_n C (pc := 41) (i := 2) (lv' := [some (va_rf (some o)), some (.int a1), some (.int (a2 + x9)), some (.int a3), some (va_rf x5)]) dX4_gravityOf_41 rfl (lw_bi (j := 1) rfl) rfl ?_
          refine v_iinc C (pc := 42) (i := 3) (w := 1) (lv' := [some (va_rf (some o)), some (.int a1), some (.int (a2 + x9)), some (.int (a3 + 1)), some (va_rf x5)]) dX4_gravityOf_42 rfl (by decide) rfl ?_
          refine v_goto C (pc := 45) (tgt := 4) dX4_gravityOf_45 (by decide) ?_
          refine v_mask (lv' := [some (va_rf (some o)), some (.int a1), some (.int (a2 + x9)), some (.int (a3 + 1)), none]) [true, true, true, true, false] rfl rfl ?_
          exact ih _ _ h
def fX4_gravityOf (M : hM) (o : Nat) (a1 : Int32) : Option Int32 :=
  lX4_gravityOf_4 M o a1 1000 0 0
set_option maxRecDepth 100000 in
set_option maxHeartbeats 4000000 in
theorem cX4_gravityOf_met (l : Launch) (G : hG) (M : hM) {o : Nat} {a1 : Int32} {r : Int32} (h : fX4_gravityOf M o a1 = some r) : hPMet l yX4_gravityOf wsX4_gravityOf rmX4_gravityOf [.ref o, .int a1] G M (some (.int r)) := by
  refine hp_entry (own := RX4) (cc := cX4_gravityOf) (maxL := 5) (ret := (some .int)) (lv := [some (va_rf (some o)), some (.int a1), none, none, none]) (by decide) rfl rfl (hcc rfl (hcc rfl hc0)) (Nat.le_of_ble_eq_true rfl) rfl (fun κ hG hl hR P => ?_)
  subst hG; subst hl
  unfold fX4_gravityOf at h
  have C := P.1
  refine v_iconst C (pc := 0) (v := 0) dX4_gravityOf_0 (by decide) ?_
  refine v_istore_n C (pc := 1) (i := 2) (lv' := [some (va_rf (some o)), some (.int a1), some (.int 0), none, none]) dX4_gravityOf_1 rfl (lw_bi (j := 1) rfl) rfl ?_
  refine v_iconst C (pc := 2) (v := 0) dX4_gravityOf_2 (by decide) ?_
  refine v_istore_n C (pc := 3) (i := 3) (lv' := [some (va_rf (some o)), some (.int a1), some (.int 0), some (.int 0), none]) dX4_gravityOf_3 rfl (lw_bi (j := 2) rfl) rfl ?_
  exact tlX4_gravityOf_4 P hR  1000 _ _ h
/-! X4_provenCharges -/
abbrev rmX4_provenCharges : Room := { frames := 4, cells := 0, slots := 0, locals := 95 }
theorem iwX4_provenCharges_X0 : ∀ w ∈ u_ws RX0 TX0 14, w ∈ wsX4_provenCharges := fun _ h => List.mem_cons_of_mem _ (List.mem_append_left _ (List.mem_append_left _ (List.mem_append_left _ (List.mem_append_right _ (h)))))
theorem iwX4_provenCharges_X4 : ∀ w ∈ u_ws RX4 TX4 13, w ∈ wsX4_provenCharges := fun _ h => List.mem_cons_of_mem _ (List.mem_append_left _ (List.mem_append_left _ (List.mem_append_left _ (List.mem_append_left _ (List.mem_append_right _ (h))))))
theorem flX4_provenCharges_11 : Cond.fieldLink RX4 11 "Chargehouse" "offenceRows" "[LChargehouse$Offence;" ∈ wsX4_provenCharges := List.mem_cons_of_mem _ (List.mem_append_left _ (List.mem_append_left _ (List.mem_append_left _ (List.mem_append_left _ (List.mem_append_left _ (List.mem_append_left _ (List.mem_of_getElem? (i := 0) rfl)))))))
theorem flX4_provenCharges_190 : Cond.fieldLink RX4 190 "Chargehouse$Accused" "charges" "I" ∈ wsX4_provenCharges := List.mem_cons_of_mem _ (List.mem_append_left _ (List.mem_append_left _ (List.mem_append_left _ (List.mem_append_left _ (List.mem_append_left _ (List.mem_append_left _ (List.mem_of_getElem? (i := 1) rfl)))))))
theorem flX4_provenCharges_70 : Cond.fieldLink RX4 70 "Chargehouse" "today" "I" ∈ wsX4_provenCharges := List.mem_cons_of_mem _ (List.mem_append_left _ (List.mem_append_left _ (List.mem_append_left _ (List.mem_append_left _ (List.mem_append_left _ (List.mem_append_left _ (List.mem_of_getElem? (i := 2) rfl)))))))
def lX4_provenCharges_4 (M : hM) (o : Nat) (a1 : Option Nat) : Nat → Int32 → Int32 → Option Int32
  | 0, _ , _ => none
  | n + 1, a2, a3 =>
    (gR M 4 0 (some o)).bind fun x1 =>
    (aL M 3 x1).bind fun x2 =>
    if (x2 : Int32) ≤ a3 then (
      some a2
    ) else (
      (gR M 4 0 (some o)).bind fun x4 =>
      (aR M 3 x4 a3).bind fun x5 =>
      if x5 = none then (
        (lX4_provenCharges_4 M o a1 n) a2 (a3 + 1)
      ) else (
        (gI M 0 3 a1).bind fun x7 =>
        (fX4_hasBit x7 a3).bind fun x8 =>
        if (x8 : Int32) = 0 then (
          (lX4_provenCharges_4 M o a1 n) a2 (a3 + 1)
        ) else (
          (gI M 4 6 (some o)).bind fun x10 =>
          (hC M 4 (some o)).bind fun _ =>
          (fX4_hasStrength M o a1 x5 8 x10).bind fun x11 =>
          if (x11 : Int32) = 0 then (
            (lX4_provenCharges_4 M o a1 n) a2 (a3 + 1)
          ) else (
            (lX4_provenCharges_4 M o a1 n) (a2 ||| (1 <<< (a3 &&& 31))) (a3 + 1)
          )
        )
      )
    )
set_option maxRecDepth 100000 in
set_option maxHeartbeats 4000000 in
theorem tlX4_provenCharges_4 {κ : hKx} {M : hM} {o : Nat} {r : Int32} (P : Cp κ RX4 cX4_provenCharges wsX4_provenCharges (some .int) (some (.int r))) (hR : kR κ = rmX4_provenCharges)  {a1 : Option Nat}  : ∀ (n : Nat) (a2 : Int32) (a3 : Int32), lX4_provenCharges_4 M o a1 n a2 a3 = some r → VW κ 0 0 M 4 [some (va_rf (some o)), some (va_rf a1), some (.int a2), some (.int a3), none] [] := by
  have C := P.1
  intro n
  induction n with
  | zero =>
    intro a2 a3 h
    unfold lX4_provenCharges_4 at h
    cases h
  | succ n ih =>
    intro a2 a3 h
    unfold lX4_provenCharges_4 at h
    refine v_iload_n C (pc := 4) (i := 3) dX4_provenCharges_4 rfl ?_
    refine v_aload_n C (pc := 5) (i := 0) dX4_provenCharges_5 rfl ?_
    obtain ⟨x1, e1, h⟩ := Option.bind_eq_some_iff.mp h
    refine v_getR C (pc := 6) (ci := 4) 0 iwX4_provenCharges_X4 rfl (by decide) flX4_provenCharges_11 e1 dX4_provenCharges_6 ?_
    obtain ⟨x2, e2, h⟩ := Option.bind_eq_some_iff.mp h
    refine v_alen C (pc := 9) 3 rfl e2 dX4_provenCharges_9 ?_
    refine v_icmp_ge C (pc := 10) (tgt := 65) dX4_provenCharges_10 (by decide) (fun c3 => ?_) (fun c3 => ?_)
    · rw [if_pos c3] at h
      refine v_iload_n C (pc := 65) (i := 2) dX4_provenCharges_65 rfl ?_
      have h := Option.some.inj h
      subst h
      exact v_pret (pc := 66) P rfl rfl (nar_int _) dX4_provenCharges_66
    · rw [if_neg c3] at h
      refine v_aload_n C (pc := 13) (i := 0) dX4_provenCharges_13 rfl ?_
      obtain ⟨x4, e4, h⟩ := Option.bind_eq_some_iff.mp h
      refine v_getR C (pc := 14) (ci := 4) 0 iwX4_provenCharges_X4 rfl (by decide) flX4_provenCharges_11 e4 dX4_provenCharges_14 ?_
      refine v_iload_n C (pc := 17) (i := 3) dX4_provenCharges_17 rfl ?_
      obtain ⟨x5, e5, h⟩ := Option.bind_eq_some_iff.mp h
      refine v_aald C (pc := 18) 3 rfl e5 dX4_provenCharges_18 ?_
      refine v_astore C (pc := 19) (i := 4) (lv' := [some (va_rf (some o)), some (va_rf a1), some (.int a2), some (.int a3), some (va_rf x5)]) dX4_provenCharges_19 rfl (lw_bi (j := 3) rfl) rfl ?_
      refine v_aload C (pc := 21) (i := 4) dX4_provenCharges_21 rfl ?_
      refine v_ifnull C (pc := 23) (tgt := 59) dX4_provenCharges_23 (by decide) (fun c6 => ?_) (fun c6 => ?_)
      · rw [if_pos c6] at h
        refine v_iinc C (pc := 59) (i := 3) (w := 1) (lv' := [some (va_rf (some o)), some (va_rf a1), some (.int a2), some (.int (a3 + 1)), some (va_rf x5)]) dX4_provenCharges_59 rfl (by decide) rfl ?_
        refine v_goto C (pc := 62) (tgt := 4) dX4_provenCharges_62 (by decide) ?_
        refine v_mask (lv' := [some (va_rf (some o)), some (va_rf a1), some (.int a2), some (.int (a3 + 1)), none]) [true, true, true, true, false] rfl rfl ?_
        exact ih _ _ h
      · rw [if_neg c6] at h
        refine v_aload_n C (pc := 26) (i := 1) dX4_provenCharges_26 rfl ?_
        obtain ⟨x7, e7, h⟩ := Option.bind_eq_some_iff.mp h
        refine v_getI C (pc := 27) (ci := 0) 3 iwX4_provenCharges_X0 rfl (by decide) flX4_provenCharges_190 e7 dX4_provenCharges_27 ?_
        refine v_iload_n C (pc := 30) (i := 3) dX4_provenCharges_30 rfl ?_
        obtain ⟨x8, e8, h⟩ := Option.bind_eq_some_iff.mp h
        refine v_pS C (pc := 31) [.int x7, .int a3] 2 (cX4_hasBit_met (kl κ) (kG κ) _ e8) gX4_provenCharges_X4_hasBit rfl hdsX4_hasBit rfl rfl rfl (by rw [hR]; exact ⟨Nat.le_of_ble_eq_true rfl, Nat.le_of_ble_eq_true rfl⟩) ⟨Nat.zero_le _, Nat.zero_le _⟩ (Nat.le_of_ble_eq_true rfl) rfl dX4_provenCharges_31 ?_
        refine v_if_eq C (pc := 34) (tgt := 59) dX4_provenCharges_34 (by decide) (fun c9 => ?_) (fun c9 => ?_)
        · rw [if_pos c9] at h
          refine v_iinc C (pc := 59) (i := 3) (w := 1) (lv' := [some (va_rf (some o)), some (va_rf a1), some (.int a2), some (.int (a3 + 1)), some (va_rf x5)]) dX4_provenCharges_59 rfl (by decide) rfl ?_
          refine v_goto C (pc := 62) (tgt := 4) dX4_provenCharges_62 (by decide) ?_
          refine v_mask (lv' := [some (va_rf (some o)), some (va_rf a1), some (.int a2), some (.int (a3 + 1)), none]) [true, true, true, true, false] rfl rfl ?_
          exact ih _ _ h
        · rw [if_neg c9] at h
          refine v_aload_n C (pc := 37) (i := 0) dX4_provenCharges_37 rfl ?_
          refine v_aload_n C (pc := 38) (i := 1) dX4_provenCharges_38 rfl ?_
          refine v_aload C (pc := 39) (i := 4) dX4_provenCharges_39 rfl ?_
          refine v_bipush C (pc := 41) (v := 8) dX4_provenCharges_41 (by decide) ?_
          refine v_aload_n C (pc := 43) (i := 0) dX4_provenCharges_43 rfl ?_
          obtain ⟨x10, e10, h⟩ := Option.bind_eq_some_iff.mp h
          refine v_getI C (pc := 44) (ci := 4) 6 iwX4_provenCharges_X4 rfl (by decide) flX4_provenCharges_70 e10 dX4_provenCharges_44 ?_
          obtain ⟨y12, hy12, h⟩ := Option.bind_eq_some_iff.mp h
          obtain ⟨fsy12, hfy12⟩ := hC_some hy12
          obtain ⟨x11, e11, h⟩ := Option.bind_eq_some_iff.mp h
          refine v_pV C (pc := 47) (ci := 4) [va_rf a1, va_rf x5, .int 8, .int x10] 4 (cX4_hasStrength_met (kl κ) (kG κ) _ e11) hfy12 rfl gX4_provenCharges_X4_hasStrength rfl hdX4_hasStrength rfl rfl rfl (by rw [hR]; exact ⟨Nat.le_of_ble_eq_true rfl, Nat.le_of_ble_eq_true rfl⟩) ⟨Nat.zero_le _, Nat.zero_le _⟩ (Nat.le_of_ble_eq_true rfl) rfl dX4_provenCharges_47 ?_
          refine v_if_eq C (pc := 50) (tgt := 59) dX4_provenCharges_50 (by decide) (fun c13 => ?_) (fun c13 => ?_)
          · rw [if_pos c13] at h
            refine v_iinc C (pc := 59) (i := 3) (w := 1) (lv' := [some (va_rf (some o)), some (va_rf a1), some (.int a2), some (.int (a3 + 1)), some (va_rf x5)]) dX4_provenCharges_59 rfl (by decide) rfl ?_
            refine v_goto C (pc := 62) (tgt := 4) dX4_provenCharges_62 (by decide) ?_
            refine v_mask (lv' := [some (va_rf (some o)), some (va_rf a1), some (.int a2), some (.int (a3 + 1)), none]) [true, true, true, true, false] rfl rfl ?_
            exact ih _ _ h
          · rw [if_neg c13] at h
            refine v_iload_n C (pc := 53) (i := 2) dX4_provenCharges_53 rfl ?_
            refine v_iconst C (pc := 54) (v := 1) dX4_provenCharges_54 (by decide) ?_
            refine v_iload_n C (pc := 55) (i := 3) dX4_provenCharges_55 rfl ?_
            refine v_ishl C (pc := 56) dX4_provenCharges_56 ?_
            refine v_ior C (pc := 57) dX4_provenCharges_57 ?_
            refine v_istore_n C (pc := 58) (i := 2) (lv' := [some (va_rf (some o)), some (va_rf a1), some (.int (a2 ||| (1 <<< (a3 &&& 31)))), some (.int a3), some (va_rf x5)]) dX4_provenCharges_58 rfl (lw_br (j := 1) rfl) rfl ?_
            refine v_iinc C (pc := 59) (i := 3) (w := 1) (lv' := [some (va_rf (some o)), some (va_rf a1), some (.int (a2 ||| (1 <<< (a3 &&& 31)))), some (.int (a3 + 1)), some (va_rf x5)]) dX4_provenCharges_59 rfl (by decide) rfl ?_
            refine v_goto C (pc := 62) (tgt := 4) dX4_provenCharges_62 (by decide) ?_
            refine v_mask (lv' := [some (va_rf (some o)), some (va_rf a1), some (.int (a2 ||| (1 <<< (a3 &&& 31)))), some (.int (a3 + 1)), none]) [true, true, true, true, false] rfl rfl ?_
            exact ih _ _ h
def fX4_provenCharges (M : hM) (o : Nat) (a1 : Option Nat) : Option Int32 :=
  lX4_provenCharges_4 M o a1 1000 0 0
set_option maxRecDepth 100000 in
set_option maxHeartbeats 4000000 in
theorem cX4_provenCharges_met (l : Launch) (G : hG) (M : hM) {o : Nat} {a1 : Option Nat} {r : Int32} (h : fX4_provenCharges M o a1 = some r) : hPMet l yX4_provenCharges wsX4_provenCharges rmX4_provenCharges [.ref o, va_rf a1] G M (some (.int r)) := by
  refine hp_entry (own := RX4) (cc := cX4_provenCharges) (maxL := 5) (ret := (some .int)) (lv := [some (va_rf (some o)), some (va_rf a1), none, none, none]) (by decide) rfl rfl (hcc rfl (hcc (rf_cat _) hc0)) (Nat.le_of_ble_eq_true rfl) rfl (fun κ hG hl hR P => ?_)
  subst hG; subst hl
  unfold fX4_provenCharges at h
  have C := P.1
  refine v_iconst C (pc := 0) (v := 0) dX4_provenCharges_0 (by decide) ?_
  refine v_istore_n C (pc := 1) (i := 2) (lv' := [some (va_rf (some o)), some (va_rf a1), some (.int 0), none, none]) dX4_provenCharges_1 rfl (lw_br (j := 1) rfl) rfl ?_
  refine v_iconst C (pc := 2) (v := 0) dX4_provenCharges_2 (by decide) ?_
  refine v_istore_n C (pc := 3) (i := 3) (lv' := [some (va_rf (some o)), some (va_rf a1), some (.int 0), some (.int 0), none]) dX4_provenCharges_3 rfl (lw_bi (j := 2) rfl) rfl ?_
  exact tlX4_provenCharges_4 P hR  1000 _ _ h
/-! X4_discountAfter -/
abbrev rmX4_discountAfter : Room := { frames := 0, cells := 0, slots := 0, locals := 0 }
def fX4_discountAfter (a0 : Int32) : Option Int32 :=
  if (10 : Int32) < a0 then (
    if (30 : Int32) < a0 then (
      some 10
    ) else (
      some 25
    )
  ) else (
    some 33
  )
set_option maxRecDepth 100000 in
set_option maxHeartbeats 4000000 in
theorem cX4_discountAfter_met (l : Launch) (G : hG) (M : hM) {a0 : Int32} {r : Int32} (h : fX4_discountAfter a0 = some r) : hPMet l yX4_discountAfter wsX4_discountAfter rmX4_discountAfter [.int a0] G M (some (.int r)) := by
  refine hp_entry (own := RX4) (cc := cX4_discountAfter) (maxL := 1) (ret := (some .int)) (lv := [some (.int a0)]) (by decide) rfl rfl (hcc rfl hc0) (Nat.le_of_ble_eq_true rfl) rfl (fun κ hG hl hR P => ?_)
  subst hG; subst hl
  unfold fX4_discountAfter at h
  have C := P.1
  refine v_iload_n C (pc := 0) (i := 0) dX4_discountAfter_0 rfl ?_
  refine v_bipush C (pc := 1) (v := 10) dX4_discountAfter_1 (by decide) ?_
  refine v_icmp_gt C (pc := 3) (tgt := 9) dX4_discountAfter_3 (by decide) (fun c1 => ?_) (fun c1 => ?_)
  · rw [if_pos c1] at h
    refine v_iload_n C (pc := 9) (i := 0) dX4_discountAfter_9 rfl ?_
    refine v_bipush C (pc := 10) (v := 30) dX4_discountAfter_10 (by decide) ?_
    refine v_icmp_gt C (pc := 12) (tgt := 20) dX4_discountAfter_12 (by decide) (fun c2 => ?_) (fun c2 => ?_)
    · rw [if_pos c2] at h
      refine v_bipush C (pc := 20) (v := 10) dX4_discountAfter_20 (by decide) ?_
      have h := Option.some.inj h
      subst h
      exact v_pret (pc := 22) P rfl rfl (nar_int _) dX4_discountAfter_22
    · rw [if_neg c2] at h
      refine v_bipush C (pc := 15) (v := 25) dX4_discountAfter_15 (by decide) ?_
      refine v_goto C (pc := 17) (tgt := 22) dX4_discountAfter_17 (by decide) ?_
      have h := Option.some.inj h
      subst h
      exact v_pret (pc := 22) P rfl rfl (nar_int _) dX4_discountAfter_22
  · rw [if_neg c1] at h
    refine v_bipush C (pc := 6) (v := 33) dX4_discountAfter_6 (by decide) ?_
    have h := Option.some.inj h
    subst h
    exact v_pret (pc := 8) P rfl rfl (nar_int _) dX4_discountAfter_8
/-! X4_day -/
abbrev rmX4_day : Room := { frames := 0, cells := 0, slots := 0, locals := 0 }
theorem iwX4_day_X4 : ∀ w ∈ u_ws RX4 TX4 13, w ∈ wsX4_day := fun _ h => List.mem_cons_of_mem _ (List.mem_append_right _ (h))
theorem flX4_day_70 : Cond.fieldLink RX4 70 "Chargehouse" "today" "I" ∈ wsX4_day := List.mem_cons_of_mem _ (List.mem_append_left _ (List.mem_of_getElem? (i := 0) rfl))
def fX4_day (M : hM) (o : Nat)  : Option Int32 :=
  (gI M 4 6 (some o)).bind fun x1 =>
  some x1
set_option maxRecDepth 100000 in
set_option maxHeartbeats 4000000 in
theorem cX4_day_met (l : Launch) (G : hG) (M : hM) {o : Nat}  {r : Int32} (h : fX4_day M o = some r) : hPMet l yX4_day wsX4_day rmX4_day [.ref o] G M (some (.int r)) := by
  refine hp_entry (own := RX4) (cc := cX4_day) (maxL := 1) (ret := (some .int)) (lv := [some (va_rf (some o))]) (by decide) rfl rfl (hcc rfl hc0) (Nat.le_of_ble_eq_true rfl) rfl (fun κ hG hl hR P => ?_)
  subst hG; subst hl
  unfold fX4_day at h
  have C := P.1
  refine v_aload_n C (pc := 0) (i := 0) dX4_day_0 rfl ?_
  obtain ⟨x1, e1, h⟩ := Option.bind_eq_some_iff.mp h
  refine v_getI C (pc := 1) (ci := 4) 6 iwX4_day_X4 rfl (by decide) flX4_day_70 e1 dX4_day_1 ?_
  have h := Option.some.inj h
  subst h
  exact v_pret (pc := 4) P rfl rfl (nar_int _) dX4_day_4
/-! X4_nestsq -/
abbrev rmX4_nestsq : Room := { frames := 6, cells := 0, slots := 0, locals := 90 }
def fX4_nestsq (M : hM) (o : Nat) (a1 : Int32) (a2 : Int32) : Option Int32 :=
  (hC M 4 (some o)).bind fun _ =>
  (fX4_offenceAt M o a1).bind fun x1 =>
  (hC M 4 (some o)).bind fun _ =>
  (fX4_offenceAt M o a2).bind fun x3 =>
  if x1 = none then (
    none
  ) else (
    if x3 = none then (
      none
    ) else (
      (hC M 3 x1).bind fun y8 =>
      (fX3_nestsIn M y8 x3).bind fun x7 =>
      hbz x7
    )
  )
set_option maxRecDepth 100000 in
set_option maxHeartbeats 4000000 in
theorem cX4_nestsq_met (l : Launch) (G : hG) (M : hM) {o : Nat} {a1 : Int32} {a2 : Int32} {r : Int32} (h : fX4_nestsq M o a1 a2 = some r) : hPMet l yX4_nests wsX4_nests rmX4_nestsq [.ref o, .int a1, .int a2] G M (some (.int r)) := by
  refine hp_entry (own := RX4) (cc := cX4_nests) (maxL := 5) (ret := (some .boolean)) (lv := [some (va_rf (some o)), some (.int a1), some (.int a2), none, none]) (by decide) rfl rfl (hcc rfl (hcc rfl (hcc rfl hc0))) (Nat.le_of_ble_eq_true rfl) rfl (fun κ hG hl hR P => ?_)
  subst hG; subst hl
  unfold fX4_nestsq at h
  have C := P.1
  refine v_aload_n C (pc := 0) (i := 0) dX4_nests_0 rfl ?_
  refine v_iload_n C (pc := 1) (i := 1) dX4_nests_1 rfl ?_
  obtain ⟨y2, hy2, h⟩ := Option.bind_eq_some_iff.mp h
  obtain ⟨fsy2, hfy2⟩ := hC_some hy2
  obtain ⟨x1, e1, h⟩ := Option.bind_eq_some_iff.mp h
  refine v_pV C (pc := 2) (ci := 4) [.int a1] 1 (cX4_offenceAt_met (kl κ) (kG κ) _ e1) hfy2 rfl gX4_nests_X4_offenceAt rfl hdX4_offenceAt rfl rfl rfl (by rw [hR]; exact ⟨Nat.le_of_ble_eq_true rfl, Nat.le_of_ble_eq_true rfl⟩) ⟨Nat.zero_le _, Nat.zero_le _⟩ (Nat.le_of_ble_eq_true rfl) rfl dX4_nests_2 ?_
  refine v_astore_n C (pc := 5) (i := 3) (lv' := [some (va_rf (some o)), some (.int a1), some (.int a2), some (va_rf x1), none]) dX4_nests_5 rfl (lw_bi (j := 2) rfl) rfl ?_
  refine v_aload_n C (pc := 6) (i := 0) dX4_nests_6 rfl ?_
  refine v_iload_n C (pc := 7) (i := 2) dX4_nests_7 rfl ?_
  obtain ⟨y4, hy4, h⟩ := Option.bind_eq_some_iff.mp h
  obtain ⟨fsy4, hfy4⟩ := hC_some hy4
  obtain ⟨x3, e3, h⟩ := Option.bind_eq_some_iff.mp h
  refine v_pV C (pc := 8) (ci := 4) [.int a2] 1 (cX4_offenceAt_met (kl κ) (kG κ) _ e3) hfy4 rfl gX4_nests_X4_offenceAt rfl hdX4_offenceAt rfl rfl rfl (by rw [hR]; exact ⟨Nat.le_of_ble_eq_true rfl, Nat.le_of_ble_eq_true rfl⟩) ⟨Nat.zero_le _, Nat.zero_le _⟩ (Nat.le_of_ble_eq_true rfl) rfl dX4_nests_8 ?_
  refine v_astore C (pc := 11) (i := 4) (lv' := [some (va_rf (some o)), some (.int a1), some (.int a2), some (va_rf x1), some (va_rf x3)]) dX4_nests_11 rfl (lw_br (j := 3) rfl) rfl ?_
  refine v_aload_n C (pc := 13) (i := 3) dX4_nests_13 rfl ?_
  refine v_ifnull C (pc := 14) (tgt := 22) dX4_nests_14 (by decide) (fun c5 => ?_) (fun c5 => ?_)
  · rw [if_pos c5] at h
    cases h
  · rw [if_neg c5] at h
    refine v_aload C (pc := 17) (i := 4) dX4_nests_17 rfl ?_
    refine v_ifnonnull C (pc := 19) (tgt := 32) dX4_nests_19 (by decide) (fun c6 => ?_) (fun c6 => ?_)
    · rw [if_neg c6] at h
      refine v_aload_n C (pc := 32) (i := 3) dX4_nests_32 rfl ?_
      refine v_aload C (pc := 33) (i := 4) dX4_nests_33 rfl ?_
      obtain ⟨y8, hy8, hh⟩ := Option.bind_eq_some_iff.mp h
      clear h
      obtain ⟨rfl, fsy8, hfy8⟩ := hC_inv hy8
      have h := hh
      clear hh
      obtain ⟨x7, e7, h⟩ := Option.bind_eq_some_iff.mp h
      refine v_pV C (pc := 35) (ci := 3) [va_rf x3] 1 (cX3_nestsIn_met (kl κ) (kG κ) _ e7) hfy8 rfl gX4_nests_X3_nestsIn rfl hdX3_nestsIn rfl rfl rfl (by rw [hR]; exact ⟨Nat.le_of_ble_eq_true rfl, Nat.le_of_ble_eq_true rfl⟩) ⟨Nat.zero_le _, Nat.zero_le _⟩ (Nat.le_of_ble_eq_true rfl) rfl dX4_nests_35 ?_
      obtain ⟨hb, h⟩ := hbz_inv h
      subst h
      exact v_pret (pc := 38) P rfl rfl (nar_bool hb) dX4_nests_38
    · rw [if_pos c6] at h
      cases h
/-! X4_accusedAtq -/
abbrev rmX4_accusedAtq : Room := { frames := 6, cells := 0, slots := 0, locals := 90 }
def bX4_accusedAtq_19 (M : hM) (o : Nat) (s0 : Option Nat) : Option (Option Nat) :=
  if s0 = none then (
    none
  ) else (
    some s0
  )
set_option maxRecDepth 100000 in
set_option maxHeartbeats 4000000 in
theorem tbX4_accusedAtq_19 {κ : hKx} {M : hM} {o : Nat} {r : Option Nat} (P : Cp κ RX4 cX4_accusedAt wsX4_accusedAt (some (.object "Chargehouse$Accused")) (some (va_rf r))) (hR : kR κ = rmX4_accusedAtq)  {s0 : Option Nat}  (h : bX4_accusedAtq_19 M o s0 = some r) : VW κ 0 0 M 19 [none, none, none, none, none] [va_rf s0] := by
  unfold bX4_accusedAtq_19 at h
  have C := P.1
  refine v_astore C (pc := 19) (i := 4) (lv' := [none, none, none, none, some (va_rf s0)]) dX4_accusedAt_19 rfl (lw_bn (j := 3) rfl) rfl ?_
  refine v_aload C (pc := 21) (i := 4) dX4_accusedAt_21 rfl ?_
  refine v_ifnonnull C (pc := 23) (tgt := 37) dX4_accusedAt_23 (by decide) (fun c6 => ?_) (fun c6 => ?_)
  · rw [if_neg c6] at h
    refine v_aload C (pc := 37) (i := 4) dX4_accusedAt_37 rfl ?_
    have h := Option.some.inj h
    subst h
    exact v_pretR (pc := 39) P rfl rfl dX4_accusedAt_39
  · rw [if_pos c6] at h
    cases h
def fX4_accusedAtq (M : hM) (o : Nat) (a1 : Int32) (a2 : Int32) : Option (Option Nat) :=
  (hC M 4 (some o)).bind fun _ =>
  (fX4_fileAt M o a1).bind fun x1 =>
  if x1 = none then (
    bX4_accusedAtq_19 M o none
  ) else (
    (hC M 1 x1).bind fun y5 =>
    (fX1_rowOf M y5 a2).bind fun x4 =>
    bX4_accusedAtq_19 M o x4
  )
set_option maxRecDepth 100000 in
set_option maxHeartbeats 4000000 in
theorem cX4_accusedAtq_met (l : Launch) (G : hG) (M : hM) {o : Nat} {a1 : Int32} {a2 : Int32} {r : Option Nat} (h : fX4_accusedAtq M o a1 a2 = some r) : hPMet l yX4_accusedAt wsX4_accusedAt rmX4_accusedAtq [.ref o, .int a1, .int a2] G M (some (va_rf r)) := by
  refine hp_entry (own := RX4) (cc := cX4_accusedAt) (maxL := 5) (ret := (some (.object "Chargehouse$Accused"))) (lv := [some (va_rf (some o)), some (.int a1), some (.int a2), none, none]) (by decide) rfl rfl (hcc rfl (hcc rfl (hcc rfl hc0))) (Nat.le_of_ble_eq_true rfl) rfl (fun κ hG hl hR P => ?_)
  subst hG; subst hl
  unfold fX4_accusedAtq at h
  have C := P.1
  refine v_aload_n C (pc := 0) (i := 0) dX4_accusedAt_0 rfl ?_
  refine v_iload_n C (pc := 1) (i := 1) dX4_accusedAt_1 rfl ?_
  obtain ⟨y2, hy2, h⟩ := Option.bind_eq_some_iff.mp h
  obtain ⟨fsy2, hfy2⟩ := hC_some hy2
  obtain ⟨x1, e1, h⟩ := Option.bind_eq_some_iff.mp h
  refine v_pV C (pc := 2) (ci := 4) [.int a1] 1 (cX4_fileAt_met (kl κ) (kG κ) _ e1) hfy2 rfl gX4_accusedAt_X4_fileAt rfl hdX4_fileAt rfl rfl rfl (by rw [hR]; exact ⟨Nat.le_of_ble_eq_true rfl, Nat.le_of_ble_eq_true rfl⟩) ⟨Nat.zero_le _, Nat.zero_le _⟩ (Nat.le_of_ble_eq_true rfl) rfl dX4_accusedAt_2 ?_
  refine v_astore_n C (pc := 5) (i := 3) (lv' := [some (va_rf (some o)), some (.int a1), some (.int a2), some (va_rf x1), none]) dX4_accusedAt_5 rfl (lw_bi (j := 2) rfl) rfl ?_
  refine v_aload_n C (pc := 6) (i := 3) dX4_accusedAt_6 rfl ?_
  refine v_ifnonnull C (pc := 7) (tgt := 14) dX4_accusedAt_7 (by decide) (fun c3 => ?_) (fun c3 => ?_)
  · rw [if_neg c3] at h
    refine v_aload_n C (pc := 14) (i := 3) dX4_accusedAt_14 rfl ?_
    refine v_iload_n C (pc := 15) (i := 2) dX4_accusedAt_15 rfl ?_
    obtain ⟨y5, hy5, hh⟩ := Option.bind_eq_some_iff.mp h
    clear h
    obtain ⟨rfl, fsy5, hfy5⟩ := hC_inv hy5
    have h := hh
    clear hh
    obtain ⟨x4, e4, h⟩ := Option.bind_eq_some_iff.mp h
    refine v_pV C (pc := 16) (ci := 1) [.int a2] 1 (cX1_rowOf_met (kl κ) (kG κ) _ e4) hfy5 rfl gX4_accusedAt_X1_rowOf rfl hdX1_rowOf rfl rfl rfl (by rw [hR]; exact ⟨Nat.le_of_ble_eq_true rfl, Nat.le_of_ble_eq_true rfl⟩) ⟨Nat.zero_le _, Nat.zero_le _⟩ (Nat.le_of_ble_eq_true rfl) rfl dX4_accusedAt_16 ?_
    refine v_mask (lv' := [none, none, none, none, none]) [false, false, false, false, false] rfl rfl ?_
    exact tbX4_accusedAtq_19 P hR  h
  · rw [if_pos c3] at h
    refine v_null C (pc := 10) dX4_accusedAt_10 ?_
    refine v_goto C (pc := 11) (tgt := 19) dX4_accusedAt_11 (by decide) ?_
    refine v_mask (lv' := [none, none, none, none, none]) [false, false, false, false, false] rfl rfl ?_
    exact tbX4_accusedAtq_19 P hR  h
/-! X4_checkDayq -/
abbrev rmX4_checkDayq : Room := { frames := 6, cells := 0, slots := 0, locals := 90 }
theorem iwX4_checkDayq_X4 : ∀ w ∈ u_ws RX4 TX4 13, w ∈ wsX4_checkDay := fun _ h => List.mem_cons_of_mem _ (List.mem_append_left _ (List.mem_append_right _ (h)))
theorem flX4_checkDayq_70 : Cond.fieldLink RX4 70 "Chargehouse" "today" "I" ∈ wsX4_checkDay := List.mem_cons_of_mem _ (List.mem_append_left _ (List.mem_append_left _ (List.mem_of_getElem? (i := 2) rfl)))
def fX4_checkDayq (M : hM) (o : Nat) (a1 : Int32) : Option Int32 :=
  (gI M 4 6 (some o)).bind fun x1 =>
  (fX4_isWithin a1 0 x1).bind fun x2 =>
  if (x2 : Int32) = 0 then (
    none
  ) else (
    some (0 : Int32)
  )
set_option maxRecDepth 100000 in
set_option maxHeartbeats 4000000 in
theorem cX4_checkDayq_met (l : Launch) (G : hG) (M : hM) {o : Nat} {a1 : Int32} {r : Int32} (h : fX4_checkDayq M o a1 = some r) : hPMet l yX4_checkDay wsX4_checkDay rmX4_checkDayq [.ref o, .int a1] G M none := by
  refine hp_entry (own := RX4) (cc := cX4_checkDay) (maxL := 2) (ret := none) (lv := [some (va_rf (some o)), some (.int a1)]) (by decide) rfl rfl (hcc rfl (hcc rfl hc0)) (Nat.le_of_ble_eq_true rfl) rfl (fun κ hG hl hR P => ?_)
  subst hG; subst hl
  unfold fX4_checkDayq at h
  have C := P.1
  refine v_iload_n C (pc := 0) (i := 1) dX4_checkDay_0 rfl ?_
  refine v_iconst C (pc := 1) (v := 0) dX4_checkDay_1 (by decide) ?_
  refine v_aload_n C (pc := 2) (i := 0) dX4_checkDay_2 rfl ?_
  obtain ⟨x1, e1, h⟩ := Option.bind_eq_some_iff.mp h
  refine v_getI C (pc := 3) (ci := 4) 6 iwX4_checkDayq_X4 rfl (by decide) flX4_checkDayq_70 e1 dX4_checkDay_3 ?_
  obtain ⟨x2, e2, h⟩ := Option.bind_eq_some_iff.mp h
  refine v_pS C (pc := 6) [.int a1, .int 0, .int x1] 3 (cX4_isWithin_met (kl κ) (kG κ) _ e2) gX4_checkDay_X4_isWithin rfl hdsX4_isWithin rfl rfl rfl (by rw [hR]; exact ⟨Nat.le_of_ble_eq_true rfl, Nat.le_of_ble_eq_true rfl⟩) ⟨Nat.zero_le _, Nat.zero_le _⟩ (Nat.le_of_ble_eq_true rfl) rfl dX4_checkDay_6 ?_
  refine v_if_ne C (pc := 9) (tgt := 23) dX4_checkDay_9 (by decide) (fun c3 => ?_) (fun c3 => ?_)
  · rw [if_neg c3] at h
    clear h
    exact v_pretV (pc := 23) P rfl rfl dX4_checkDay_23
  · rw [if_pos c3] at h
    cases h
/-! X4_strengthq -/
abbrev rmX4_strengthq : Room := { frames := 7, cells := 0, slots := 0, locals := 114 }
def fX4_strengthq (M : hM) (o : Nat) (a1 : Int32) (a2 : Int32) (a3 : Int32) (a4 : Int32) : Option Int32 :=
  (hC M 4 (some o)).bind fun _ =>
  (fX4_accusedAtq M o a1 a2).bind fun x1 =>
  (fX4_isWithin a3 0 9).bind fun x3 =>
  if (x3 : Int32) = 0 then (
    none
  ) else (
    (hC M 4 (some o)).bind fun _ =>
    (fX4_checkDayq M o a4).bind fun x5 =>
    (hC M 4 (some o)).bind fun _ =>
    (fX4_strengthAgainst M o x1 a3 a4).bind fun x7 =>
    some x7
  )
set_option maxRecDepth 100000 in
set_option maxHeartbeats 4000000 in
theorem cX4_strengthq_met (l : Launch) (G : hG) (M : hM) {o : Nat} {a1 : Int32} {a2 : Int32} {a3 : Int32} {a4 : Int32} {r : Int32} (h : fX4_strengthq M o a1 a2 a3 a4 = some r) : hPMet l yX4_strength wsX4_strength rmX4_strengthq [.ref o, .int a1, .int a2, .int a3, .int a4] G M (some (.int r)) := by
  refine hp_entry (own := RX4) (cc := cX4_strength) (maxL := 6) (ret := (some .int)) (lv := [some (va_rf (some o)), some (.int a1), some (.int a2), some (.int a3), some (.int a4), none]) (by decide) rfl rfl (hcc rfl (hcc rfl (hcc rfl (hcc rfl (hcc rfl hc0))))) (Nat.le_of_ble_eq_true rfl) rfl (fun κ hG hl hR P => ?_)
  subst hG; subst hl
  unfold fX4_strengthq at h
  have C := P.1
  refine v_aload_n C (pc := 0) (i := 0) dX4_strength_0 rfl ?_
  refine v_iload_n C (pc := 1) (i := 1) dX4_strength_1 rfl ?_
  refine v_iload_n C (pc := 2) (i := 2) dX4_strength_2 rfl ?_
  obtain ⟨y2, hy2, h⟩ := Option.bind_eq_some_iff.mp h
  obtain ⟨fsy2, hfy2⟩ := hC_some hy2
  obtain ⟨x1, e1, h⟩ := Option.bind_eq_some_iff.mp h
  refine v_pV C (pc := 3) (ci := 4) [.int a1, .int a2] 2 (cX4_accusedAtq_met (kl κ) (kG κ) _ e1) hfy2 rfl gX4_strength_X4_accusedAt rfl hdX4_accusedAt rfl rfl rfl (by rw [hR]; exact ⟨Nat.le_of_ble_eq_true rfl, Nat.le_of_ble_eq_true rfl⟩) ⟨Nat.zero_le _, Nat.zero_le _⟩ (Nat.le_of_ble_eq_true rfl) rfl dX4_strength_3 ?_
  refine v_astore C (pc := 6) (i := 5) (lv' := [some (va_rf (some o)), some (.int a1), some (.int a2), some (.int a3), some (.int a4), some (va_rf x1)]) dX4_strength_6 rfl (lw_bi (j := 4) rfl) rfl ?_
  refine v_iload_n C (pc := 8) (i := 3) dX4_strength_8 rfl ?_
  refine v_iconst C (pc := 9) (v := 0) dX4_strength_9 (by decide) ?_
  refine v_bipush C (pc := 10) (v := 9) dX4_strength_10 (by decide) ?_
  obtain ⟨x3, e3, h⟩ := Option.bind_eq_some_iff.mp h
  refine v_pS C (pc := 12) [.int a3, .int 0, .int 9] 3 (cX4_isWithin_met (kl κ) (kG κ) _ e3) gX4_strength_X4_isWithin rfl hdsX4_isWithin rfl rfl rfl (by rw [hR]; exact ⟨Nat.le_of_ble_eq_true rfl, Nat.le_of_ble_eq_true rfl⟩) ⟨Nat.zero_le _, Nat.zero_le _⟩ (Nat.le_of_ble_eq_true rfl) rfl dX4_strength_12 ?_
  refine v_if_ne C (pc := 15) (tgt := 29) dX4_strength_15 (by decide) (fun c4 => ?_) (fun c4 => ?_)
  · rw [if_neg c4] at h
    refine v_aload_n C (pc := 29) (i := 0) dX4_strength_29 rfl ?_
    refine v_iload C (pc := 30) (i := 4) dX4_strength_30 rfl ?_
    obtain ⟨y6, hy6, h⟩ := Option.bind_eq_some_iff.mp h
    obtain ⟨fsy6, hfy6⟩ := hC_some hy6
    obtain ⟨x5, e5, h⟩ := Option.bind_eq_some_iff.mp h
    refine v_pVv C (pc := 32) (ci := 4) [.int a4] 1 (cX4_checkDayq_met (kl κ) (kG κ) _ e5) hfy6 rfl gX4_strength_X4_checkDay rfl hdX4_checkDay rfl rfl rfl (by rw [hR]; exact ⟨Nat.le_of_ble_eq_true rfl, Nat.le_of_ble_eq_true rfl⟩) ⟨Nat.zero_le _, Nat.zero_le _⟩ (Nat.le_of_ble_eq_true rfl) rfl dX4_strength_32 ?_
    refine v_aload_n C (pc := 35) (i := 0) dX4_strength_35 rfl ?_
    refine v_aload C (pc := 36) (i := 5) dX4_strength_36 rfl ?_
    refine v_iload_n C (pc := 38) (i := 3) dX4_strength_38 rfl ?_
    refine v_iload C (pc := 39) (i := 4) dX4_strength_39 rfl ?_
    obtain ⟨y8, hy8, h⟩ := Option.bind_eq_some_iff.mp h
    obtain ⟨fsy8, hfy8⟩ := hC_some hy8
    obtain ⟨x7, e7, h⟩ := Option.bind_eq_some_iff.mp h
    refine v_pV C (pc := 41) (ci := 4) [va_rf x1, .int a3, .int a4] 3 (cX4_strengthAgainst_met (kl κ) (kG κ) _ e7) hfy8 rfl gX4_strength_X4_strengthAgainst rfl hdX4_strengthAgainst rfl rfl rfl (by rw [hR]; exact ⟨Nat.le_of_ble_eq_true rfl, Nat.le_of_ble_eq_true rfl⟩) ⟨Nat.zero_le _, Nat.zero_le _⟩ (Nat.le_of_ble_eq_true rfl) rfl dX4_strength_41 ?_
    have h := Option.some.inj h
    subst h
    exact v_pret (pc := 44) P rfl rfl (nar_int _) dX4_strength_44
  · rw [if_pos c4] at h
    cases h
/-! X4_whyNotq -/
abbrev rmX4_whyNotq : Room := { frames := 7, cells := 0, slots := 0, locals := 118 }
def fX4_whyNotq (M : hM) (o : Nat) (a1 : Int32) (a2 : Int32) (a3 : Int32) (a4 : Int32) : Option Int32 :=
  (hC M 4 (some o)).bind fun _ =>
  (fX4_accusedAtq M o a1 a2).bind fun x1 =>
  (hC M 4 (some o)).bind fun _ =>
  (fX4_offenceAt M o a3).bind fun x3 =>
  if x3 = none then (
    none
  ) else (
    (hC M 4 (some o)).bind fun _ =>
    (fX4_checkDayq M o a4).bind fun x6 =>
    (hC M 4 (some o)).bind fun _ =>
    (fX4_hindrance M o x1 x3 a4).bind fun x8 =>
    some x8
  )
set_option maxRecDepth 100000 in
set_option maxHeartbeats 4000000 in
theorem cX4_whyNotq_met (l : Launch) (G : hG) (M : hM) {o : Nat} {a1 : Int32} {a2 : Int32} {a3 : Int32} {a4 : Int32} {r : Int32} (h : fX4_whyNotq M o a1 a2 a3 a4 = some r) : hPMet l yX4_whyNot wsX4_whyNot rmX4_whyNotq [.ref o, .int a1, .int a2, .int a3, .int a4] G M (some (.int r)) := by
  refine hp_entry (own := RX4) (cc := cX4_whyNot) (maxL := 7) (ret := (some .int)) (lv := [some (va_rf (some o)), some (.int a1), some (.int a2), some (.int a3), some (.int a4), none, none]) (by decide) rfl rfl (hcc rfl (hcc rfl (hcc rfl (hcc rfl (hcc rfl hc0))))) (Nat.le_of_ble_eq_true rfl) rfl (fun κ hG hl hR P => ?_)
  subst hG; subst hl
  unfold fX4_whyNotq at h
  have C := P.1
  refine v_aload_n C (pc := 0) (i := 0) dX4_whyNot_0 rfl ?_
  refine v_iload_n C (pc := 1) (i := 1) dX4_whyNot_1 rfl ?_
  refine v_iload_n C (pc := 2) (i := 2) dX4_whyNot_2 rfl ?_
  obtain ⟨y2, hy2, h⟩ := Option.bind_eq_some_iff.mp h
  obtain ⟨fsy2, hfy2⟩ := hC_some hy2
  obtain ⟨x1, e1, h⟩ := Option.bind_eq_some_iff.mp h
  refine v_pV C (pc := 3) (ci := 4) [.int a1, .int a2] 2 (cX4_accusedAtq_met (kl κ) (kG κ) _ e1) hfy2 rfl gX4_whyNot_X4_accusedAt rfl hdX4_accusedAt rfl rfl rfl (by rw [hR]; exact ⟨Nat.le_of_ble_eq_true rfl, Nat.le_of_ble_eq_true rfl⟩) ⟨Nat.zero_le _, Nat.zero_le _⟩ (Nat.le_of_ble_eq_true rfl) rfl dX4_whyNot_3 ?_
  refine v_astore C (pc := 6) (i := 5) (lv' := [some (va_rf (some o)), some (.int a1), some (.int a2), some (.int a3), some (.int a4), some (va_rf x1), none]) dX4_whyNot_6 rfl (lw_bi (j := 4) rfl) rfl ?_
  refine v_aload_n C (pc := 8) (i := 0) dX4_whyNot_8 rfl ?_
  refine v_iload_n C (pc := 9) (i := 3) dX4_whyNot_9 rfl ?_
  obtain ⟨y4, hy4, h⟩ := Option.bind_eq_some_iff.mp h
  obtain ⟨fsy4, hfy4⟩ := hC_some hy4
  obtain ⟨x3, e3, h⟩ := Option.bind_eq_some_iff.mp h
  refine v_pV C (pc := 10) (ci := 4) [.int a3] 1 (cX4_offenceAt_met (kl κ) (kG κ) _ e3) hfy4 rfl gX4_whyNot_X4_offenceAt rfl hdX4_offenceAt rfl rfl rfl (by rw [hR]; exact ⟨Nat.le_of_ble_eq_true rfl, Nat.le_of_ble_eq_true rfl⟩) ⟨Nat.zero_le _, Nat.zero_le _⟩ (Nat.le_of_ble_eq_true rfl) rfl dX4_whyNot_10 ?_
  refine v_astore C (pc := 13) (i := 6) (lv' := [some (va_rf (some o)), some (.int a1), some (.int a2), some (.int a3), some (.int a4), some (va_rf x1), some (va_rf x3)]) dX4_whyNot_13 rfl (lw_br (j := 5) rfl) rfl ?_
  refine v_aload C (pc := 15) (i := 6) dX4_whyNot_15 rfl ?_
  refine v_ifnonnull C (pc := 17) (tgt := 30) dX4_whyNot_17 (by decide) (fun c5 => ?_) (fun c5 => ?_)
  · rw [if_neg c5] at h
    refine v_aload_n C (pc := 30) (i := 0) dX4_whyNot_30 rfl ?_
    refine v_iload C (pc := 31) (i := 4) dX4_whyNot_31 rfl ?_
    obtain ⟨y7, hy7, h⟩ := Option.bind_eq_some_iff.mp h
    obtain ⟨fsy7, hfy7⟩ := hC_some hy7
    obtain ⟨x6, e6, h⟩ := Option.bind_eq_some_iff.mp h
    refine v_pVv C (pc := 33) (ci := 4) [.int a4] 1 (cX4_checkDayq_met (kl κ) (kG κ) _ e6) hfy7 rfl gX4_whyNot_X4_checkDay rfl hdX4_checkDay rfl rfl rfl (by rw [hR]; exact ⟨Nat.le_of_ble_eq_true rfl, Nat.le_of_ble_eq_true rfl⟩) ⟨Nat.zero_le _, Nat.zero_le _⟩ (Nat.le_of_ble_eq_true rfl) rfl dX4_whyNot_33 ?_
    refine v_aload_n C (pc := 36) (i := 0) dX4_whyNot_36 rfl ?_
    refine v_aload C (pc := 37) (i := 5) dX4_whyNot_37 rfl ?_
    refine v_aload C (pc := 39) (i := 6) dX4_whyNot_39 rfl ?_
    refine v_iload C (pc := 41) (i := 4) dX4_whyNot_41 rfl ?_
    obtain ⟨y9, hy9, h⟩ := Option.bind_eq_some_iff.mp h
    obtain ⟨fsy9, hfy9⟩ := hC_some hy9
    obtain ⟨x8, e8, h⟩ := Option.bind_eq_some_iff.mp h
    refine v_pV C (pc := 43) (ci := 4) [va_rf x1, va_rf x3, .int a4] 3 (cX4_hindrance_met (kl κ) (kG κ) _ e8) hfy9 rfl gX4_whyNot_X4_hindrance rfl hdX4_hindrance rfl rfl rfl (by rw [hR]; exact ⟨Nat.le_of_ble_eq_true rfl, Nat.le_of_ble_eq_true rfl⟩) ⟨Nat.zero_le _, Nat.zero_le _⟩ (Nat.le_of_ble_eq_true rfl) rfl dX4_whyNot_43 ?_
    have h := Option.some.inj h
    subst h
    exact v_pret (pc := 46) P rfl rfl (nar_int _) dX4_whyNot_46
  · rw [if_pos c5] at h
    cases h
/-! X4_better -/
abbrev rmX4_better : Room := { frames := 2, cells := 0, slots := 0, locals := 45 }
def fX4_better (M : hM) (o : Nat) (a1 : Int32) (a2 : Int32) : Option Int32 :=
  (hC M 4 (some o)).bind fun _ =>
  (fX4_gravityOf M o a2).bind fun x1 =>
  (hC M 4 (some o)).bind fun _ =>
  (fX4_gravityOf M o a1).bind fun x3 =>
  if ((x1 - x3) : Int32) = 0 then (
    (fJ6_bitCount_0f7a4 a1).bind fun x6 =>
    (fJ6_bitCount_0f7a4 a2).bind fun x7 =>
    if ((x6 - x7) : Int32) = 0 then (
      if (a1 : Int32) ≤ a2 then (
        some a1
      ) else (
        some a2
      )
    ) else (
      if ((x6 - x7) : Int32) ≤ 0 then (
        some a1
      ) else (
        some a2
      )
    )
  ) else (
    if ((x1 - x3) : Int32) ≤ 0 then (
      some a1
    ) else (
      some a2
    )
  )
set_option maxRecDepth 100000 in
set_option maxHeartbeats 4000000 in
theorem cX4_better_met (l : Launch) (G : hG) (M : hM) {o : Nat} {a1 : Int32} {a2 : Int32} {r : Int32} (h : fX4_better M o a1 a2 = some r) : hPMet l yX4_better wsX4_better rmX4_better [.ref o, .int a1, .int a2] G M (some (.int r)) := by
  refine hp_entry (own := RX4) (cc := cX4_better) (maxL := 5) (ret := (some .int)) (lv := [some (va_rf (some o)), some (.int a1), some (.int a2), none, none]) (by decide) rfl rfl (hcc rfl (hcc rfl (hcc rfl hc0))) (Nat.le_of_ble_eq_true rfl) rfl (fun κ hG hl hR P => ?_)
  subst hG; subst hl
  unfold fX4_better at h
  have C := P.1
  refine v_aload_n C (pc := 0) (i := 0) dX4_better_0 rfl ?_
  refine v_iload_n C (pc := 1) (i := 2) dX4_better_1 rfl ?_
  obtain ⟨y2, hy2, h⟩ := Option.bind_eq_some_iff.mp h
  obtain ⟨fsy2, hfy2⟩ := hC_some hy2
  obtain ⟨x1, e1, h⟩ := Option.bind_eq_some_iff.mp h
  refine v_pV C (pc := 2) (ci := 4) [.int a2] 1 (cX4_gravityOf_met (kl κ) (kG κ) _ e1) hfy2 rfl gX4_better_X4_gravityOf rfl hdX4_gravityOf rfl rfl rfl (by rw [hR]; exact ⟨Nat.le_of_ble_eq_true rfl, Nat.le_of_ble_eq_true rfl⟩) ⟨Nat.zero_le _, Nat.zero_le _⟩ (Nat.le_of_ble_eq_true rfl) rfl dX4_better_2 ?_
  refine v_aload_n C (pc := 5) (i := 0) dX4_better_5 rfl ?_
  refine v_iload_n C (pc := 6) (i := 1) dX4_better_6 rfl ?_
  obtain ⟨y4, hy4, h⟩ := Option.bind_eq_some_iff.mp h
  obtain ⟨fsy4, hfy4⟩ := hC_some hy4
  obtain ⟨x3, e3, h⟩ := Option.bind_eq_some_iff.mp h
  refine v_pV C (pc := 7) (ci := 4) [.int a1] 1 (cX4_gravityOf_met (kl κ) (kG κ) _ e3) hfy4 rfl gX4_better_X4_gravityOf rfl hdX4_gravityOf rfl rfl rfl (by rw [hR]; exact ⟨Nat.le_of_ble_eq_true rfl, Nat.le_of_ble_eq_true rfl⟩) ⟨Nat.zero_le _, Nat.zero_le _⟩ (Nat.le_of_ble_eq_true rfl) rfl dX4_better_7 ?_
  refine v_isub C (pc := 10) dX4_better_10 ?_
  refine v_istore_n C (pc := 11) (i := 3) (lv' := [some (va_rf (some o)), some (.int a1), some (.int a2), some (.int (x1 - x3)), none]) dX4_better_11 rfl (lw_bi (j := 2) rfl) rfl ?_
  refine v_iload_n C (pc := 12) (i := 3) dX4_better_12 rfl ?_
  refine v_if_eq C (pc := 13) (tgt := 26) dX4_better_13 (by decide) (fun c5 => ?_) (fun c5 => ?_)
  · rw [if_pos c5] at h
    refine v_iload_n C (pc := 26) (i := 1) dX4_better_26 rfl ?_
    obtain ⟨x6, e6, h⟩ := Option.bind_eq_some_iff.mp h
    refine v_pS C (pc := 27) [.int a1] 1 (cJ6_bitCount_0f7a4_met (kl κ) (kG κ) _ e6) gX4_better_J6_bitCount_0f7a4 rfl hdsJ6_bitCount_0f7a4 rfl rfl rfl (by rw [hR]; exact ⟨Nat.le_of_ble_eq_true rfl, Nat.le_of_ble_eq_true rfl⟩) ⟨Nat.zero_le _, Nat.zero_le _⟩ (Nat.le_of_ble_eq_true rfl) rfl dX4_better_27 ?_
    refine v_iload_n C (pc := 30) (i := 2) dX4_better_30 rfl ?_
    obtain ⟨x7, e7, h⟩ := Option.bind_eq_some_iff.mp h
    refine v_pS C (pc := 31) [.int a2] 1 (cJ6_bitCount_0f7a4_met (kl κ) (kG κ) _ e7) gX4_better_J6_bitCount_0f7a4 rfl hdsJ6_bitCount_0f7a4 rfl rfl rfl (by rw [hR]; exact ⟨Nat.le_of_ble_eq_true rfl, Nat.le_of_ble_eq_true rfl⟩) ⟨Nat.zero_le _, Nat.zero_le _⟩ (Nat.le_of_ble_eq_true rfl) rfl dX4_better_31 ?_
    refine v_isub C (pc := 34) dX4_better_34 ?_
    refine v_istore C (pc := 35) (i := 4) (lv' := [some (va_rf (some o)), some (.int a1), some (.int a2), some (.int (x1 - x3)), some (.int (x6 - x7))]) dX4_better_35 rfl (lw_bi (j := 3) rfl) rfl ?_
    refine v_iload C (pc := 37) (i := 4) dX4_better_37 rfl ?_
    refine v_if_eq C (pc := 39) (tgt := 53) dX4_better_39 (by decide) (fun c8 => ?_) (fun c8 => ?_)
    · rw [if_pos c8] at h
      refine v_iload_n C (pc := 53) (i := 2) dX4_better_53 rfl ?_
      refine v_iload_n C (pc := 54) (i := 1) dX4_better_54 rfl ?_
      refine v_icmp_ge C (pc := 55) (tgt := 62) dX4_better_55 (by decide) (fun c9 => ?_) (fun c9 => ?_)
      · rw [if_pos c9] at h
        refine v_iload_n C (pc := 62) (i := 1) dX4_better_62 rfl ?_
        have h := Option.some.inj h
        subst h
        exact v_pret (pc := 63) P rfl rfl (nar_int _) dX4_better_63
      · rw [if_neg c9] at h
        refine v_iload_n C (pc := 58) (i := 2) dX4_better_58 rfl ?_
        refine v_goto C (pc := 59) (tgt := 63) dX4_better_59 (by decide) ?_
        have h := Option.some.inj h
        subst h
        exact v_pret (pc := 63) P rfl rfl (nar_int _) dX4_better_63
    · rw [if_neg c8] at h
      refine v_iload C (pc := 42) (i := 4) dX4_better_42 rfl ?_
      refine v_if_le C (pc := 44) (tgt := 51) dX4_better_44 (by decide) (fun c10 => ?_) (fun c10 => ?_)
      · rw [if_pos c10] at h
        refine v_iload_n C (pc := 51) (i := 1) dX4_better_51 rfl ?_
        have h := Option.some.inj h
        subst h
        exact v_pret (pc := 52) P rfl rfl (nar_int _) dX4_better_52
      · rw [if_neg c10] at h
        refine v_iload_n C (pc := 47) (i := 2) dX4_better_47 rfl ?_
        refine v_goto C (pc := 48) (tgt := 52) dX4_better_48 (by decide) ?_
        have h := Option.some.inj h
        subst h
        exact v_pret (pc := 52) P rfl rfl (nar_int _) dX4_better_52
  · rw [if_neg c5] at h
    refine v_iload_n C (pc := 16) (i := 3) dX4_better_16 rfl ?_
    refine v_if_le C (pc := 17) (tgt := 24) dX4_better_17 (by decide) (fun c11 => ?_) (fun c11 => ?_)
    · rw [if_pos c11] at h
      refine v_iload_n C (pc := 24) (i := 1) dX4_better_24 rfl ?_
      have h := Option.some.inj h
      subst h
      exact v_pret (pc := 25) P rfl rfl (nar_int _) dX4_better_25
    · rw [if_neg c11] at h
      refine v_iload_n C (pc := 20) (i := 2) dX4_better_20 rfl ?_
      refine v_goto C (pc := 21) (tgt := 25) dX4_better_21 (by decide) ?_
      have h := Option.some.inj h
      subst h
      exact v_pret (pc := 25) P rfl rfl (nar_int _) dX4_better_25
/-! X4_above -/
abbrev rmX4_above : Room := { frames := 0, cells := 0, slots := 0, locals := 0 }
def fX4_above (a0 : Int32) : Option Int32 :=
  some (-(2 <<< (a0 &&& 31)))
set_option maxRecDepth 100000 in
set_option maxHeartbeats 4000000 in
theorem cX4_above_met (l : Launch) (G : hG) (M : hM) {a0 : Int32} {r : Int32} (h : fX4_above a0 = some r) : hPMet l yX4_above wsX4_above rmX4_above [.int a0] G M (some (.int r)) := by
  refine hp_entry (own := RX4) (cc := cX4_above) (maxL := 1) (ret := (some .int)) (lv := [some (.int a0)]) (by decide) rfl rfl (hcc rfl hc0) (Nat.le_of_ble_eq_true rfl) rfl (fun κ hG hl hR P => ?_)
  subst hG; subst hl
  unfold fX4_above at h
  have C := P.1
  refine v_iconst C (pc := 0) (v := 2) dX4_above_0 (by decide) ?_
  refine v_iload_n C (pc := 1) (i := 0) dX4_above_1 rfl ?_
  refine v_ishl C (pc := 2) dX4_above_2 ?_
  refine v_ineg C (pc := 3) dX4_above_3 ?_
  have h := Option.some.inj h
  subst h
  exact v_pret (pc := 4) P rfl rfl (nar_int _) dX4_above_4
/-! X4_bestWithThird -/
abbrev rmX4_bestWithThird : Room := { frames := 3, cells := 0, slots := 0, locals := 69 }
theorem iwX4_bestWithThird_X4 : ∀ w ∈ u_ws RX4 TX4 13, w ∈ wsX4_bestWithThird := fun _ h => List.mem_cons_of_mem _ (List.mem_append_left _ (List.mem_append_right _ (h)))
theorem flX4_bestWithThird_11 : Cond.fieldLink RX4 11 "Chargehouse" "offenceRows" "[LChargehouse$Offence;" ∈ wsX4_bestWithThird := List.mem_cons_of_mem _ (List.mem_append_left _ (List.mem_append_left _ (List.mem_of_getElem? (i := 0) rfl)))
def lX4_bestWithThird_6 (M : hM) (o : Nat) (a2 : Int32) (a3 : Int32) : Nat → Int32 → Int32 → Option Int32
  | 0, _ , _ => none
  | n + 1, a4, a5 =>
    (gR M 4 0 (some o)).bind fun x1 =>
    (aL M 3 x1).bind fun x2 =>
    if (x2 : Int32) ≤ a5 then (
      some a4
    ) else (
      (fX4_hasBit a3 a5).bind fun x4 =>
      if (x4 : Int32) = 0 then (
        (lX4_bestWithThird_6 M o a2 a3 n) a4 (a5 + 1)
      ) else (
        (hC M 4 (some o)).bind fun _ =>
        (fX4_better M o a4 (a2 ||| (1 <<< (a5 &&& 31)))).bind fun x6 =>
        (lX4_bestWithThird_6 M o a2 a3 n) x6 (a5 + 1)
      )
    )
set_option maxRecDepth 100000 in
set_option maxHeartbeats 4000000 in
theorem tlX4_bestWithThird_6 {κ : hKx} {M : hM} {o : Nat} {r : Int32} (P : Cp κ RX4 cX4_bestWithThird wsX4_bestWithThird (some .int) (some (.int r))) (hR : kR κ = rmX4_bestWithThird)  {a2 : Int32} {a3 : Int32}  : ∀ (n : Nat) (a4 : Int32) (a5 : Int32), lX4_bestWithThird_6 M o a2 a3 n a4 a5 = some r → VW κ 0 0 M 6 [some (va_rf (some o)), none, some (.int a2), some (.int a3), some (.int a4), some (.int a5)] [] := by
  have C := P.1
  intro n
  induction n with
  | zero =>
    intro a4 a5 h
    unfold lX4_bestWithThird_6 at h
    cases h
  | succ n ih =>
    intro a4 a5 h
    unfold lX4_bestWithThird_6 at h
    refine v_iload C (pc := 6) (i := 5) dX4_bestWithThird_6 rfl ?_
    refine v_aload_n C (pc := 8) (i := 0) dX4_bestWithThird_8 rfl ?_
    obtain ⟨x1, e1, h⟩ := Option.bind_eq_some_iff.mp h
    refine v_getR C (pc := 9) (ci := 4) 0 iwX4_bestWithThird_X4 rfl (by decide) flX4_bestWithThird_11 e1 dX4_bestWithThird_9 ?_
    obtain ⟨x2, e2, h⟩ := Option.bind_eq_some_iff.mp h
    refine v_alen C (pc := 12) 3 rfl e2 dX4_bestWithThird_12 ?_
    refine v_icmp_ge C (pc := 13) (tgt := 45) dX4_bestWithThird_13 (by decide) (fun c3 => ?_) (fun c3 => ?_)
    · rw [if_pos c3] at h
      refine v_iload C (pc := 45) (i := 4) dX4_bestWithThird_45 rfl ?_
      have h := Option.some.inj h
      subst h
      exact v_pret (pc := 47) P rfl rfl (nar_int _) dX4_bestWithThird_47
    · rw [if_neg c3] at h
      refine v_iload_n C (pc := 16) (i := 3) dX4_bestWithThird_16 rfl ?_
      refine v_iload C (pc := 17) (i := 5) dX4_bestWithThird_17 rfl ?_
      obtain ⟨x4, e4, h⟩ := Option.bind_eq_some_iff.mp h
      refine v_pS C (pc := 19) [.int a3, .int a5] 2 (cX4_hasBit_met (kl κ) (kG κ) _ e4) gX4_bestWithThird_X4_hasBit rfl hdsX4_hasBit rfl rfl rfl (by rw [hR]; exact ⟨Nat.le_of_ble_eq_true rfl, Nat.le_of_ble_eq_true rfl⟩) ⟨Nat.zero_le _, Nat.zero_le _⟩ (Nat.le_of_ble_eq_true rfl) rfl dX4_bestWithThird_19 ?_
      refine v_if_eq C (pc := 22) (tgt := 39) dX4_bestWithThird_22 (by decide) (fun c5 => ?_) (fun c5 => ?_)
      · rw [if_pos c5] at h
        refine v_iinc C (pc := 39) (i := 5) (w := 1) (lv' := [some (va_rf (some o)), none, some (.int a2), some (.int a3), some (.int a4), some (.int (a5 + 1))]) dX4_bestWithThird_39 rfl (by decide) rfl ?_
        refine v_goto C (pc := 42) (tgt := 6) dX4_bestWithThird_42 (by decide) ?_
        exact ih _ _ h
      · rw [if_neg c5] at h
        refine v_aload_n C (pc := 25) (i := 0) dX4_bestWithThird_25 rfl ?_
        refine v_iload C (pc := 26) (i := 4) dX4_bestWithThird_26 rfl ?_
        refine v_iload_n C (pc := 28) (i := 2) dX4_bestWithThird_28 rfl ?_
        refine v_iconst C (pc := 29) (v := 1) dX4_bestWithThird_29 (by decide) ?_
        refine v_iload C (pc := 30) (i := 5) dX4_bestWithThird_30 rfl ?_
        refine v_ishl C (pc := 32) dX4_bestWithThird_32 ?_
        refine v_ior C (pc := 33) dX4_bestWithThird_33 ?_
        obtain ⟨y7, hy7, h⟩ := Option.bind_eq_some_iff.mp h
        obtain ⟨fsy7, hfy7⟩ := hC_some hy7
        obtain ⟨x6, e6, h⟩ := Option.bind_eq_some_iff.mp h
        refine v_pV C (pc := 34) (ci := 4) [.int a4, .int (a2 ||| (1 <<< (a5 &&& 31)))] 2 (cX4_better_met (kl κ) (kG κ) _ e6) hfy7 rfl gX4_bestWithThird_X4_better rfl hdX4_better rfl rfl rfl (by rw [hR]; exact ⟨Nat.le_of_ble_eq_true rfl, Nat.le_of_ble_eq_true rfl⟩) ⟨Nat.zero_le _, Nat.zero_le _⟩ (Nat.le_of_ble_eq_true rfl) rfl dX4_bestWithThird_34 ?_
        refine v_istore C (pc := 37) (i := 4) (lv' := [some (va_rf (some o)), none, some (.int a2), some (.int a3), some (.int x6), some (.int a5)]) dX4_bestWithThird_37 rfl (lw_bi (j := 3) rfl) rfl ?_
        refine v_iinc C (pc := 39) (i := 5) (w := 1) (lv' := [some (va_rf (some o)), none, some (.int a2), some (.int a3), some (.int x6), some (.int (a5 + 1))]) dX4_bestWithThird_39 rfl (by decide) rfl ?_
        refine v_goto C (pc := 42) (tgt := 6) dX4_bestWithThird_42 (by decide) ?_
        exact ih _ _ h
def fX4_bestWithThird (M : hM) (o : Nat) (a1 : Int32) (a2 : Int32) (a3 : Int32) : Option Int32 :=
  lX4_bestWithThird_6 M o a2 a3 1000 a1 0
set_option maxRecDepth 100000 in
set_option maxHeartbeats 4000000 in
theorem cX4_bestWithThird_met (l : Launch) (G : hG) (M : hM) {o : Nat} {a1 : Int32} {a2 : Int32} {a3 : Int32} {r : Int32} (h : fX4_bestWithThird M o a1 a2 a3 = some r) : hPMet l yX4_bestWithThird wsX4_bestWithThird rmX4_bestWithThird [.ref o, .int a1, .int a2, .int a3] G M (some (.int r)) := by
  refine hp_entry (own := RX4) (cc := cX4_bestWithThird) (maxL := 6) (ret := (some .int)) (lv := [some (va_rf (some o)), some (.int a1), some (.int a2), some (.int a3), none, none]) (by decide) rfl rfl (hcc rfl (hcc rfl (hcc rfl (hcc rfl hc0)))) (Nat.le_of_ble_eq_true rfl) rfl (fun κ hG hl hR P => ?_)
  subst hG; subst hl
  unfold fX4_bestWithThird at h
  have C := P.1
  refine v_iload_n C (pc := 0) (i := 1) dX4_bestWithThird_0 rfl ?_
  refine v_istore C (pc := 1) (i := 4) (lv' := [some (va_rf (some o)), some (.int a1), some (.int a2), some (.int a3), some (.int a1), none]) dX4_bestWithThird_1 rfl (lw_bi (j := 3) rfl) rfl ?_
  refine v_iconst C (pc := 3) (v := 0) dX4_bestWithThird_3 (by decide) ?_
  refine v_istore C (pc := 4) (i := 5) (lv' := [some (va_rf (some o)), some (.int a1), some (.int a2), some (.int a3), some (.int a1), some (.int 0)]) dX4_bestWithThird_4 rfl (lw_bi (j := 4) rfl) rfl ?_
  refine v_mask (lv' := [some (va_rf (some o)), none, some (.int a2), some (.int a3), some (.int a1), some (.int 0)]) [true, false, true, true, true, true] rfl rfl ?_
  exact tlX4_bestWithThird_6 P hR  1000 _ _ h
/-! X4_bestWithMates -/
abbrev rmX4_bestWithMates : Room := { frames := 4, cells := 0, slots := 0, locals := 94 }
theorem iwX4_bestWithMates_X4 : ∀ w ∈ u_ws RX4 TX4 13, w ∈ wsX4_bestWithMates := fun _ h => List.mem_cons_of_mem _ (List.mem_append_left _ (List.mem_append_right _ (h)))
theorem flX4_bestWithMates_11 : Cond.fieldLink RX4 11 "Chargehouse" "offenceRows" "[LChargehouse$Offence;" ∈ wsX4_bestWithMates := List.mem_cons_of_mem _ (List.mem_append_left _ (List.mem_append_left _ (List.mem_append_left _ (List.mem_of_getElem? (i := 0) rfl))))
def lX4_bestWithMates_6 (M : hM) (o : Nat) (a2 : Int32) (a3 : Int32) : Nat → Int32 → Int32 → Option Int32
  | 0, _ , _ => none
  | n + 1, a4, a5 =>
    (gR M 4 0 (some o)).bind fun x1 =>
    (aL M 3 x1).bind fun x2 =>
    if (x2 : Int32) ≤ a5 then (
      some a4
    ) else (
      (fX4_hasBit a3 a5).bind fun x4 =>
      if (x4 : Int32) = 0 then (
        (lX4_bestWithMates_6 M o a2 a3 n) a4 (a5 + 1)
      ) else (
        (hC M 4 (some o)).bind fun _ =>
        (fX4_better M o a4 (a2 ||| (1 <<< (a5 &&& 31)))).bind fun x6 =>
        (hC M 4 (some o)).bind fun _ =>
        (fX4_matesOf M o a5).bind fun x8 =>
        (fX4_above a5).bind fun x10 =>
        (hC M 4 (some o)).bind fun _ =>
        (fX4_bestWithThird M o x6 (a2 ||| (1 <<< (a5 &&& 31))) ((a3 &&& x8) &&& x10)).bind fun x11 =>
        (lX4_bestWithMates_6 M o a2 a3 n) x11 (a5 + 1)
      )
    )
set_option maxRecDepth 100000 in
set_option maxHeartbeats 4000000 in
theorem tlX4_bestWithMates_6 {κ : hKx} {M : hM} {o : Nat} {r : Int32} (P : Cp κ RX4 cX4_bestWithMates wsX4_bestWithMates (some .int) (some (.int r))) (hR : kR κ = rmX4_bestWithMates)  {a2 : Int32} {a3 : Int32}  : ∀ (n : Nat) (a4 : Int32) (a5 : Int32), lX4_bestWithMates_6 M o a2 a3 n a4 a5 = some r → VW κ 0 0 M 6 [some (va_rf (some o)), none, some (.int a2), some (.int a3), some (.int a4), some (.int a5), none] [] := by
  have C := P.1
  intro n
  induction n with
  | zero =>
    intro a4 a5 h
    unfold lX4_bestWithMates_6 at h
    cases h
  | succ n ih =>
    intro a4 a5 h
    unfold lX4_bestWithMates_6 at h
    refine v_iload C (pc := 6) (i := 5) dX4_bestWithMates_6 rfl ?_
    refine v_aload_n C (pc := 8) (i := 0) dX4_bestWithMates_8 rfl ?_
    obtain ⟨x1, e1, h⟩ := Option.bind_eq_some_iff.mp h
    refine v_getR C (pc := 9) (ci := 4) 0 iwX4_bestWithMates_X4 rfl (by decide) flX4_bestWithMates_11 e1 dX4_bestWithMates_9 ?_
    obtain ⟨x2, e2, h⟩ := Option.bind_eq_some_iff.mp h
    refine v_alen C (pc := 12) 3 rfl e2 dX4_bestWithMates_12 ?_
    refine v_icmp_ge C (pc := 13) (tgt := 73) dX4_bestWithMates_13 (by decide) (fun c3 => ?_) (fun c3 => ?_)
    · rw [if_pos c3] at h
      refine v_iload C (pc := 73) (i := 4) dX4_bestWithMates_73 rfl ?_
      have h := Option.some.inj h
      subst h
      exact v_pret (pc := 75) P rfl rfl (nar_int _) dX4_bestWithMates_75
    · rw [if_neg c3] at h
      refine v_iload_n C (pc := 16) (i := 3) dX4_bestWithMates_16 rfl ?_
      refine v_iload C (pc := 17) (i := 5) dX4_bestWithMates_17 rfl ?_
      obtain ⟨x4, e4, h⟩ := Option.bind_eq_some_iff.mp h
      refine v_pS C (pc := 19) [.int a3, .int a5] 2 (cX4_hasBit_met (kl κ) (kG κ) _ e4) gX4_bestWithMates_X4_hasBit rfl hdsX4_hasBit rfl rfl rfl (by rw [hR]; exact ⟨Nat.le_of_ble_eq_true rfl, Nat.le_of_ble_eq_true rfl⟩) ⟨Nat.zero_le _, Nat.zero_le _⟩ (Nat.le_of_ble_eq_true rfl) rfl dX4_bestWithMates_19 ?_
      refine v_if_eq C (pc := 22) (tgt := 67) dX4_bestWithMates_22 (by decide) (fun c5 => ?_) (fun c5 => ?_)
      · rw [if_pos c5] at h
        refine v_iinc C (pc := 67) (i := 5) (w := 1) (lv' := [some (va_rf (some o)), none, some (.int a2), some (.int a3), some (.int a4), some (.int (a5 + 1)), none]) dX4_bestWithMates_67 rfl (by decide) rfl ?_
        refine v_goto C (pc := 70) (tgt := 6) dX4_bestWithMates_70 (by decide) ?_
        exact ih _ _ h
      · rw [if_neg c5] at h
        refine v_iload_n C (pc := 25) (i := 2) dX4_bestWithMates_25 rfl ?_
        refine v_iconst C (pc := 26) (v := 1) dX4_bestWithMates_26 (by decide) ?_
        refine v_iload C (pc := 27) (i := 5) dX4_bestWithMates_27 rfl ?_
        refine v_ishl C (pc := 29) dX4_bestWithMates_29 ?_
        refine v_ior C (pc := 30) dX4_bestWithMates_30 ?_
        refine v_istore C (pc := 31) (i := 6) (lv' := [some (va_rf (some o)), none, some (.int a2), some (.int a3), some (.int a4), some (.int a5), some (.int (a2 ||| (1 <<< (a5 &&& 31))))]) dX4_bestWithMates_31 rfl (lw_bi (j := 5) rfl) rfl ?_
        refine v_aload_n C (pc := 33) (i := 0) dX4_bestWithMates_33 rfl ?_
        refine v_iload C (pc := 34) (i := 4) dX4_bestWithMates_34 rfl ?_
        refine v_iload C (pc := 36) (i := 6) dX4_bestWithMates_36 rfl ?_
        obtain ⟨y7, hy7, h⟩ := Option.bind_eq_some_iff.mp h
        obtain ⟨fsy7, hfy7⟩ := hC_some hy7
        obtain ⟨x6, e6, h⟩ := Option.bind_eq_some_iff.mp h
        refine v_pV C (pc := 38) (ci := 4) [.int a4, .int (a2 ||| (1 <<< (a5 &&& 31)))] 2 (cX4_better_met (kl κ) (kG κ) _ e6) hfy7 rfl gX4_bestWithMates_X4_better rfl hdX4_better rfl rfl rfl (by rw [hR]; exact ⟨Nat.le_of_ble_eq_true rfl, Nat.le_of_ble_eq_true rfl⟩) ⟨Nat.zero_le _, Nat.zero_le _⟩ (Nat.le_of_ble_eq_true rfl) rfl dX4_bestWithMates_38 ?_
        refine v_istore C (pc := 41) (i := 4) (lv' := [some (va_rf (some o)), none, some (.int a2), some (.int a3), some (.int x6), some (.int a5), some (.int (a2 ||| (1 <<< (a5 &&& 31))))]) dX4_bestWithMates_41 rfl (lw_bi (j := 3) rfl) rfl ?_
        refine v_aload_n C (pc := 43) (i := 0) dX4_bestWithMates_43 rfl ?_
        refine v_iload C (pc := 44) (i := 4) dX4_bestWithMates_44 rfl ?_
        refine v_iload C (pc := 46) (i := 6) dX4_bestWithMates_46 rfl ?_
        refine v_iload_n C (pc := 48) (i := 3) dX4_bestWithMates_48 rfl ?_
        refine v_aload_n C (pc := 49) (i := 0) dX4_bestWithMates_49 rfl ?_
        refine v_iload C (pc := 50) (i := 5) dX4_bestWithMates_50 rfl ?_
        obtain ⟨y9, hy9, h⟩ := Option.bind_eq_some_iff.mp h
        obtain ⟨fsy9, hfy9⟩ := hC_some hy9
        obtain ⟨x8, e8, h⟩ := Option.bind_eq_some_iff.mp h
        refine v_pV C (pc := 52) (ci := 4) [.int a5] 1 (cX4_matesOf_met (kl κ) (kG κ) _ e8) hfy9 rfl gX4_bestWithMates_X4_matesOf rfl hdX4_matesOf rfl rfl rfl (by rw [hR]; exact ⟨Nat.le_of_ble_eq_true rfl, Nat.le_of_ble_eq_true rfl⟩) ⟨Nat.zero_le _, Nat.zero_le _⟩ (Nat.le_of_ble_eq_true rfl) rfl dX4_bestWithMates_52 ?_
        refine v_iand C (pc := 55) dX4_bestWithMates_55 ?_
        refine v_iload C (pc := 56) (i := 5) dX4_bestWithMates_56 rfl ?_
        obtain ⟨x10, e10, h⟩ := Option.bind_eq_some_iff.mp h
        refine v_pS C (pc := 58) [.int a5] 1 (cX4_above_met (kl κ) (kG κ) _ e10) gX4_bestWithMates_X4_above rfl hdsX4_above rfl rfl rfl (by rw [hR]; exact ⟨Nat.le_of_ble_eq_true rfl, Nat.le_of_ble_eq_true rfl⟩) ⟨Nat.zero_le _, Nat.zero_le _⟩ (Nat.le_of_ble_eq_true rfl) rfl dX4_bestWithMates_58 ?_
        refine v_iand C (pc := 61) dX4_bestWithMates_61 ?_
        obtain ⟨y12, hy12, h⟩ := Option.bind_eq_some_iff.mp h
        obtain ⟨fsy12, hfy12⟩ := hC_some hy12
        obtain ⟨x11, e11, h⟩ := Option.bind_eq_some_iff.mp h
        refine v_pV C (pc := 62) (ci := 4) [.int x6, .int (a2 ||| (1 <<< (a5 &&& 31))), .int ((a3 &&& x8) &&& x10)] 3 (cX4_bestWithThird_met (kl κ) (kG κ) _ e11) hfy12 rfl gX4_bestWithMates_X4_bestWithThird rfl hdX4_bestWithThird rfl rfl rfl (by rw [hR]; exact ⟨Nat.le_of_ble_eq_true rfl, Nat.le_of_ble_eq_true rfl⟩) ⟨Nat.zero_le _, Nat.zero_le _⟩ (Nat.le_of_ble_eq_true rfl) rfl dX4_bestWithMates_62 ?_
        refine v_istore C (pc := 65) (i := 4) (lv' := [some (va_rf (some o)), none, some (.int a2), some (.int a3), some (.int x11), some (.int a5), some (.int (a2 ||| (1 <<< (a5 &&& 31))))]) dX4_bestWithMates_65 rfl (lw_bi (j := 3) rfl) rfl ?_
        refine v_iinc C (pc := 67) (i := 5) (w := 1) (lv' := [some (va_rf (some o)), none, some (.int a2), some (.int a3), some (.int x11), some (.int (a5 + 1)), some (.int (a2 ||| (1 <<< (a5 &&& 31))))]) dX4_bestWithMates_67 rfl (by decide) rfl ?_
        refine v_goto C (pc := 70) (tgt := 6) dX4_bestWithMates_70 (by decide) ?_
        refine v_mask (lv' := [some (va_rf (some o)), none, some (.int a2), some (.int a3), some (.int x11), some (.int (a5 + 1)), none]) [true, false, true, true, true, true, false] rfl rfl ?_
        exact ih _ _ h
def fX4_bestWithMates (M : hM) (o : Nat) (a1 : Int32) (a2 : Int32) (a3 : Int32) : Option Int32 :=
  lX4_bestWithMates_6 M o a2 a3 1000 a1 0
set_option maxRecDepth 100000 in
set_option maxHeartbeats 4000000 in
theorem cX4_bestWithMates_met (l : Launch) (G : hG) (M : hM) {o : Nat} {a1 : Int32} {a2 : Int32} {a3 : Int32} {r : Int32} (h : fX4_bestWithMates M o a1 a2 a3 = some r) : hPMet l yX4_bestWithMates wsX4_bestWithMates rmX4_bestWithMates [.ref o, .int a1, .int a2, .int a3] G M (some (.int r)) := by
  refine hp_entry (own := RX4) (cc := cX4_bestWithMates) (maxL := 7) (ret := (some .int)) (lv := [some (va_rf (some o)), some (.int a1), some (.int a2), some (.int a3), none, none, none]) (by decide) rfl rfl (hcc rfl (hcc rfl (hcc rfl (hcc rfl hc0)))) (Nat.le_of_ble_eq_true rfl) rfl (fun κ hG hl hR P => ?_)
  subst hG; subst hl
  unfold fX4_bestWithMates at h
  have C := P.1
  refine v_iload_n C (pc := 0) (i := 1) dX4_bestWithMates_0 rfl ?_
  refine v_istore C (pc := 1) (i := 4) (lv' := [some (va_rf (some o)), some (.int a1), some (.int a2), some (.int a3), some (.int a1), none, none]) dX4_bestWithMates_1 rfl (lw_bi (j := 3) rfl) rfl ?_
  refine v_iconst C (pc := 3) (v := 0) dX4_bestWithMates_3 (by decide) ?_
  refine v_istore C (pc := 4) (i := 5) (lv' := [some (va_rf (some o)), some (.int a1), some (.int a2), some (.int a3), some (.int a1), some (.int 0), none]) dX4_bestWithMates_4 rfl (lw_bi (j := 4) rfl) rfl ?_
  refine v_mask (lv' := [some (va_rf (some o)), none, some (.int a2), some (.int a3), some (.int a1), some (.int 0), none]) [true, false, true, true, true, true, false] rfl rfl ?_
  exact tlX4_bestWithMates_6 P hR  1000 _ _ h
/-! X4_bestByGrowing -/
abbrev rmX4_bestByGrowing : Room := { frames := 5, cells := 0, slots := 0, locals := 120 }
theorem iwX4_bestByGrowing_X4 : ∀ w ∈ u_ws RX4 TX4 13, w ∈ wsX4_bestByGrowing := fun _ h => List.mem_cons_of_mem _ (List.mem_append_left _ (List.mem_append_right _ (h)))
theorem flX4_bestByGrowing_11 : Cond.fieldLink RX4 11 "Chargehouse" "offenceRows" "[LChargehouse$Offence;" ∈ wsX4_bestByGrowing := List.mem_cons_of_mem _ (List.mem_append_left _ (List.mem_append_left _ (List.mem_append_left _ (List.mem_of_getElem? (i := 0) rfl))))
def lX4_bestByGrowing_4 (M : hM) (o : Nat) (a1 : Int32) : Nat → Int32 → Int32 → Option Int32
  | 0, _ , _ => none
  | n + 1, a2, a3 =>
    (gR M 4 0 (some o)).bind fun x1 =>
    (aL M 3 x1).bind fun x2 =>
    if (x2 : Int32) ≤ a3 then (
      some a2
    ) else (
      (fX4_hasBit a1 a3).bind fun x4 =>
      if (x4 : Int32) = 0 then (
        (lX4_bestByGrowing_4 M o a1 n) a2 (a3 + 1)
      ) else (
        (hC M 4 (some o)).bind fun _ =>
        (fX4_better M o a2 (1 <<< (a3 &&& 31))).bind fun x6 =>
        (hC M 4 (some o)).bind fun _ =>
        (fX4_matesOf M o a3).bind fun x8 =>
        (fX4_above a3).bind fun x10 =>
        (hC M 4 (some o)).bind fun _ =>
        (fX4_bestWithMates M o x6 (1 <<< (a3 &&& 31)) ((a1 &&& x8) &&& x10)).bind fun x11 =>
        (lX4_bestByGrowing_4 M o a1 n) x11 (a3 + 1)
      )
    )
set_option maxRecDepth 100000 in
set_option maxHeartbeats 4000000 in
theorem tlX4_bestByGrowing_4 {κ : hKx} {M : hM} {o : Nat} {r : Int32} (P : Cp κ RX4 cX4_bestByGrowing wsX4_bestByGrowing (some .int) (some (.int r))) (hR : kR κ = rmX4_bestByGrowing)  {a1 : Int32}  : ∀ (n : Nat) (a2 : Int32) (a3 : Int32), lX4_bestByGrowing_4 M o a1 n a2 a3 = some r → VW κ 0 0 M 4 [some (va_rf (some o)), some (.int a1), some (.int a2), some (.int a3), none] [] := by
  have C := P.1
  intro n
  induction n with
  | zero =>
    intro a2 a3 h
    unfold lX4_bestByGrowing_4 at h
    cases h
  | succ n ih =>
    intro a2 a3 h
    unfold lX4_bestByGrowing_4 at h
    refine v_iload_n C (pc := 4) (i := 3) dX4_bestByGrowing_4 rfl ?_
    refine v_aload_n C (pc := 5) (i := 0) dX4_bestByGrowing_5 rfl ?_
    obtain ⟨x1, e1, h⟩ := Option.bind_eq_some_iff.mp h
    refine v_getR C (pc := 6) (ci := 4) 0 iwX4_bestByGrowing_X4 rfl (by decide) flX4_bestByGrowing_11 e1 dX4_bestByGrowing_6 ?_
    obtain ⟨x2, e2, h⟩ := Option.bind_eq_some_iff.mp h
    refine v_alen C (pc := 9) 3 rfl e2 dX4_bestByGrowing_9 ?_
    refine v_icmp_ge C (pc := 10) (tgt := 60) dX4_bestByGrowing_10 (by decide) (fun c3 => ?_) (fun c3 => ?_)
    · rw [if_pos c3] at h
      refine v_iload_n C (pc := 60) (i := 2) dX4_bestByGrowing_60 rfl ?_
      have h := Option.some.inj h
      subst h
      exact v_pret (pc := 61) P rfl rfl (nar_int _) dX4_bestByGrowing_61
    · rw [if_neg c3] at h
      refine v_iload_n C (pc := 13) (i := 1) dX4_bestByGrowing_13 rfl ?_
      refine v_iload_n C (pc := 14) (i := 3) dX4_bestByGrowing_14 rfl ?_
      obtain ⟨x4, e4, h⟩ := Option.bind_eq_some_iff.mp h
      refine v_pS C (pc := 15) [.int a1, .int a3] 2 (cX4_hasBit_met (kl κ) (kG κ) _ e4) gX4_bestByGrowing_X4_hasBit rfl hdsX4_hasBit rfl rfl rfl (by rw [hR]; exact ⟨Nat.le_of_ble_eq_true rfl, Nat.le_of_ble_eq_true rfl⟩) ⟨Nat.zero_le _, Nat.zero_le _⟩ (Nat.le_of_ble_eq_true rfl) rfl dX4_bestByGrowing_15 ?_
      refine v_if_eq C (pc := 18) (tgt := 54) dX4_bestByGrowing_18 (by decide) (fun c5 => ?_) (fun c5 => ?_)
      · rw [if_pos c5] at h
        refine v_iinc C (pc := 54) (i := 3) (w := 1) (lv' := [some (va_rf (some o)), some (.int a1), some (.int a2), some (.int (a3 + 1)), none]) dX4_bestByGrowing_54 rfl (by decide) rfl ?_
        refine v_goto C (pc := 57) (tgt := 4) dX4_bestByGrowing_57 (by decide) ?_
        exact ih _ _ h
      · rw [if_neg c5] at h
        refine v_iconst C (pc := 21) (v := 1) dX4_bestByGrowing_21 (by decide) ?_
        refine v_iload_n C (pc := 22) (i := 3) dX4_bestByGrowing_22 rfl ?_
        refine v_ishl C (pc := 23) dX4_bestByGrowing_23 ?_
        refine v_istore C (pc := 24) (i := 4) (lv' := [some (va_rf (some o)), some (.int a1), some (.int a2), some (.int a3), some (.int (1 <<< (a3 &&& 31)))]) dX4_bestByGrowing_24 rfl (lw_bi (j := 3) rfl) rfl ?_
        refine v_aload_n C (pc := 26) (i := 0) dX4_bestByGrowing_26 rfl ?_
        refine v_iload_n C (pc := 27) (i := 2) dX4_bestByGrowing_27 rfl ?_
        refine v_iload C (pc := 28) (i := 4) dX4_bestByGrowing_28 rfl ?_
        obtain ⟨y7, hy7, h⟩ := Option.bind_eq_some_iff.mp h
        obtain ⟨fsy7, hfy7⟩ := hC_some hy7
        obtain ⟨x6, e6, h⟩ := Option.bind_eq_some_iff.mp h
        refine v_pV C (pc := 30) (ci := 4) [.int a2, .int (1 <<< (a3 &&& 31))] 2 (cX4_better_met (kl κ) (kG κ) _ e6) hfy7 rfl gX4_bestByGrowing_X4_better rfl hdX4_better rfl rfl rfl (by rw [hR]; exact ⟨Nat.le_of_ble_eq_true rfl, Nat.le_of_ble_eq_true rfl⟩) ⟨Nat.zero_le _, Nat.zero_le _⟩ (Nat.le_of_ble_eq_true rfl) rfl dX4_bestByGrowing_30 ?_
        refine v_istore_n C (pc := 33) (i := 2) (lv' := [some (va_rf (some o)), some (.int a1), some (.int x6), some (.int a3), some (.int (1 <<< (a3 &&& 31)))]) dX4_bestByGrowing_33 rfl (lw_bi (j := 1) rfl) rfl ?_
        refine v_aload_n C (pc := 34) (i := 0) dX4_bestByGrowing_34 rfl ?_
        refine v_iload_n C (pc := 35) (i := 2) dX4_bestByGrowing_35 rfl ?_
        refine v_iload C (pc := 36) (i := 4) dX4_bestByGrowing_36 rfl ?_
        refine v_iload_n C (pc := 38) (i := 1) dX4_bestByGrowing_38 rfl ?_
        refine v_aload_n C (pc := 39) (i := 0) dX4_bestByGrowing_39 rfl ?_
        refine v_iload_n C (pc := 40) (i := 3) dX4_bestByGrowing_40 rfl ?_
        obtain ⟨y9, hy9, h⟩ := Option.bind_eq_some_iff.mp h
        obtain ⟨fsy9, hfy9⟩ := hC_some hy9
        obtain ⟨x8, e8, h⟩ := Option.bind_eq_some_iff.mp h
        refine v_pV C (pc := 41) (ci := 4) [.int a3] 1 (cX4_matesOf_met (kl κ) (kG κ) _ e8) hfy9 rfl gX4_bestByGrowing_X4_matesOf rfl hdX4_matesOf rfl rfl rfl (by rw [hR]; exact ⟨Nat.le_of_ble_eq_true rfl, Nat.le_of_ble_eq_true rfl⟩) ⟨Nat.zero_le _, Nat.zero_le _⟩ (Nat.le_of_ble_eq_true rfl) rfl dX4_bestByGrowing_41 ?_
        refine v_iand C (pc := 44) dX4_bestByGrowing_44 ?_
        refine v_iload_n C (pc := 45) (i := 3) dX4_bestByGrowing_45 rfl ?_
        obtain ⟨x10, e10, h⟩ := Option.bind_eq_some_iff.mp h
        refine v_pS C (pc := 46) [.int a3] 1 (cX4_above_met (kl κ) (kG κ) _ e10) gX4_bestByGrowing_X4_above rfl hdsX4_above rfl rfl rfl (by rw [hR]; exact ⟨Nat.le_of_ble_eq_true rfl, Nat.le_of_ble_eq_true rfl⟩) ⟨Nat.zero_le _, Nat.zero_le _⟩ (Nat.le_of_ble_eq_true rfl) rfl dX4_bestByGrowing_46 ?_
        refine v_iand C (pc := 49) dX4_bestByGrowing_49 ?_
        obtain ⟨y12, hy12, h⟩ := Option.bind_eq_some_iff.mp h
        obtain ⟨fsy12, hfy12⟩ := hC_some hy12
        obtain ⟨x11, e11, h⟩ := Option.bind_eq_some_iff.mp h
        refine v_pV C (pc := 50) (ci := 4) [.int x6, .int (1 <<< (a3 &&& 31)), .int ((a1 &&& x8) &&& x10)] 3 (cX4_bestWithMates_met (kl κ) (kG κ) _ e11) hfy12 rfl gX4_bestByGrowing_X4_bestWithMates rfl hdX4_bestWithMates rfl rfl rfl (by rw [hR]; exact ⟨Nat.le_of_ble_eq_true rfl, Nat.le_of_ble_eq_true rfl⟩) ⟨Nat.zero_le _, Nat.zero_le _⟩ (Nat.le_of_ble_eq_true rfl) rfl dX4_bestByGrowing_50 ?_
        refine v_istore_n C (pc := 53) (i := 2) (lv' := [some (va_rf (some o)), some (.int a1), some (.int x11), some (.int a3), some (.int (1 <<< (a3 &&& 31)))]) dX4_bestByGrowing_53 rfl (lw_bi (j := 1) rfl) rfl ?_
        refine v_iinc C (pc := 54) (i := 3) (w := 1) (lv' := [some (va_rf (some o)), some (.int a1), some (.int x11), some (.int (a3 + 1)), some (.int (1 <<< (a3 &&& 31)))]) dX4_bestByGrowing_54 rfl (by decide) rfl ?_
        refine v_goto C (pc := 57) (tgt := 4) dX4_bestByGrowing_57 (by decide) ?_
        refine v_mask (lv' := [some (va_rf (some o)), some (.int a1), some (.int x11), some (.int (a3 + 1)), none]) [true, true, true, true, false] rfl rfl ?_
        exact ih _ _ h
def fX4_bestByGrowing (M : hM) (o : Nat) (a1 : Int32) : Option Int32 :=
  lX4_bestByGrowing_4 M o a1 1000 0 0
set_option maxRecDepth 100000 in
set_option maxHeartbeats 4000000 in
theorem cX4_bestByGrowing_met (l : Launch) (G : hG) (M : hM) {o : Nat} {a1 : Int32} {r : Int32} (h : fX4_bestByGrowing M o a1 = some r) : hPMet l yX4_bestByGrowing wsX4_bestByGrowing rmX4_bestByGrowing [.ref o, .int a1] G M (some (.int r)) := by
  refine hp_entry (own := RX4) (cc := cX4_bestByGrowing) (maxL := 5) (ret := (some .int)) (lv := [some (va_rf (some o)), some (.int a1), none, none, none]) (by decide) rfl rfl (hcc rfl (hcc rfl hc0)) (Nat.le_of_ble_eq_true rfl) rfl (fun κ hG hl hR P => ?_)
  subst hG; subst hl
  unfold fX4_bestByGrowing at h
  have C := P.1
  refine v_iconst C (pc := 0) (v := 0) dX4_bestByGrowing_0 (by decide) ?_
  refine v_istore_n C (pc := 1) (i := 2) (lv' := [some (va_rf (some o)), some (.int a1), some (.int 0), none, none]) dX4_bestByGrowing_1 rfl (lw_bi (j := 1) rfl) rfl ?_
  refine v_iconst C (pc := 2) (v := 0) dX4_bestByGrowing_2 (by decide) ?_
  refine v_istore_n C (pc := 3) (i := 3) (lv' := [some (va_rf (some o)), some (.int a1), some (.int 0), some (.int 0), none]) dX4_bestByGrowing_3 rfl (lw_bi (j := 2) rfl) rfl ?_
  exact tlX4_bestByGrowing_4 P hR  1000 _ _ h
/-! X4_bestq -/
abbrev rmX4_bestq : Room := { frames := 7, cells := 0, slots := 0, locals := 144 }
def fX4_bestq (M : hM) (o : Nat) (a1 : Int32) (a2 : Int32) (a3 : Int32) : Option Int32 :=
  (hC M 4 (some o)).bind fun _ =>
  (fX4_accusedAtq M o a1 a2).bind fun x1 =>
  (hC M 4 (some o)).bind fun _ =>
  (fX4_checkDayq M o a3).bind fun x3 =>
  (hC M 4 (some o)).bind fun _ =>
  (fX4_chargeable M o x1 a3).bind fun x5 =>
  (hC M 4 (some o)).bind fun _ =>
  (fX4_bestByGrowing M o x5).bind fun x7 =>
  some x7
set_option maxRecDepth 100000 in
set_option maxHeartbeats 4000000 in
theorem cX4_bestq_met (l : Launch) (G : hG) (M : hM) {o : Nat} {a1 : Int32} {a2 : Int32} {a3 : Int32} {r : Int32} (h : fX4_bestq M o a1 a2 a3 = some r) : hPMet l yX4_best wsX4_best rmX4_bestq [.ref o, .int a1, .int a2, .int a3] G M (some (.int r)) := by
  refine hp_entry (own := RX4) (cc := cX4_best) (maxL := 5) (ret := (some .int)) (lv := [some (va_rf (some o)), some (.int a1), some (.int a2), some (.int a3), none]) (by decide) rfl rfl (hcc rfl (hcc rfl (hcc rfl (hcc rfl hc0)))) (Nat.le_of_ble_eq_true rfl) rfl (fun κ hG hl hR P => ?_)
  subst hG; subst hl
  unfold fX4_bestq at h
  have C := P.1
  refine v_aload_n C (pc := 0) (i := 0) dX4_best_0 rfl ?_
  refine v_iload_n C (pc := 1) (i := 1) dX4_best_1 rfl ?_
  refine v_iload_n C (pc := 2) (i := 2) dX4_best_2 rfl ?_
  obtain ⟨y2, hy2, h⟩ := Option.bind_eq_some_iff.mp h
  obtain ⟨fsy2, hfy2⟩ := hC_some hy2
  obtain ⟨x1, e1, h⟩ := Option.bind_eq_some_iff.mp h
  refine v_pV C (pc := 3) (ci := 4) [.int a1, .int a2] 2 (cX4_accusedAtq_met (kl κ) (kG κ) _ e1) hfy2 rfl gX4_best_X4_accusedAt rfl hdX4_accusedAt rfl rfl rfl (by rw [hR]; exact ⟨Nat.le_of_ble_eq_true rfl, Nat.le_of_ble_eq_true rfl⟩) ⟨Nat.zero_le _, Nat.zero_le _⟩ (Nat.le_of_ble_eq_true rfl) rfl dX4_best_3 ?_
  refine v_astore C (pc := 6) (i := 4) (lv' := [some (va_rf (some o)), some (.int a1), some (.int a2), some (.int a3), some (va_rf x1)]) dX4_best_6 rfl (lw_bi (j := 3) rfl) rfl ?_
  refine v_aload_n C (pc := 8) (i := 0) dX4_best_8 rfl ?_
  refine v_iload_n C (pc := 9) (i := 3) dX4_best_9 rfl ?_
  obtain ⟨y4, hy4, h⟩ := Option.bind_eq_some_iff.mp h
  obtain ⟨fsy4, hfy4⟩ := hC_some hy4
  obtain ⟨x3, e3, h⟩ := Option.bind_eq_some_iff.mp h
  refine v_pVv C (pc := 10) (ci := 4) [.int a3] 1 (cX4_checkDayq_met (kl κ) (kG κ) _ e3) hfy4 rfl gX4_best_X4_checkDay rfl hdX4_checkDay rfl rfl rfl (by rw [hR]; exact ⟨Nat.le_of_ble_eq_true rfl, Nat.le_of_ble_eq_true rfl⟩) ⟨Nat.zero_le _, Nat.zero_le _⟩ (Nat.le_of_ble_eq_true rfl) rfl dX4_best_10 ?_
  refine v_aload_n C (pc := 13) (i := 0) dX4_best_13 rfl ?_
  refine v_aload_n C (pc := 14) (i := 0) dX4_best_14 rfl ?_
  refine v_aload C (pc := 15) (i := 4) dX4_best_15 rfl ?_
  refine v_iload_n C (pc := 17) (i := 3) dX4_best_17 rfl ?_
  obtain ⟨y6, hy6, h⟩ := Option.bind_eq_some_iff.mp h
  obtain ⟨fsy6, hfy6⟩ := hC_some hy6
  obtain ⟨x5, e5, h⟩ := Option.bind_eq_some_iff.mp h
  refine v_pV C (pc := 18) (ci := 4) [va_rf x1, .int a3] 2 (cX4_chargeable_met (kl κ) (kG κ) _ e5) hfy6 rfl gX4_best_X4_chargeable rfl hdX4_chargeable rfl rfl rfl (by rw [hR]; exact ⟨Nat.le_of_ble_eq_true rfl, Nat.le_of_ble_eq_true rfl⟩) ⟨Nat.zero_le _, Nat.zero_le _⟩ (Nat.le_of_ble_eq_true rfl) rfl dX4_best_18 ?_
  obtain ⟨y8, hy8, h⟩ := Option.bind_eq_some_iff.mp h
  obtain ⟨fsy8, hfy8⟩ := hC_some hy8
  obtain ⟨x7, e7, h⟩ := Option.bind_eq_some_iff.mp h
  refine v_pV C (pc := 21) (ci := 4) [.int x5] 1 (cX4_bestByGrowing_met (kl κ) (kG κ) _ e7) hfy8 rfl gX4_best_X4_bestByGrowing rfl hdX4_bestByGrowing rfl rfl rfl (by rw [hR]; exact ⟨Nat.le_of_ble_eq_true rfl, Nat.le_of_ble_eq_true rfl⟩) ⟨Nat.zero_le _, Nat.zero_le _⟩ (Nat.le_of_ble_eq_true rfl) rfl dX4_best_21 ?_
  have h := Option.some.inj h
  subst h
  exact v_pret (pc := 24) P rfl rfl (nar_int _) dX4_best_24
/-! X4_bestOfAllSets -/
abbrev rmX4_bestOfAllSets : Room := { frames := 4, cells := 0, slots := 0, locals := 91 }
def lX4_bestOfAllSets_4 (M : hM) (o : Nat) (a1 : Int32) : Nat → Int32 → Int32 → Option Int32
  | 0, _ , _ => none
  | n + 1, a2, a3 =>
    if (256 : Int32) ≤ a3 then (
      some a2
    ) else (
      (hC M 4 (some o)).bind fun _ =>
      (fX4_isRight M o a3 a1).bind fun x2 =>
      if (x2 : Int32) = 0 then (
        (lX4_bestOfAllSets_4 M o a1 n) a2 (a3 + 1)
      ) else (
        (hC M 4 (some o)).bind fun _ =>
        (fX4_better M o a2 a3).bind fun x5 =>
        (lX4_bestOfAllSets_4 M o a1 n) x5 (a3 + 1)
      )
    )
set_option maxRecDepth 100000 in
set_option maxHeartbeats 4000000 in
theorem tlX4_bestOfAllSets_4 {κ : hKx} {M : hM} {o : Nat} {r : Int32} (P : Cp κ RX4 cX4_bestOfAllSets wsX4_bestOfAllSets (some .int) (some (.int r))) (hR : kR κ = rmX4_bestOfAllSets)  {a1 : Int32}  : ∀ (n : Nat) (a2 : Int32) (a3 : Int32), lX4_bestOfAllSets_4 M o a1 n a2 a3 = some r → VW κ 0 0 M 4 [some (va_rf (some o)), some (.int a1), some (.int a2), some (.int a3)] [] := by
  have C := P.1
  intro n
  induction n with
  | zero =>
    intro a2 a3 h
    unfold lX4_bestOfAllSets_4 at h
    cases h
  | succ n ih =>
    intro a2 a3 h
    unfold lX4_bestOfAllSets_4 at h
    refine v_iload_n C (pc := 4) (i := 3) dX4_bestOfAllSets_4 rfl ?_
    refine v_sipush C (pc := 5) (v := 256) dX4_bestOfAllSets_5 (by decide) ?_
    refine v_icmp_ge C (pc := 8) (tgt := 33) dX4_bestOfAllSets_8 (by decide) (fun c1 => ?_) (fun c1 => ?_)
    · rw [if_pos c1] at h
      refine v_iload_n C (pc := 33) (i := 2) dX4_bestOfAllSets_33 rfl ?_
      have h := Option.some.inj h
      subst h
      exact v_pret (pc := 34) P rfl rfl (nar_int _) dX4_bestOfAllSets_34
    · rw [if_neg c1] at h
      refine v_aload_n C (pc := 11) (i := 0) dX4_bestOfAllSets_11 rfl ?_
      refine v_iload_n C (pc := 12) (i := 3) dX4_bestOfAllSets_12 rfl ?_
      refine v_iload_n C (pc := 13) (i := 1) dX4_bestOfAllSets_13 rfl ?_
      obtain ⟨y3, hy3, h⟩ := Option.bind_eq_some_iff.mp h
      obtain ⟨fsy3, hfy3⟩ := hC_some hy3
      obtain ⟨x2, e2, h⟩ := Option.bind_eq_some_iff.mp h
      refine v_pV C (pc := 14) (ci := 4) [.int a3, .int a1] 2 (cX4_isRight_met (kl κ) (kG κ) _ e2) hfy3 rfl gX4_bestOfAllSets_X4_isRight rfl hdX4_isRight rfl rfl rfl (by rw [hR]; exact ⟨Nat.le_of_ble_eq_true rfl, Nat.le_of_ble_eq_true rfl⟩) ⟨Nat.zero_le _, Nat.zero_le _⟩ (Nat.le_of_ble_eq_true rfl) rfl dX4_bestOfAllSets_14 ?_
      refine v_if_eq C (pc := 17) (tgt := 27) dX4_bestOfAllSets_17 (by decide) (fun c4 => ?_) (fun c4 => ?_)
      · rw [if_pos c4] at h
        refine v_iinc C (pc := 27) (i := 3) (w := 1) (lv' := [some (va_rf (some o)), some (.int a1), some (.int a2), some (.int (a3 + 1))]) dX4_bestOfAllSets_27 rfl (by decide) rfl ?_
        refine v_goto C (pc := 30) (tgt := 4) dX4_bestOfAllSets_30 (by decide) ?_
        exact ih _ _ h
      · rw [if_neg c4] at h
        refine v_aload_n C (pc := 20) (i := 0) dX4_bestOfAllSets_20 rfl ?_
        refine v_iload_n C (pc := 21) (i := 2) dX4_bestOfAllSets_21 rfl ?_
        refine v_iload_n C (pc := 22) (i := 3) dX4_bestOfAllSets_22 rfl ?_
        obtain ⟨y6, hy6, h⟩ := Option.bind_eq_some_iff.mp h
        obtain ⟨fsy6, hfy6⟩ := hC_some hy6
        obtain ⟨x5, e5, h⟩ := Option.bind_eq_some_iff.mp h
        refine v_pV C (pc := 23) (ci := 4) [.int a2, .int a3] 2 (cX4_better_met (kl κ) (kG κ) _ e5) hfy6 rfl gX4_bestOfAllSets_X4_better rfl hdX4_better rfl rfl rfl (by rw [hR]; exact ⟨Nat.le_of_ble_eq_true rfl, Nat.le_of_ble_eq_true rfl⟩) ⟨Nat.zero_le _, Nat.zero_le _⟩ (Nat.le_of_ble_eq_true rfl) rfl dX4_bestOfAllSets_23 ?_
        refine v_istore_n C (pc := 26) (i := 2) (lv' := [some (va_rf (some o)), some (.int a1), some (.int x5), some (.int a3)]) dX4_bestOfAllSets_26 rfl (lw_bi (j := 1) rfl) rfl ?_
        refine v_iinc C (pc := 27) (i := 3) (w := 1) (lv' := [some (va_rf (some o)), some (.int a1), some (.int x5), some (.int (a3 + 1))]) dX4_bestOfAllSets_27 rfl (by decide) rfl ?_
        refine v_goto C (pc := 30) (tgt := 4) dX4_bestOfAllSets_30 (by decide) ?_
        exact ih _ _ h
def fX4_bestOfAllSets (M : hM) (o : Nat) (a1 : Int32) : Option Int32 :=
  lX4_bestOfAllSets_4 M o a1 1000 0 1
set_option maxRecDepth 100000 in
set_option maxHeartbeats 4000000 in
theorem cX4_bestOfAllSets_met (l : Launch) (G : hG) (M : hM) {o : Nat} {a1 : Int32} {r : Int32} (h : fX4_bestOfAllSets M o a1 = some r) : hPMet l yX4_bestOfAllSets wsX4_bestOfAllSets rmX4_bestOfAllSets [.ref o, .int a1] G M (some (.int r)) := by
  refine hp_entry (own := RX4) (cc := cX4_bestOfAllSets) (maxL := 4) (ret := (some .int)) (lv := [some (va_rf (some o)), some (.int a1), none, none]) (by decide) rfl rfl (hcc rfl (hcc rfl hc0)) (Nat.le_of_ble_eq_true rfl) rfl (fun κ hG hl hR P => ?_)
  subst hG; subst hl
  unfold fX4_bestOfAllSets at h
  have C := P.1
  refine v_iconst C (pc := 0) (v := 0) dX4_bestOfAllSets_0 (by decide) ?_
  refine v_istore_n C (pc := 1) (i := 2) (lv' := [some (va_rf (some o)), some (.int a1), some (.int 0), none]) dX4_bestOfAllSets_1 rfl (lw_bi (j := 1) rfl) rfl ?_
  refine v_iconst C (pc := 2) (v := 1) dX4_bestOfAllSets_2 (by decide) ?_
  refine v_istore_n C (pc := 3) (i := 3) (lv' := [some (va_rf (some o)), some (.int a1), some (.int 0), some (.int 1)]) dX4_bestOfAllSets_3 rfl (lw_bi (j := 2) rfl) rfl ?_
  exact tlX4_bestOfAllSets_4 P hR  1000 _ _ h
/-! X4_bestAnewq -/
abbrev rmX4_bestAnewq : Room := { frames := 7, cells := 0, slots := 0, locals := 143 }
def fX4_bestAnewq (M : hM) (o : Nat) (a1 : Int32) (a2 : Int32) (a3 : Int32) : Option Int32 :=
  (hC M 4 (some o)).bind fun _ =>
  (fX4_accusedAtq M o a1 a2).bind fun x1 =>
  (hC M 4 (some o)).bind fun _ =>
  (fX4_checkDayq M o a3).bind fun x3 =>
  (hC M 4 (some o)).bind fun _ =>
  (fX4_chargeable M o x1 a3).bind fun x5 =>
  (hC M 4 (some o)).bind fun _ =>
  (fX4_bestOfAllSets M o x5).bind fun x7 =>
  some x7
set_option maxRecDepth 100000 in
set_option maxHeartbeats 4000000 in
theorem cX4_bestAnewq_met (l : Launch) (G : hG) (M : hM) {o : Nat} {a1 : Int32} {a2 : Int32} {a3 : Int32} {r : Int32} (h : fX4_bestAnewq M o a1 a2 a3 = some r) : hPMet l yX4_bestAnew wsX4_bestAnew rmX4_bestAnewq [.ref o, .int a1, .int a2, .int a3] G M (some (.int r)) := by
  refine hp_entry (own := RX4) (cc := cX4_bestAnew) (maxL := 5) (ret := (some .int)) (lv := [some (va_rf (some o)), some (.int a1), some (.int a2), some (.int a3), none]) (by decide) rfl rfl (hcc rfl (hcc rfl (hcc rfl (hcc rfl hc0)))) (Nat.le_of_ble_eq_true rfl) rfl (fun κ hG hl hR P => ?_)
  subst hG; subst hl
  unfold fX4_bestAnewq at h
  have C := P.1
  refine v_aload_n C (pc := 0) (i := 0) dX4_bestAnew_0 rfl ?_
  refine v_iload_n C (pc := 1) (i := 1) dX4_bestAnew_1 rfl ?_
  refine v_iload_n C (pc := 2) (i := 2) dX4_bestAnew_2 rfl ?_
  obtain ⟨y2, hy2, h⟩ := Option.bind_eq_some_iff.mp h
  obtain ⟨fsy2, hfy2⟩ := hC_some hy2
  obtain ⟨x1, e1, h⟩ := Option.bind_eq_some_iff.mp h
  refine v_pV C (pc := 3) (ci := 4) [.int a1, .int a2] 2 (cX4_accusedAtq_met (kl κ) (kG κ) _ e1) hfy2 rfl gX4_bestAnew_X4_accusedAt rfl hdX4_accusedAt rfl rfl rfl (by rw [hR]; exact ⟨Nat.le_of_ble_eq_true rfl, Nat.le_of_ble_eq_true rfl⟩) ⟨Nat.zero_le _, Nat.zero_le _⟩ (Nat.le_of_ble_eq_true rfl) rfl dX4_bestAnew_3 ?_
  refine v_astore C (pc := 6) (i := 4) (lv' := [some (va_rf (some o)), some (.int a1), some (.int a2), some (.int a3), some (va_rf x1)]) dX4_bestAnew_6 rfl (lw_bi (j := 3) rfl) rfl ?_
  refine v_aload_n C (pc := 8) (i := 0) dX4_bestAnew_8 rfl ?_
  refine v_iload_n C (pc := 9) (i := 3) dX4_bestAnew_9 rfl ?_
  obtain ⟨y4, hy4, h⟩ := Option.bind_eq_some_iff.mp h
  obtain ⟨fsy4, hfy4⟩ := hC_some hy4
  obtain ⟨x3, e3, h⟩ := Option.bind_eq_some_iff.mp h
  refine v_pVv C (pc := 10) (ci := 4) [.int a3] 1 (cX4_checkDayq_met (kl κ) (kG κ) _ e3) hfy4 rfl gX4_bestAnew_X4_checkDay rfl hdX4_checkDay rfl rfl rfl (by rw [hR]; exact ⟨Nat.le_of_ble_eq_true rfl, Nat.le_of_ble_eq_true rfl⟩) ⟨Nat.zero_le _, Nat.zero_le _⟩ (Nat.le_of_ble_eq_true rfl) rfl dX4_bestAnew_10 ?_
  refine v_aload_n C (pc := 13) (i := 0) dX4_bestAnew_13 rfl ?_
  refine v_aload_n C (pc := 14) (i := 0) dX4_bestAnew_14 rfl ?_
  refine v_aload C (pc := 15) (i := 4) dX4_bestAnew_15 rfl ?_
  refine v_iload_n C (pc := 17) (i := 3) dX4_bestAnew_17 rfl ?_
  obtain ⟨y6, hy6, h⟩ := Option.bind_eq_some_iff.mp h
  obtain ⟨fsy6, hfy6⟩ := hC_some hy6
  obtain ⟨x5, e5, h⟩ := Option.bind_eq_some_iff.mp h
  refine v_pV C (pc := 18) (ci := 4) [va_rf x1, .int a3] 2 (cX4_chargeable_met (kl κ) (kG κ) _ e5) hfy6 rfl gX4_bestAnew_X4_chargeable rfl hdX4_chargeable rfl rfl rfl (by rw [hR]; exact ⟨Nat.le_of_ble_eq_true rfl, Nat.le_of_ble_eq_true rfl⟩) ⟨Nat.zero_le _, Nat.zero_le _⟩ (Nat.le_of_ble_eq_true rfl) rfl dX4_bestAnew_18 ?_
  obtain ⟨y8, hy8, h⟩ := Option.bind_eq_some_iff.mp h
  obtain ⟨fsy8, hfy8⟩ := hC_some hy8
  obtain ⟨x7, e7, h⟩ := Option.bind_eq_some_iff.mp h
  refine v_pV C (pc := 21) (ci := 4) [.int x5] 1 (cX4_bestOfAllSets_met (kl κ) (kG κ) _ e7) hfy8 rfl gX4_bestAnew_X4_bestOfAllSets rfl hdX4_bestOfAllSets rfl rfl rfl (by rw [hR]; exact ⟨Nat.le_of_ble_eq_true rfl, Nat.le_of_ble_eq_true rfl⟩) ⟨Nat.zero_le _, Nat.zero_le _⟩ (Nat.le_of_ble_eq_true rfl) rfl dX4_bestAnew_21 ?_
  have h := Option.some.inj h
  subst h
  exact v_pret (pc := 24) P rfl rfl (nar_int _) dX4_bestAnew_24
/-! X4_ofItemq -/
abbrev rmX4_ofItemq : Room := { frames := 6, cells := 0, slots := 0, locals := 90 }
theorem iwX4_ofItemq_X2 : ∀ w ∈ u_ws RX2 TX2 10, w ∈ wsX4_ofItem := fun _ h => List.mem_cons_of_mem _ (List.mem_append_left _ (List.mem_append_left _ (List.mem_append_left _ (List.mem_append_right _ (h)))))
theorem flX4_ofItemq_136 : Cond.fieldLink RX4 136 "Chargehouse$Item" "admittedOn" "I" ∈ wsX4_ofItem := List.mem_cons_of_mem _ (List.mem_append_left _ (List.mem_append_left _ (List.mem_append_left _ (List.mem_append_left _ (List.mem_of_getElem? (i := 9) rfl)))))
theorem flX4_ofItemq_151 : Cond.fieldLink RX4 151 "Chargehouse$Item" "shownTo" "I" ∈ wsX4_ofItem := List.mem_cons_of_mem _ (List.mem_append_left _ (List.mem_append_left _ (List.mem_append_left _ (List.mem_append_left _ (List.mem_of_getElem? (i := 10) rfl)))))
theorem flX4_ofItemq_154 : Cond.fieldLink RX4 154 "Chargehouse$Item" "file" "I" ∈ wsX4_ofItem := List.mem_cons_of_mem _ (List.mem_append_left _ (List.mem_append_left _ (List.mem_append_left _ (List.mem_append_left _ (List.mem_of_getElem? (i := 4) rfl)))))
theorem flX4_ofItemq_165 : Cond.fieldLink RX4 165 "Chargehouse$Item" "isWithheld" "Z" ∈ wsX4_ofItem := List.mem_cons_of_mem _ (List.mem_append_left _ (List.mem_append_left _ (List.mem_append_left _ (List.mem_append_left _ (List.mem_of_getElem? (i := 11) rfl)))))
theorem flX4_ofItemq_299 : Cond.fieldLink RX4 299 "Chargehouse$Item" "element" "I" ∈ wsX4_ofItem := List.mem_cons_of_mem _ (List.mem_append_left _ (List.mem_append_left _ (List.mem_append_left _ (List.mem_append_left _ (List.mem_of_getElem? (i := 5) rfl)))))
theorem flX4_ofItemq_302 : Cond.fieldLink RX4 302 "Chargehouse$Item" "weight" "I" ∈ wsX4_ofItem := List.mem_cons_of_mem _ (List.mem_append_left _ (List.mem_append_left _ (List.mem_append_left _ (List.mem_append_left _ (List.mem_of_getElem? (i := 6) rfl)))))
theorem flX4_ofItemq_305 : Cond.fieldLink RX4 305 "Chargehouse$Item" "against" "I" ∈ wsX4_ofItem := List.mem_cons_of_mem _ (List.mem_append_left _ (List.mem_append_left _ (List.mem_append_left _ (List.mem_append_left _ (List.mem_of_getElem? (i := 7) rfl)))))
theorem flX4_ofItemq_308 : Cond.fieldLink RX4 308 "Chargehouse$Item" "cameOn" "I" ∈ wsX4_ofItem := List.mem_cons_of_mem _ (List.mem_append_left _ (List.mem_append_left _ (List.mem_append_left _ (List.mem_append_left _ (List.mem_of_getElem? (i := 8) rfl)))))
def fX4_ofItemq (M : hM) (o : Nat) (a1 : Int32) (a2 : Int32) : Option Int32 :=
  (hC M 4 (some o)).bind fun _ =>
  (fX4_itemAt M o a1).bind fun x1 =>
  if x1 = none then (
    none
  ) else (
    if (a2 : Int32) = 0 then (
      (gI M 2 0 x1).bind fun x5 =>
      some x5
    ) else (
      if (a2 : Int32) = 1 then (
        (gI M 2 1 x1).bind fun x7 =>
        some x7
      ) else (
        if (a2 : Int32) = 2 then (
          (gI M 2 2 x1).bind fun x9 =>
          some x9
        ) else (
          if (a2 : Int32) = 3 then (
            (gI M 2 3 x1).bind fun x11 =>
            some x11
          ) else (
            if (a2 : Int32) = 4 then (
              (gI M 2 6 x1).bind fun x13 =>
              some x13
            ) else (
              if (a2 : Int32) = 5 then (
                (gI M 2 7 x1).bind fun x15 =>
                some x15
              ) else (
                if (a2 : Int32) = 6 then (
                  (gI M 2 8 x1).bind fun x17 =>
                  some x17
                ) else (
                  if (a2 : Int32) = 7 then (
                    (gI M 2 9 x1).bind fun x19 =>
                    if (x19 : Int32) = 0 then (
                      some 0
                    ) else (
                      some 1
                    )
                  ) else (
                      none
                  )
                )
              )
            )
          )
        )
      )
    )
  )
set_option maxRecDepth 100000 in
set_option maxHeartbeats 4000000 in
theorem cX4_ofItemq_met (l : Launch) (G : hG) (M : hM) {o : Nat} {a1 : Int32} {a2 : Int32} {r : Int32} (h : fX4_ofItemq M o a1 a2 = some r) : hPMet l yX4_ofItem wsX4_ofItem rmX4_ofItemq [.ref o, .int a1, .int a2] G M (some (.int r)) := by
  refine hp_entry (own := RX4) (cc := cX4_ofItem) (maxL := 4) (ret := (some .int)) (lv := [some (va_rf (some o)), some (.int a1), some (.int a2), none]) (by decide) rfl rfl (hcc rfl (hcc rfl (hcc rfl hc0))) (Nat.le_of_ble_eq_true rfl) rfl (fun κ hG hl hR P => ?_)
  subst hG; subst hl
  unfold fX4_ofItemq at h
  have C := P.1
  refine v_aload_n C (pc := 0) (i := 0) dX4_ofItem_0 rfl ?_
  refine v_iload_n C (pc := 1) (i := 1) dX4_ofItem_1 rfl ?_
  obtain ⟨y2, hy2, h⟩ := Option.bind_eq_some_iff.mp h
  obtain ⟨fsy2, hfy2⟩ := hC_some hy2
  obtain ⟨x1, e1, h⟩ := Option.bind_eq_some_iff.mp h
  refine v_pV C (pc := 2) (ci := 4) [.int a1] 1 (cX4_itemAt_met (kl κ) (kG κ) _ e1) hfy2 rfl gX4_ofItem_X4_itemAt rfl hdX4_itemAt rfl rfl rfl (by rw [hR]; exact ⟨Nat.le_of_ble_eq_true rfl, Nat.le_of_ble_eq_true rfl⟩) ⟨Nat.zero_le _, Nat.zero_le _⟩ (Nat.le_of_ble_eq_true rfl) rfl dX4_ofItem_2 ?_
  refine v_astore_n C (pc := 5) (i := 3) (lv' := [some (va_rf (some o)), some (.int a1), some (.int a2), some (va_rf x1)]) dX4_ofItem_5 rfl (lw_bi (j := 2) rfl) rfl ?_
  refine v_aload_n C (pc := 6) (i := 3) dX4_ofItem_6 rfl ?_
  refine v_ifnonnull C (pc := 7) (tgt := 20) dX4_ofItem_7 (by decide) (fun c3 => ?_) (fun c3 => ?_)
  · rw [if_neg c3] at h
    refine v_iload_n C (pc := 20) (i := 2) dX4_ofItem_20 rfl ?_
    by_cases c4 : (a2 : Int32) = 0
    · rw [if_pos c4] at h
      refine v_tabIn C (pc := 21) (tgt := 68) dX4_ofItem_21 c4 (by decide) (by decide) rfl (by decide) ?_
      refine v_aload_n C (pc := 68) (i := 3) dX4_ofItem_68 rfl ?_
      obtain ⟨x5, e5, h⟩ := Option.bind_eq_some_iff.mp h
      refine v_getI C (pc := 69) (ci := 2) 0 iwX4_ofItemq_X2 rfl (by decide) flX4_ofItemq_154 e5 dX4_ofItem_69 ?_
      have h := Option.some.inj h
      subst h
      exact v_pret (pc := 72) P rfl rfl (nar_int _) dX4_ofItem_72
    · rw [if_neg c4] at h
      by_cases c6 : (a2 : Int32) = 1
      · rw [if_pos c6] at h
        refine v_tabIn C (pc := 21) (tgt := 73) dX4_ofItem_21 c6 (by decide) (by decide) rfl (by decide) ?_
        refine v_aload_n C (pc := 73) (i := 3) dX4_ofItem_73 rfl ?_
        obtain ⟨x7, e7, h⟩ := Option.bind_eq_some_iff.mp h
        refine v_getI C (pc := 74) (ci := 2) 1 iwX4_ofItemq_X2 rfl (by decide) flX4_ofItemq_299 e7 dX4_ofItem_74 ?_
        have h := Option.some.inj h
        subst h
        exact v_pret (pc := 77) P rfl rfl (nar_int _) dX4_ofItem_77
      · rw [if_neg c6] at h
        by_cases c8 : (a2 : Int32) = 2
        · rw [if_pos c8] at h
          refine v_tabIn C (pc := 21) (tgt := 78) dX4_ofItem_21 c8 (by decide) (by decide) rfl (by decide) ?_
          refine v_aload_n C (pc := 78) (i := 3) dX4_ofItem_78 rfl ?_
          obtain ⟨x9, e9, h⟩ := Option.bind_eq_some_iff.mp h
          refine v_getI C (pc := 79) (ci := 2) 2 iwX4_ofItemq_X2 rfl (by decide) flX4_ofItemq_302 e9 dX4_ofItem_79 ?_
          have h := Option.some.inj h
          subst h
          exact v_pret (pc := 82) P rfl rfl (nar_int _) dX4_ofItem_82
        · rw [if_neg c8] at h
          by_cases c10 : (a2 : Int32) = 3
          · rw [if_pos c10] at h
            refine v_tabIn C (pc := 21) (tgt := 83) dX4_ofItem_21 c10 (by decide) (by decide) rfl (by decide) ?_
            refine v_aload_n C (pc := 83) (i := 3) dX4_ofItem_83 rfl ?_
            obtain ⟨x11, e11, h⟩ := Option.bind_eq_some_iff.mp h
            refine v_getI C (pc := 84) (ci := 2) 3 iwX4_ofItemq_X2 rfl (by decide) flX4_ofItemq_305 e11 dX4_ofItem_84 ?_
            have h := Option.some.inj h
            subst h
            exact v_pret (pc := 87) P rfl rfl (nar_int _) dX4_ofItem_87
          · rw [if_neg c10] at h
            by_cases c12 : (a2 : Int32) = 4
            · rw [if_pos c12] at h
              refine v_tabIn C (pc := 21) (tgt := 88) dX4_ofItem_21 c12 (by decide) (by decide) rfl (by decide) ?_
              refine v_aload_n C (pc := 88) (i := 3) dX4_ofItem_88 rfl ?_
              obtain ⟨x13, e13, h⟩ := Option.bind_eq_some_iff.mp h
              refine v_getI C (pc := 89) (ci := 2) 6 iwX4_ofItemq_X2 rfl (by decide) flX4_ofItemq_308 e13 dX4_ofItem_89 ?_
              have h := Option.some.inj h
              subst h
              exact v_pret (pc := 92) P rfl rfl (nar_int _) dX4_ofItem_92
            · rw [if_neg c12] at h
              by_cases c14 : (a2 : Int32) = 5
              · rw [if_pos c14] at h
                refine v_tabIn C (pc := 21) (tgt := 93) dX4_ofItem_21 c14 (by decide) (by decide) rfl (by decide) ?_
                refine v_aload_n C (pc := 93) (i := 3) dX4_ofItem_93 rfl ?_
                obtain ⟨x15, e15, h⟩ := Option.bind_eq_some_iff.mp h
                refine v_getI C (pc := 94) (ci := 2) 7 iwX4_ofItemq_X2 rfl (by decide) flX4_ofItemq_136 e15 dX4_ofItem_94 ?_
                have h := Option.some.inj h
                subst h
                exact v_pret (pc := 97) P rfl rfl (nar_int _) dX4_ofItem_97
              · rw [if_neg c14] at h
                by_cases c16 : (a2 : Int32) = 6
                · rw [if_pos c16] at h
                  refine v_tabIn C (pc := 21) (tgt := 98) dX4_ofItem_21 c16 (by decide) (by decide) rfl (by decide) ?_
                  refine v_aload_n C (pc := 98) (i := 3) dX4_ofItem_98 rfl ?_
                  obtain ⟨x17, e17, h⟩ := Option.bind_eq_some_iff.mp h
                  refine v_getI C (pc := 99) (ci := 2) 8 iwX4_ofItemq_X2 rfl (by decide) flX4_ofItemq_151 e17 dX4_ofItem_99 ?_
                  have h := Option.some.inj h
                  subst h
                  exact v_pret (pc := 102) P rfl rfl (nar_int _) dX4_ofItem_102
                · rw [if_neg c16] at h
                  by_cases c18 : (a2 : Int32) = 7
                  · rw [if_pos c18] at h
                    refine v_tabIn C (pc := 21) (tgt := 103) dX4_ofItem_21 c18 (by decide) (by decide) rfl (by decide) ?_
                    refine v_aload_n C (pc := 103) (i := 3) dX4_ofItem_103 rfl ?_
                    obtain ⟨x19, e19, h⟩ := Option.bind_eq_some_iff.mp h
                    refine v_getI C (pc := 104) (ci := 2) 9 iwX4_ofItemq_X2 rfl (by decide) flX4_ofItemq_165 e19 dX4_ofItem_104 ?_
                    refine v_if_eq C (pc := 107) (tgt := 114) dX4_ofItem_107 (by decide) (fun c20 => ?_) (fun c20 => ?_)
                    · rw [if_pos c20] at h
                      refine v_iconst C (pc := 114) (v := 0) dX4_ofItem_114 (by decide) ?_
                      have h := Option.some.inj h
                      subst h
                      exact v_pret (pc := 115) P rfl rfl (nar_int _) dX4_ofItem_115
                    · rw [if_neg c20] at h
                      refine v_iconst C (pc := 110) (v := 1) dX4_ofItem_110 (by decide) ?_
                      refine v_goto C (pc := 111) (tgt := 115) dX4_ofItem_111 (by decide) ?_
                      have h := Option.some.inj h
                      subst h
                      exact v_pret (pc := 115) P rfl rfl (nar_int _) dX4_ofItem_115
                  · rw [if_neg c18] at h
                    refine v_tabOut C (pc := 21) (n := 8) (tgt := 116) dX4_ofItem_21 (fun k hk => ?_) rfl (by decide) (by decide) ?_
                    · rcases (show k = 0 ∨ k = 1 ∨ k = 2 ∨ k = 3 ∨ k = 4 ∨ k = 5 ∨ k = 6 ∨ k = 7 by omega) with rfl | rfl | rfl | rfl | rfl | rfl | rfl | rfl <;> assumption
                    · cases h
  · rw [if_pos c3] at h
    cases h
/-! X4_spentOffences -/
abbrev rmX4_spentOffences : Room := { frames := 3, cells := 0, slots := 0, locals := 67 }
theorem iwX4_spentOffences_X4 : ∀ w ∈ u_ws RX4 TX4 13, w ∈ wsX4_spentOffences := fun _ h => List.mem_cons_of_mem _ (List.mem_append_left _ (List.mem_append_left _ (List.mem_append_right _ (h))))
theorem flX4_spentOffences_11 : Cond.fieldLink RX4 11 "Chargehouse" "offenceRows" "[LChargehouse$Offence;" ∈ wsX4_spentOffences := List.mem_cons_of_mem _ (List.mem_append_left _ (List.mem_append_left _ (List.mem_append_left _ (List.mem_of_getElem? (i := 0) rfl))))
theorem flX4_spentOffences_70 : Cond.fieldLink RX4 70 "Chargehouse" "today" "I" ∈ wsX4_spentOffences := List.mem_cons_of_mem _ (List.mem_append_left _ (List.mem_append_left _ (List.mem_append_left _ (List.mem_of_getElem? (i := 1) rfl))))
def lX4_spentOffences_4 (M : hM) (o : Nat) (a1 : Option Nat) : Nat → Int32 → Int32 → Option Int32
  | 0, _ , _ => none
  | n + 1, a2, a3 =>
    (gR M 4 0 (some o)).bind fun x1 =>
    (aL M 3 x1).bind fun x2 =>
    if (x2 : Int32) ≤ a3 then (
      some a2
    ) else (
      (gR M 4 0 (some o)).bind fun x4 =>
      (aR M 3 x4 a3).bind fun x5 =>
      if x5 = none then (
        (lX4_spentOffences_4 M o a1 n) a2 (a3 + 1)
      ) else (
        (gI M 4 6 (some o)).bind fun x7 =>
        (hC M 4 (some o)).bind fun _ =>
        (fX4_isSpent M o a1 x5 x7).bind fun x8 =>
        if (x8 : Int32) = 0 then (
          (lX4_spentOffences_4 M o a1 n) a2 (a3 + 1)
        ) else (
          (lX4_spentOffences_4 M o a1 n) (a2 ||| (1 <<< (a3 &&& 31))) (a3 + 1)
        )
      )
    )
set_option maxRecDepth 100000 in
set_option maxHeartbeats 4000000 in
theorem tlX4_spentOffences_4 {κ : hKx} {M : hM} {o : Nat} {r : Int32} (P : Cp κ RX4 cX4_spentOffences wsX4_spentOffences (some .int) (some (.int r))) (hR : kR κ = rmX4_spentOffences)  {a1 : Option Nat}  : ∀ (n : Nat) (a2 : Int32) (a3 : Int32), lX4_spentOffences_4 M o a1 n a2 a3 = some r → VW κ 0 0 M 4 [some (va_rf (some o)), some (va_rf a1), some (.int a2), some (.int a3), none] [] := by
  have C := P.1
  intro n
  induction n with
  | zero =>
    intro a2 a3 h
    unfold lX4_spentOffences_4 at h
    cases h
  | succ n ih =>
    intro a2 a3 h
    unfold lX4_spentOffences_4 at h
    refine v_iload_n C (pc := 4) (i := 3) dX4_spentOffences_4 rfl ?_
    refine v_aload_n C (pc := 5) (i := 0) dX4_spentOffences_5 rfl ?_
    obtain ⟨x1, e1, h⟩ := Option.bind_eq_some_iff.mp h
    refine v_getR C (pc := 6) (ci := 4) 0 iwX4_spentOffences_X4 rfl (by decide) flX4_spentOffences_11 e1 dX4_spentOffences_6 ?_
    obtain ⟨x2, e2, h⟩ := Option.bind_eq_some_iff.mp h
    refine v_alen C (pc := 9) 3 rfl e2 dX4_spentOffences_9 ?_
    refine v_icmp_ge C (pc := 10) (tgt := 52) dX4_spentOffences_10 (by decide) (fun c3 => ?_) (fun c3 => ?_)
    · rw [if_pos c3] at h
      refine v_iload_n C (pc := 52) (i := 2) dX4_spentOffences_52 rfl ?_
      have h := Option.some.inj h
      subst h
      exact v_pret (pc := 53) P rfl rfl (nar_int _) dX4_spentOffences_53
    · rw [if_neg c3] at h
      refine v_aload_n C (pc := 13) (i := 0) dX4_spentOffences_13 rfl ?_
      obtain ⟨x4, e4, h⟩ := Option.bind_eq_some_iff.mp h
      refine v_getR C (pc := 14) (ci := 4) 0 iwX4_spentOffences_X4 rfl (by decide) flX4_spentOffences_11 e4 dX4_spentOffences_14 ?_
      refine v_iload_n C (pc := 17) (i := 3) dX4_spentOffences_17 rfl ?_
      obtain ⟨x5, e5, h⟩ := Option.bind_eq_some_iff.mp h
      refine v_aald C (pc := 18) 3 rfl e5 dX4_spentOffences_18 ?_
      refine v_astore C (pc := 19) (i := 4) (lv' := [some (va_rf (some o)), some (va_rf a1), some (.int a2), some (.int a3), some (va_rf x5)]) dX4_spentOffences_19 rfl (lw_bi (j := 3) rfl) rfl ?_
      refine v_aload C (pc := 21) (i := 4) dX4_spentOffences_21 rfl ?_
      refine v_ifnull C (pc := 23) (tgt := 46) dX4_spentOffences_23 (by decide) (fun c6 => ?_) (fun c6 => ?_)
      · rw [if_pos c6] at h
        refine v_iinc C (pc := 46) (i := 3) (w := 1) (lv' := [some (va_rf (some o)), some (va_rf a1), some (.int a2), some (.int (a3 + 1)), some (va_rf x5)]) dX4_spentOffences_46 rfl (by decide) rfl ?_
        refine v_goto C (pc := 49) (tgt := 4) dX4_spentOffences_49 (by decide) ?_
        refine v_mask (lv' := [some (va_rf (some o)), some (va_rf a1), some (.int a2), some (.int (a3 + 1)), none]) [true, true, true, true, false] rfl rfl ?_
        exact ih _ _ h
      · rw [if_neg c6] at h
        refine v_aload_n C (pc := 26) (i := 0) dX4_spentOffences_26 rfl ?_
        refine v_aload_n C (pc := 27) (i := 1) dX4_spentOffences_27 rfl ?_
        refine v_aload C (pc := 28) (i := 4) dX4_spentOffences_28 rfl ?_
        refine v_aload_n C (pc := 30) (i := 0) dX4_spentOffences_30 rfl ?_
        obtain ⟨x7, e7, h⟩ := Option.bind_eq_some_iff.mp h
        refine v_getI C (pc := 31) (ci := 4) 6 iwX4_spentOffences_X4 rfl (by decide) flX4_spentOffences_70 e7 dX4_spentOffences_31 ?_
        obtain ⟨y9, hy9, h⟩ := Option.bind_eq_some_iff.mp h
        obtain ⟨fsy9, hfy9⟩ := hC_some hy9
        obtain ⟨x8, e8, h⟩ := Option.bind_eq_some_iff.mp h
        refine v_pV C (pc := 34) (ci := 4) [va_rf a1, va_rf x5, .int x7] 3 (cX4_isSpent_met (kl κ) (kG κ) _ e8) hfy9 rfl gX4_spentOffences_X4_isSpent rfl hdX4_isSpent rfl rfl rfl (by rw [hR]; exact ⟨Nat.le_of_ble_eq_true rfl, Nat.le_of_ble_eq_true rfl⟩) ⟨Nat.zero_le _, Nat.zero_le _⟩ (Nat.le_of_ble_eq_true rfl) rfl dX4_spentOffences_34 ?_
        refine v_if_eq C (pc := 37) (tgt := 46) dX4_spentOffences_37 (by decide) (fun c10 => ?_) (fun c10 => ?_)
        · rw [if_pos c10] at h
          refine v_iinc C (pc := 46) (i := 3) (w := 1) (lv' := [some (va_rf (some o)), some (va_rf a1), some (.int a2), some (.int (a3 + 1)), some (va_rf x5)]) dX4_spentOffences_46 rfl (by decide) rfl ?_
          refine v_goto C (pc := 49) (tgt := 4) dX4_spentOffences_49 (by decide) ?_
          refine v_mask (lv' := [some (va_rf (some o)), some (va_rf a1), some (.int a2), some (.int (a3 + 1)), none]) [true, true, true, true, false] rfl rfl ?_
          exact ih _ _ h
        · rw [if_neg c10] at h
          refine v_iload_n C (pc := 40) (i := 2) dX4_spentOffences_40 rfl ?_
          refine v_iconst C (pc := 41) (v := 1) dX4_spentOffences_41 (by decide) ?_
          refine v_iload_n C (pc := 42) (i := 3) dX4_spentOffences_42 rfl ?_
          refine v_ishl C (pc := 43) dX4_spentOffences_43 ?_
          refine v_ior C (pc := 44) dX4_spentOffences_44 ?_
          refine v_istore_n C (pc := 45) (i := 2) (lv' := [some (va_rf (some o)), some (va_rf a1), some (.int (a2 ||| (1 <<< (a3 &&& 31)))), some (.int a3), some (va_rf x5)]) dX4_spentOffences_45 rfl (lw_br (j := 1) rfl) rfl ?_
          refine v_iinc C (pc := 46) (i := 3) (w := 1) (lv' := [some (va_rf (some o)), some (va_rf a1), some (.int (a2 ||| (1 <<< (a3 &&& 31)))), some (.int (a3 + 1)), some (va_rf x5)]) dX4_spentOffences_46 rfl (by decide) rfl ?_
          refine v_goto C (pc := 49) (tgt := 4) dX4_spentOffences_49 (by decide) ?_
          refine v_mask (lv' := [some (va_rf (some o)), some (va_rf a1), some (.int (a2 ||| (1 <<< (a3 &&& 31)))), some (.int (a3 + 1)), none]) [true, true, true, true, false] rfl rfl ?_
          exact ih _ _ h
def fX4_spentOffences (M : hM) (o : Nat) (a1 : Option Nat) : Option Int32 :=
  lX4_spentOffences_4 M o a1 1000 0 0
set_option maxRecDepth 100000 in
set_option maxHeartbeats 4000000 in
theorem cX4_spentOffences_met (l : Launch) (G : hG) (M : hM) {o : Nat} {a1 : Option Nat} {r : Int32} (h : fX4_spentOffences M o a1 = some r) : hPMet l yX4_spentOffences wsX4_spentOffences rmX4_spentOffences [.ref o, va_rf a1] G M (some (.int r)) := by
  refine hp_entry (own := RX4) (cc := cX4_spentOffences) (maxL := 5) (ret := (some .int)) (lv := [some (va_rf (some o)), some (va_rf a1), none, none, none]) (by decide) rfl rfl (hcc rfl (hcc (rf_cat _) hc0)) (Nat.le_of_ble_eq_true rfl) rfl (fun κ hG hl hR P => ?_)
  subst hG; subst hl
  unfold fX4_spentOffences at h
  have C := P.1
  refine v_iconst C (pc := 0) (v := 0) dX4_spentOffences_0 (by decide) ?_
  refine v_istore_n C (pc := 1) (i := 2) (lv' := [some (va_rf (some o)), some (va_rf a1), some (.int 0), none, none]) dX4_spentOffences_1 rfl (lw_br (j := 1) rfl) rfl ?_
  refine v_iconst C (pc := 2) (v := 0) dX4_spentOffences_2 (by decide) ?_
  refine v_istore_n C (pc := 3) (i := 3) (lv' := [some (va_rf (some o)), some (va_rf a1), some (.int 0), some (.int 0), none]) dX4_spentOffences_3 rfl (lw_bi (j := 2) rfl) rfl ?_
  exact tlX4_spentOffences_4 P hR  1000 _ _ h
/-! X4_ofAccusedq -/
abbrev rmX4_ofAccusedq : Room := { frames := 7, cells := 0, slots := 0, locals := 114 }
theorem iwX4_ofAccusedq_X0 : ∀ w ∈ u_ws RX0 TX0 14, w ∈ wsX4_ofAccused := fun _ h => List.mem_cons_of_mem _ (List.mem_append_left _ (List.mem_append_left _ (List.mem_append_left _ (List.mem_append_left _ (List.mem_append_left _ (List.mem_append_right _ (h)))))))
theorem flX4_ofAccusedq_178 : Cond.fieldLink RX4 178 "Chargehouse$Accused" "state" "I" ∈ wsX4_ofAccused := List.mem_cons_of_mem _ (List.mem_append_left _ (List.mem_append_left _ (List.mem_append_left _ (List.mem_append_left _ (List.mem_append_left _ (List.mem_append_left _ (List.mem_append_left _ (List.mem_of_getElem? (i := 2) rfl))))))))
theorem flX4_ofAccusedq_190 : Cond.fieldLink RX4 190 "Chargehouse$Accused" "charges" "I" ∈ wsX4_ofAccused := List.mem_cons_of_mem _ (List.mem_append_left _ (List.mem_append_left _ (List.mem_append_left _ (List.mem_append_left _ (List.mem_append_left _ (List.mem_append_left _ (List.mem_append_left _ (List.mem_of_getElem? (i := 3) rfl))))))))
theorem flX4_ofAccusedq_207 : Cond.fieldLink RX4 207 "Chargehouse$Accused" "isInCustody" "Z" ∈ wsX4_ofAccused := List.mem_cons_of_mem _ (List.mem_append_left _ (List.mem_append_left _ (List.mem_append_left _ (List.mem_append_left _ (List.mem_append_left _ (List.mem_append_left _ (List.mem_append_left _ (List.mem_of_getElem? (i := 4) rfl))))))))
theorem flX4_ofAccusedq_249 : Cond.fieldLink RX4 249 "Chargehouse$Accused" "months" "I" ∈ wsX4_ofAccused := List.mem_cons_of_mem _ (List.mem_append_left _ (List.mem_append_left _ (List.mem_append_left _ (List.mem_append_left _ (List.mem_append_left _ (List.mem_append_left _ (List.mem_append_left _ (List.mem_of_getElem? (i := 7) rfl))))))))
theorem flX4_ofAccusedq_313 : Cond.fieldLink RX4 313 "Chargehouse$Accused" "daysWhileOpen" "I" ∈ wsX4_ofAccused := List.mem_cons_of_mem _ (List.mem_append_left _ (List.mem_append_left _ (List.mem_append_left _ (List.mem_append_left _ (List.mem_append_left _ (List.mem_append_left _ (List.mem_append_left _ (List.mem_of_getElem? (i := 5) rfl))))))))
theorem flX4_ofAccusedq_316 : Cond.fieldLink RX4 316 "Chargehouse$Accused" "daysWhileCharged" "I" ∈ wsX4_ofAccused := List.mem_cons_of_mem _ (List.mem_append_left _ (List.mem_append_left _ (List.mem_append_left _ (List.mem_append_left _ (List.mem_append_left _ (List.mem_append_left _ (List.mem_append_left _ (List.mem_of_getElem? (i := 6) rfl))))))))
theorem flX4_ofAccusedq_319 : Cond.fieldLink RX4 319 "Chargehouse$Accused" "convictedOf" "I" ∈ wsX4_ofAccused := List.mem_cons_of_mem _ (List.mem_append_left _ (List.mem_append_left _ (List.mem_append_left _ (List.mem_append_left _ (List.mem_append_left _ (List.mem_append_left _ (List.mem_append_left _ (List.mem_of_getElem? (i := 8) rfl))))))))
def fX4_ofAccusedq (M : hM) (o : Nat) (a1 : Int32) (a2 : Int32) (a3 : Int32) : Option Int32 :=
  (hC M 4 (some o)).bind fun _ =>
  (fX4_accusedAtq M o a1 a2).bind fun x1 =>
  if (a3 : Int32) = 0 then (
    (gI M 0 2 x1).bind fun x4 =>
    some x4
  ) else (
    if (a3 : Int32) = 1 then (
      (gI M 0 3 x1).bind fun x6 =>
      some x6
    ) else (
      if (a3 : Int32) = 2 then (
        (gI M 0 7 x1).bind fun x8 =>
        if (x8 : Int32) = 0 then (
          some 0
        ) else (
          some 1
        )
      ) else (
        if (a3 : Int32) = 3 then (
          (gI M 0 8 x1).bind fun x11 =>
          some x11
        ) else (
          if (a3 : Int32) = 4 then (
            (gI M 0 9 x1).bind fun x13 =>
            some x13
          ) else (
            if (a3 : Int32) = 5 then (
              (gI M 0 11 x1).bind fun x15 =>
              some x15
            ) else (
              if (a3 : Int32) = 6 then (
                (gI M 0 12 x1).bind fun x17 =>
                some x17
              ) else (
                if (a3 : Int32) = 7 then (
                  (hC M 4 (some o)).bind fun _ =>
                  (fX4_spentOffences M o x1).bind fun x19 =>
                  some x19
                ) else (
                    none
                )
              )
            )
          )
        )
      )
    )
  )
set_option maxRecDepth 100000 in
set_option maxHeartbeats 4000000 in
theorem cX4_ofAccusedq_met (l : Launch) (G : hG) (M : hM) {o : Nat} {a1 : Int32} {a2 : Int32} {a3 : Int32} {r : Int32} (h : fX4_ofAccusedq M o a1 a2 a3 = some r) : hPMet l yX4_ofAccused wsX4_ofAccused rmX4_ofAccusedq [.ref o, .int a1, .int a2, .int a3] G M (some (.int r)) := by
  refine hp_entry (own := RX4) (cc := cX4_ofAccused) (maxL := 5) (ret := (some .int)) (lv := [some (va_rf (some o)), some (.int a1), some (.int a2), some (.int a3), none]) (by decide) rfl rfl (hcc rfl (hcc rfl (hcc rfl (hcc rfl hc0)))) (Nat.le_of_ble_eq_true rfl) rfl (fun κ hG hl hR P => ?_)
  subst hG; subst hl
  unfold fX4_ofAccusedq at h
  have C := P.1
  refine v_aload_n C (pc := 0) (i := 0) dX4_ofAccused_0 rfl ?_
  refine v_iload_n C (pc := 1) (i := 1) dX4_ofAccused_1 rfl ?_
  refine v_iload_n C (pc := 2) (i := 2) dX4_ofAccused_2 rfl ?_
  obtain ⟨y2, hy2, h⟩ := Option.bind_eq_some_iff.mp h
  obtain ⟨fsy2, hfy2⟩ := hC_some hy2
  obtain ⟨x1, e1, h⟩ := Option.bind_eq_some_iff.mp h
  refine v_pV C (pc := 3) (ci := 4) [.int a1, .int a2] 2 (cX4_accusedAtq_met (kl κ) (kG κ) _ e1) hfy2 rfl gX4_ofAccused_X4_accusedAt rfl hdX4_accusedAt rfl rfl rfl (by rw [hR]; exact ⟨Nat.le_of_ble_eq_true rfl, Nat.le_of_ble_eq_true rfl⟩) ⟨Nat.zero_le _, Nat.zero_le _⟩ (Nat.le_of_ble_eq_true rfl) rfl dX4_ofAccused_3 ?_
  refine v_astore C (pc := 6) (i := 4) (lv' := [some (va_rf (some o)), some (.int a1), some (.int a2), some (.int a3), some (va_rf x1)]) dX4_ofAccused_6 rfl (lw_bi (j := 3) rfl) rfl ?_
  refine v_iload_n C (pc := 8) (i := 3) dX4_ofAccused_8 rfl ?_
  by_cases c3 : (a3 : Int32) = 0
  · rw [if_pos c3] at h
    refine v_tabIn C (pc := 9) (tgt := 56) dX4_ofAccused_9 c3 (by decide) (by decide) rfl (by decide) ?_
    refine v_aload C (pc := 56) (i := 4) dX4_ofAccused_56 rfl ?_
    obtain ⟨x4, e4, h⟩ := Option.bind_eq_some_iff.mp h
    refine v_getI C (pc := 58) (ci := 0) 2 iwX4_ofAccusedq_X0 rfl (by decide) flX4_ofAccusedq_178 e4 dX4_ofAccused_58 ?_
    have h := Option.some.inj h
    subst h
    exact v_pret (pc := 61) P rfl rfl (nar_int _) dX4_ofAccused_61
  · rw [if_neg c3] at h
    by_cases c5 : (a3 : Int32) = 1
    · rw [if_pos c5] at h
      refine v_tabIn C (pc := 9) (tgt := 62) dX4_ofAccused_9 c5 (by decide) (by decide) rfl (by decide) ?_
      refine v_aload C (pc := 62) (i := 4) dX4_ofAccused_62 rfl ?_
      obtain ⟨x6, e6, h⟩ := Option.bind_eq_some_iff.mp h
      refine v_getI C (pc := 64) (ci := 0) 3 iwX4_ofAccusedq_X0 rfl (by decide) flX4_ofAccusedq_190 e6 dX4_ofAccused_64 ?_
      have h := Option.some.inj h
      subst h
      exact v_pret (pc := 67) P rfl rfl (nar_int _) dX4_ofAccused_67
    · rw [if_neg c5] at h
      by_cases c7 : (a3 : Int32) = 2
      · rw [if_pos c7] at h
        refine v_tabIn C (pc := 9) (tgt := 68) dX4_ofAccused_9 c7 (by decide) (by decide) rfl (by decide) ?_
        refine v_aload C (pc := 68) (i := 4) dX4_ofAccused_68 rfl ?_
        obtain ⟨x8, e8, h⟩ := Option.bind_eq_some_iff.mp h
        refine v_getI C (pc := 70) (ci := 0) 7 iwX4_ofAccusedq_X0 rfl (by decide) flX4_ofAccusedq_207 e8 dX4_ofAccused_70 ?_
        refine v_if_eq C (pc := 73) (tgt := 80) dX4_ofAccused_73 (by decide) (fun c9 => ?_) (fun c9 => ?_)
        · rw [if_pos c9] at h
          refine v_iconst C (pc := 80) (v := 0) dX4_ofAccused_80 (by decide) ?_
          have h := Option.some.inj h
          subst h
          exact v_pret (pc := 81) P rfl rfl (nar_int _) dX4_ofAccused_81
        · rw [if_neg c9] at h
          refine v_iconst C (pc := 76) (v := 1) dX4_ofAccused_76 (by decide) ?_
          refine v_goto C (pc := 77) (tgt := 81) dX4_ofAccused_77 (by decide) ?_
          have h := Option.some.inj h
          subst h
          exact v_pret (pc := 81) P rfl rfl (nar_int _) dX4_ofAccused_81
      · rw [if_neg c7] at h
        by_cases c10 : (a3 : Int32) = 3
        · rw [if_pos c10] at h
          refine v_tabIn C (pc := 9) (tgt := 82) dX4_ofAccused_9 c10 (by decide) (by decide) rfl (by decide) ?_
          refine v_aload C (pc := 82) (i := 4) dX4_ofAccused_82 rfl ?_
          obtain ⟨x11, e11, h⟩ := Option.bind_eq_some_iff.mp h
          refine v_getI C (pc := 84) (ci := 0) 8 iwX4_ofAccusedq_X0 rfl (by decide) flX4_ofAccusedq_313 e11 dX4_ofAccused_84 ?_
          have h := Option.some.inj h
          subst h
          exact v_pret (pc := 87) P rfl rfl (nar_int _) dX4_ofAccused_87
        · rw [if_neg c10] at h
          by_cases c12 : (a3 : Int32) = 4
          · rw [if_pos c12] at h
            refine v_tabIn C (pc := 9) (tgt := 88) dX4_ofAccused_9 c12 (by decide) (by decide) rfl (by decide) ?_
            refine v_aload C (pc := 88) (i := 4) dX4_ofAccused_88 rfl ?_
            obtain ⟨x13, e13, h⟩ := Option.bind_eq_some_iff.mp h
            refine v_getI C (pc := 90) (ci := 0) 9 iwX4_ofAccusedq_X0 rfl (by decide) flX4_ofAccusedq_316 e13 dX4_ofAccused_90 ?_
            have h := Option.some.inj h
            subst h
            exact v_pret (pc := 93) P rfl rfl (nar_int _) dX4_ofAccused_93
          · rw [if_neg c12] at h
            by_cases c14 : (a3 : Int32) = 5
            · rw [if_pos c14] at h
              refine v_tabIn C (pc := 9) (tgt := 94) dX4_ofAccused_9 c14 (by decide) (by decide) rfl (by decide) ?_
              refine v_aload C (pc := 94) (i := 4) dX4_ofAccused_94 rfl ?_
              obtain ⟨x15, e15, h⟩ := Option.bind_eq_some_iff.mp h
              refine v_getI C (pc := 96) (ci := 0) 11 iwX4_ofAccusedq_X0 rfl (by decide) flX4_ofAccusedq_249 e15 dX4_ofAccused_96 ?_
              have h := Option.some.inj h
              subst h
              exact v_pret (pc := 99) P rfl rfl (nar_int _) dX4_ofAccused_99
            · rw [if_neg c14] at h
              by_cases c16 : (a3 : Int32) = 6
              · rw [if_pos c16] at h
                refine v_tabIn C (pc := 9) (tgt := 100) dX4_ofAccused_9 c16 (by decide) (by decide) rfl (by decide) ?_
                refine v_aload C (pc := 100) (i := 4) dX4_ofAccused_100 rfl ?_
                obtain ⟨x17, e17, h⟩ := Option.bind_eq_some_iff.mp h
                refine v_getI C (pc := 102) (ci := 0) 12 iwX4_ofAccusedq_X0 rfl (by decide) flX4_ofAccusedq_319 e17 dX4_ofAccused_102 ?_
                have h := Option.some.inj h
                subst h
                exact v_pret (pc := 105) P rfl rfl (nar_int _) dX4_ofAccused_105
              · rw [if_neg c16] at h
                by_cases c18 : (a3 : Int32) = 7
                · rw [if_pos c18] at h
                  refine v_tabIn C (pc := 9) (tgt := 106) dX4_ofAccused_9 c18 (by decide) (by decide) rfl (by decide) ?_
                  refine v_aload_n C (pc := 106) (i := 0) dX4_ofAccused_106 rfl ?_
                  refine v_aload C (pc := 107) (i := 4) dX4_ofAccused_107 rfl ?_
                  obtain ⟨y20, hy20, h⟩ := Option.bind_eq_some_iff.mp h
                  obtain ⟨fsy20, hfy20⟩ := hC_some hy20
                  obtain ⟨x19, e19, h⟩ := Option.bind_eq_some_iff.mp h
                  refine v_pV C (pc := 109) (ci := 4) [va_rf x1] 1 (cX4_spentOffences_met (kl κ) (kG κ) _ e19) hfy20 rfl gX4_ofAccused_X4_spentOffences rfl hdX4_spentOffences rfl rfl rfl (by rw [hR]; exact ⟨Nat.le_of_ble_eq_true rfl, Nat.le_of_ble_eq_true rfl⟩) ⟨Nat.zero_le _, Nat.zero_le _⟩ (Nat.le_of_ble_eq_true rfl) rfl dX4_ofAccused_109 ?_
                  have h := Option.some.inj h
                  subst h
                  exact v_pret (pc := 112) P rfl rfl (nar_int _) dX4_ofAccused_112
                · rw [if_neg c18] at h
                  refine v_tabOut C (pc := 9) (n := 8) (tgt := 113) dX4_ofAccused_9 (fun k hk => ?_) rfl (by decide) (by decide) ?_
                  · rcases (show k = 0 ∨ k = 1 ∨ k = 2 ∨ k = 3 ∨ k = 4 ∨ k = 5 ∨ k = 6 ∨ k = 7 by omega) with rfl | rfl | rfl | rfl | rfl | rfl | rfl | rfl <;> assumption
                  · cases h
/-! X4_countq -/
abbrev rmX4_countq : Room := { frames := 6, cells := 0, slots := 0, locals := 90 }
theorem iwX4_countq_X4 : ∀ w ∈ u_ws RX4 TX4 13, w ∈ wsX4_count := fun _ h => List.mem_cons_of_mem _ (List.mem_append_left _ (List.mem_append_right _ (h)))
theorem flX4_countq_210 : Cond.fieldLink RX4 210 "Chargehouse" "drops" "I" ∈ wsX4_count := List.mem_cons_of_mem _ (List.mem_append_left _ (List.mem_append_left _ (List.mem_of_getElem? (i := 5) rfl)))
theorem flX4_countq_215 : Cond.fieldLink RX4 215 "Chargehouse" "reopened" "I" ∈ wsX4_count := List.mem_cons_of_mem _ (List.mem_append_left _ (List.mem_append_left _ (List.mem_of_getElem? (i := 6) rfl)))
theorem flX4_countq_224 : Cond.fieldLink RX4 224 "Chargehouse" "convictions" "I" ∈ wsX4_count := List.mem_cons_of_mem _ (List.mem_append_left _ (List.mem_append_left _ (List.mem_of_getElem? (i := 2) rfl)))
theorem flX4_countq_232 : Cond.fieldLink RX4 232 "Chargehouse" "acquittals" "I" ∈ wsX4_count := List.mem_cons_of_mem _ (List.mem_append_left _ (List.mem_append_left _ (List.mem_of_getElem? (i := 3) rfl)))
theorem flX4_countq_246 : Cond.fieldLink RX4 246 "Chargehouse" "pleas" "I" ∈ wsX4_count := List.mem_cons_of_mem _ (List.mem_append_left _ (List.mem_append_left _ (List.mem_of_getElem? (i := 4) rfl)))
theorem flX4_countq_75 : Cond.fieldLink RX4 75 "Chargehouse" "clockReleases" "I" ∈ wsX4_count := List.mem_cons_of_mem _ (List.mem_append_left _ (List.mem_append_left _ (List.mem_of_getElem? (i := 7) rfl)))
def fX4_countq (M : hM) (o : Nat) (a1 : Int32) : Option Int32 :=
  if (a1 : Int32) = 0 then (
    (gI M 4 7 (some o)).bind fun x2 =>
    some x2
  ) else (
    if (a1 : Int32) = 1 then (
      (gI M 4 8 (some o)).bind fun x4 =>
      some x4
    ) else (
      if (a1 : Int32) = 2 then (
        (gI M 4 9 (some o)).bind fun x6 =>
        some x6
      ) else (
        if (a1 : Int32) = 3 then (
          (gI M 4 10 (some o)).bind fun x8 =>
          some x8
        ) else (
          if (a1 : Int32) = 4 then (
            (gI M 4 11 (some o)).bind fun x10 =>
            some x10
          ) else (
            if (a1 : Int32) = 5 then (
              (gI M 4 12 (some o)).bind fun x12 =>
              some x12
            ) else (
                none
            )
          )
        )
      )
    )
  )
set_option maxRecDepth 100000 in
set_option maxHeartbeats 4000000 in
theorem cX4_countq_met (l : Launch) (G : hG) (M : hM) {o : Nat} {a1 : Int32} {r : Int32} (h : fX4_countq M o a1 = some r) : hPMet l yX4_count wsX4_count rmX4_countq [.ref o, .int a1] G M (some (.int r)) := by
  refine hp_entry (own := RX4) (cc := cX4_count) (maxL := 2) (ret := (some .int)) (lv := [some (va_rf (some o)), some (.int a1)]) (by decide) rfl rfl (hcc rfl (hcc rfl hc0)) (Nat.le_of_ble_eq_true rfl) rfl (fun κ hG hl hR P => ?_)
  subst hG; subst hl
  unfold fX4_countq at h
  have C := P.1
  refine v_iload_n C (pc := 0) (i := 1) dX4_count_0 rfl ?_
  by_cases c1 : (a1 : Int32) = 0
  · rw [if_pos c1] at h
    refine v_tabIn C (pc := 1) (tgt := 40) dX4_count_1 c1 (by decide) (by decide) rfl (by decide) ?_
    refine v_aload_n C (pc := 40) (i := 0) dX4_count_40 rfl ?_
    obtain ⟨x2, e2, h⟩ := Option.bind_eq_some_iff.mp h
    refine v_getI C (pc := 41) (ci := 4) 7 iwX4_countq_X4 rfl (by decide) flX4_countq_224 e2 dX4_count_41 ?_
    have h := Option.some.inj h
    subst h
    exact v_pret (pc := 44) P rfl rfl (nar_int _) dX4_count_44
  · rw [if_neg c1] at h
    by_cases c3 : (a1 : Int32) = 1
    · rw [if_pos c3] at h
      refine v_tabIn C (pc := 1) (tgt := 45) dX4_count_1 c3 (by decide) (by decide) rfl (by decide) ?_
      refine v_aload_n C (pc := 45) (i := 0) dX4_count_45 rfl ?_
      obtain ⟨x4, e4, h⟩ := Option.bind_eq_some_iff.mp h
      refine v_getI C (pc := 46) (ci := 4) 8 iwX4_countq_X4 rfl (by decide) flX4_countq_232 e4 dX4_count_46 ?_
      have h := Option.some.inj h
      subst h
      exact v_pret (pc := 49) P rfl rfl (nar_int _) dX4_count_49
    · rw [if_neg c3] at h
      by_cases c5 : (a1 : Int32) = 2
      · rw [if_pos c5] at h
        refine v_tabIn C (pc := 1) (tgt := 50) dX4_count_1 c5 (by decide) (by decide) rfl (by decide) ?_
        refine v_aload_n C (pc := 50) (i := 0) dX4_count_50 rfl ?_
        obtain ⟨x6, e6, h⟩ := Option.bind_eq_some_iff.mp h
        refine v_getI C (pc := 51) (ci := 4) 9 iwX4_countq_X4 rfl (by decide) flX4_countq_246 e6 dX4_count_51 ?_
        have h := Option.some.inj h
        subst h
        exact v_pret (pc := 54) P rfl rfl (nar_int _) dX4_count_54
      · rw [if_neg c5] at h
        by_cases c7 : (a1 : Int32) = 3
        · rw [if_pos c7] at h
          refine v_tabIn C (pc := 1) (tgt := 55) dX4_count_1 c7 (by decide) (by decide) rfl (by decide) ?_
          refine v_aload_n C (pc := 55) (i := 0) dX4_count_55 rfl ?_
          obtain ⟨x8, e8, h⟩ := Option.bind_eq_some_iff.mp h
          refine v_getI C (pc := 56) (ci := 4) 10 iwX4_countq_X4 rfl (by decide) flX4_countq_210 e8 dX4_count_56 ?_
          have h := Option.some.inj h
          subst h
          exact v_pret (pc := 59) P rfl rfl (nar_int _) dX4_count_59
        · rw [if_neg c7] at h
          by_cases c9 : (a1 : Int32) = 4
          · rw [if_pos c9] at h
            refine v_tabIn C (pc := 1) (tgt := 60) dX4_count_1 c9 (by decide) (by decide) rfl (by decide) ?_
            refine v_aload_n C (pc := 60) (i := 0) dX4_count_60 rfl ?_
            obtain ⟨x10, e10, h⟩ := Option.bind_eq_some_iff.mp h
            refine v_getI C (pc := 61) (ci := 4) 11 iwX4_countq_X4 rfl (by decide) flX4_countq_215 e10 dX4_count_61 ?_
            have h := Option.some.inj h
            subst h
            exact v_pret (pc := 64) P rfl rfl (nar_int _) dX4_count_64
          · rw [if_neg c9] at h
            by_cases c11 : (a1 : Int32) = 5
            · rw [if_pos c11] at h
              refine v_tabIn C (pc := 1) (tgt := 65) dX4_count_1 c11 (by decide) (by decide) rfl (by decide) ?_
              refine v_aload_n C (pc := 65) (i := 0) dX4_count_65 rfl ?_
              obtain ⟨x12, e12, h⟩ := Option.bind_eq_some_iff.mp h
              refine v_getI C (pc := 66) (ci := 4) 12 iwX4_countq_X4 rfl (by decide) flX4_countq_75 e12 dX4_count_66 ?_
              have h := Option.some.inj h
              subst h
              exact v_pret (pc := 69) P rfl rfl (nar_int _) dX4_count_69
            · rw [if_neg c11] at h
              refine v_tabOut C (pc := 1) (n := 6) (tgt := 70) dX4_count_1 (fun k hk => ?_) rfl (by decide) (by decide) ?_
              · rcases (show k = 0 ∨ k = 1 ∨ k = 2 ∨ k = 3 ∨ k = 4 ∨ k = 5 by omega) with rfl | rfl | rfl | rfl | rfl | rfl <;> assumption
              · cases h
