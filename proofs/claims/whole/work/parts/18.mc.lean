/-! X5_thrown -/
abbrev rmX5_thrown : Room := { frames := 0, cells := 0, slots := 0, locals := 0 }
theorem iwX5_thrown_X5 : ∀ w ∈ u_ws RX5 TX5 38, w ∈ wsX5_thrown := fun _ h => List.mem_cons_of_mem _ (List.mem_append_right _ (h))
theorem flX5_thrown_107 : Cond.fieldLink RX5 107 "ChargehouseModel" "thrown" "I" ∈ wsX5_thrown := List.mem_cons_of_mem _ (List.mem_append_left _ (List.mem_of_getElem? (i := 0) rfl))
def fX5_thrown (M : hM) (o : Nat)  : Option Int32 :=
  (gI M 5 0 (some o)).bind fun x1 =>
  some x1
set_option maxRecDepth 100000 in
set_option maxHeartbeats 4000000 in
theorem cX5_thrown_met (l : Launch) (G : hG) (M : hM) {o : Nat}  {r : Int32} (h : fX5_thrown M o = some r) : hPMet l yX5_thrown wsX5_thrown rmX5_thrown [.ref o] G M (some (.int r)) := by
  refine hp_entry (own := RX5) (cc := cX5_thrown) (maxL := 1) (ret := (some .int)) (lv := [some (va_rf (some o))]) (by decide) rfl rfl (hcc rfl hc0) (Nat.le_of_ble_eq_true rfl) rfl (fun κ hG hl hR P => ?_)
  subst hG; subst hl
  unfold fX5_thrown at h
  have C := P.1
  refine v_aload_n C (pc := 0) (i := 0) dX5_thrown_0 rfl ?_
  obtain ⟨x1, e1, h⟩ := Option.bind_eq_some_iff.mp h
  refine v_getI C (pc := 1) (ci := 5) 0 iwX5_thrown_X5 rfl (by decide) flX5_thrown_107 e1 dX5_thrown_1 ?_
  have h := Option.some.inj h
  subst h
  exact v_pret (pc := 4) P rfl rfl (nar_int _) dX5_thrown_4
/-! X5_in -/
abbrev rmX5_in : Room := { frames := 0, cells := 0, slots := 0, locals := 0 }
def fX5_in (a0 : Int32) (a1 : Int32) (a2 : Int32) : Option Int32 :=
  if (a0 : Int32) < a1 then (
    some 0
  ) else (
    if (a2 : Int32) < a0 then (
      some 0
    ) else (
      some 1
    )
  )
set_option maxRecDepth 100000 in
set_option maxHeartbeats 4000000 in
theorem cX5_in_met (l : Launch) (G : hG) (M : hM) {a0 : Int32} {a1 : Int32} {a2 : Int32} {r : Int32} (h : fX5_in a0 a1 a2 = some r) : hPMet l yX5_in wsX5_in rmX5_in [.int a0, .int a1, .int a2] G M (some (.int r)) := by
  refine hp_entry (own := RX5) (cc := cX5_in) (maxL := 3) (ret := (some .boolean)) (lv := [some (.int a0), some (.int a1), some (.int a2)]) (by decide) rfl rfl (hcc rfl (hcc rfl (hcc rfl hc0))) (Nat.le_of_ble_eq_true rfl) rfl (fun κ hG hl hR P => ?_)
  subst hG; subst hl
  unfold fX5_in at h
  have C := P.1
  refine v_iload_n C (pc := 0) (i := 0) dX5_in_0 rfl ?_
  refine v_iload_n C (pc := 1) (i := 1) dX5_in_1 rfl ?_
  refine v_icmp_lt C (pc := 2) (tgt := 14) dX5_in_2 (by decide) (fun c1 => ?_) (fun c1 => ?_)
  · rw [if_pos c1] at h
    refine v_iconst C (pc := 14) (v := 0) dX5_in_14 (by decide) ?_
    have h := Option.some.inj h
    subst h
    exact v_pret (pc := 15) P rfl rfl (by decide +kernel) dX5_in_15
  · rw [if_neg c1] at h
    refine v_iload_n C (pc := 5) (i := 0) dX5_in_5 rfl ?_
    refine v_iload_n C (pc := 6) (i := 2) dX5_in_6 rfl ?_
    refine v_icmp_gt C (pc := 7) (tgt := 14) dX5_in_7 (by decide) (fun c2 => ?_) (fun c2 => ?_)
    · rw [if_pos c2] at h
      refine v_iconst C (pc := 14) (v := 0) dX5_in_14 (by decide) ?_
      have h := Option.some.inj h
      subst h
      exact v_pret (pc := 15) P rfl rfl (by decide +kernel) dX5_in_15
    · rw [if_neg c2] at h
      refine v_iconst C (pc := 10) (v := 1) dX5_in_10 (by decide) ?_
      refine v_goto C (pc := 11) (tgt := 15) dX5_in_11 (by decide) ?_
      have h := Option.some.inj h
      subst h
      exact v_pret (pc := 15) P rfl rfl (by decide +kernel) dX5_in_15
/-! X5_has -/
abbrev rmX5_has : Room := { frames := 0, cells := 0, slots := 0, locals := 0 }
def fX5_has (a0 : Int32) (a1 : Int32) : Option Int32 :=
  if (((a0 >>> (a1 &&& 31)) &&& 1) : Int32) = 1 then (
    some 1
  ) else (
    some 0
  )
set_option maxRecDepth 100000 in
set_option maxHeartbeats 4000000 in
theorem cX5_has_met (l : Launch) (G : hG) (M : hM) {a0 : Int32} {a1 : Int32} {r : Int32} (h : fX5_has a0 a1 = some r) : hPMet l yX5_has wsX5_has rmX5_has [.int a0, .int a1] G M (some (.int r)) := by
  refine hp_entry (own := RX5) (cc := cX5_has) (maxL := 2) (ret := (some .boolean)) (lv := [some (.int a0), some (.int a1)]) (by decide) rfl rfl (hcc rfl (hcc rfl hc0)) (Nat.le_of_ble_eq_true rfl) rfl (fun κ hG hl hR P => ?_)
  subst hG; subst hl
  unfold fX5_has at h
  have C := P.1
  refine v_iload_n C (pc := 0) (i := 0) dX5_has_0 rfl ?_
  refine v_iload_n C (pc := 1) (i := 1) dX5_has_1 rfl ?_
  refine v_ishr C (pc := 2) dX5_has_2 ?_
  refine v_iconst C (pc := 3) (v := 1) dX5_has_3 (by decide) ?_
  refine v_iand C (pc := 4) dX5_has_4 ?_
  refine v_iconst C (pc := 5) (v := 1) dX5_has_5 (by decide) ?_
  refine v_icmp_ne C (pc := 6) (tgt := 13) dX5_has_6 (by decide) (fun c1 => ?_) (fun c1 => ?_)
  · rw [if_neg c1] at h
    refine v_iconst C (pc := 13) (v := 0) dX5_has_13 (by decide) ?_
    have h := Option.some.inj h
    subst h
    exact v_pret (pc := 14) P rfl rfl (by decide +kernel) dX5_has_14
  · rw [if_pos c1] at h
    refine v_iconst C (pc := 9) (v := 1) dX5_has_9 (by decide) ?_
    refine v_goto C (pc := 10) (tgt := 14) dX5_has_10 (by decide) ?_
    have h := Option.some.inj h
    subst h
    exact v_pret (pc := 14) P rfl rfl (by decide +kernel) dX5_has_14
/-! X5_size -/
abbrev rmX5_size : Room := { frames := 0, cells := 0, slots := 0, locals := 0 }
def lX5_size_4  : Nat → Int32 → Int32 → Option Int32
  | 0, _ , _ => none
  | n + 1, a1, a2 =>
    if (a2 : Int32) ≤ 0 then (
      some a1
    ) else (
      (lX5_size_4  n) (a1 + (a2 - a2 / 2 * 2)) (a2 / 2)
    )
set_option maxRecDepth 100000 in
set_option maxHeartbeats 4000000 in
theorem tlX5_size_4 {κ : hKx} {M : hM} {r : Int32} (P : Cp κ RX5 cX5_size wsX5_size (some .int) (some (.int r))) (hR : kR κ = rmX5_size)    : ∀ (n : Nat) (a1 : Int32) (a2 : Int32), lX5_size_4  n a1 a2 = some r → VW κ 0 0 M 4 [none, some (.int a1), some (.int a2)] [] := by
  have C := P.1
  intro n
  induction n with
  | zero =>
    intro a1 a2 h
    unfold lX5_size_4 at h
    cases h
  | succ n ih =>
    intro a1 a2 h
    unfold lX5_size_4 at h
    refine v_iload_n C (pc := 4) (i := 2) dX5_size_4 rfl ?_
    refine v_if_le C (pc := 5) (tgt := 21) dX5_size_5 (by decide) (fun c1 => ?_) (fun c1 => ?_)
    · rw [if_pos c1] at h
      refine v_iload_n C (pc := 21) (i := 1) dX5_size_21 rfl ?_
      have h := Option.some.inj h
      subst h
      exact v_pret (pc := 22) P rfl rfl (nar_int _) dX5_size_22
    · rw [if_neg c1] at h
      refine v_iload_n C (pc := 8) (i := 1) dX5_size_8 rfl ?_
      refine v_iload_n C (pc := 9) (i := 2) dX5_size_9 rfl ?_
      refine v_iconst C (pc := 10) (v := 2) dX5_size_10 (by decide) ?_
      refine v_irem C (pc := 11) dX5_size_11 (by decide) ?_
      refine v_iadd C (pc := 12) dX5_size_12 ?_
      refine v_istore_n C (pc := 13) (i := 1) (lv' := [none, some (.int (a1 + (a2 - a2 / 2 * 2))), some (.int a2)]) dX5_size_13 rfl rfl ?_
      refine v_iload_n C (pc := 14) (i := 2) dX5_size_14 rfl ?_
      refine v_iconst C (pc := 15) (v := 2) dX5_size_15 (by decide) ?_
      refine v_idiv C (pc := 16) dX5_size_16 (by decide) ?_
      refine v_istore_n C (pc := 17) (i := 2) (lv' := [none, some (.int (a1 + (a2 - a2 / 2 * 2))), some (.int (a2 / 2))]) dX5_size_17 rfl rfl ?_
      refine v_goto C (pc := 18) (tgt := 4) dX5_size_18 (by decide) ?_
      exact ih _ _ h
def fX5_size (a0 : Int32) : Option Int32 :=
  lX5_size_4  1000 0 a0
set_option maxRecDepth 100000 in
set_option maxHeartbeats 4000000 in
theorem cX5_size_met (l : Launch) (G : hG) (M : hM) {a0 : Int32} {r : Int32} (h : fX5_size a0 = some r) : hPMet l yX5_size wsX5_size rmX5_size [.int a0] G M (some (.int r)) := by
  refine hp_entry (own := RX5) (cc := cX5_size) (maxL := 3) (ret := (some .int)) (lv := [some (.int a0), none, none]) (by decide) rfl rfl (hcc rfl hc0) (Nat.le_of_ble_eq_true rfl) rfl (fun κ hG hl hR P => ?_)
  subst hG; subst hl
  unfold fX5_size at h
  have C := P.1
  refine v_iconst C (pc := 0) (v := 0) dX5_size_0 (by decide) ?_
  refine v_istore_n C (pc := 1) (i := 1) (lv' := [some (.int a0), some (.int 0), none]) dX5_size_1 rfl rfl ?_
  refine v_iload_n C (pc := 2) (i := 0) dX5_size_2 rfl ?_
  refine v_istore_n C (pc := 3) (i := 2) (lv' := [some (.int a0), some (.int 0), some (.int a0)]) dX5_size_3 rfl rfl ?_
  refine v_mask (lv' := [none, some (.int 0), some (.int a0)]) [false, true, true] rfl rfl ?_
  exact tlX5_size_4 P hR  1000 _ _ h
/-! X5_isOffence -/
abbrev rmX5_isOffence : Room := { frames := 1, cells := 0, slots := 0, locals := 22 }
theorem iwX5_isOffence_X5 : ∀ w ∈ u_ws RX5 TX5 38, w ∈ wsX5_isOffence := fun _ h => List.mem_cons_of_mem _ (List.mem_append_right _ (h))
theorem flX5_isOffence_111 : Cond.fieldLink RX5 111 "ChargehouseModel" "offences" "I" ∈ wsX5_isOffence := List.mem_cons_of_mem _ (List.mem_append_left _ (List.mem_of_getElem? (i := 0) rfl))
def fX5_isOffence (M : hM) (o : Nat) (a1 : Int32) : Option Int32 :=
  (gI M 5 2 (some o)).bind fun x1 =>
  (fX5_in a1 0 (x1 - 1)).bind fun x2 =>
  hbz x2
set_option maxRecDepth 100000 in
set_option maxHeartbeats 4000000 in
theorem cX5_isOffence_met (l : Launch) (G : hG) (M : hM) {o : Nat} {a1 : Int32} {r : Int32} (h : fX5_isOffence M o a1 = some r) : hPMet l yX5_isOffence wsX5_isOffence rmX5_isOffence [.ref o, .int a1] G M (some (.int r)) := by
  refine hp_entry (own := RX5) (cc := cX5_isOffence) (maxL := 2) (ret := (some .boolean)) (lv := [some (va_rf (some o)), some (.int a1)]) (by decide) rfl rfl (hcc rfl (hcc rfl hc0)) (Nat.le_of_ble_eq_true rfl) rfl (fun κ hG hl hR P => ?_)
  subst hG; subst hl
  unfold fX5_isOffence at h
  have C := P.1
  refine v_iload_n C (pc := 0) (i := 1) dX5_isOffence_0 rfl ?_
  refine v_iconst C (pc := 1) (v := 0) dX5_isOffence_1 (by decide) ?_
  refine v_aload_n C (pc := 2) (i := 0) dX5_isOffence_2 rfl ?_
  obtain ⟨x1, e1, h⟩ := Option.bind_eq_some_iff.mp h
  refine v_getI C (pc := 3) (ci := 5) 2 iwX5_isOffence_X5 rfl (by decide) flX5_isOffence_111 e1 dX5_isOffence_3 ?_
  refine v_iconst C (pc := 6) (v := 1) dX5_isOffence_6 (by decide) ?_
  refine v_isub C (pc := 7) dX5_isOffence_7 ?_
  obtain ⟨x2, e2, h⟩ := Option.bind_eq_some_iff.mp h
  refine v_pS C (pc := 8) [.int a1, .int 0, .int (x1 - 1)] 3 (cX5_in_met (kl κ) (kG κ) _ e2) gX5_isOffence_X5_in rfl hdsX5_in rfl rfl rfl (by rw [hR]; exact ⟨Nat.le_of_ble_eq_true rfl, Nat.le_of_ble_eq_true rfl⟩) ⟨Nat.zero_le _, Nat.zero_le _⟩ (Nat.le_of_ble_eq_true rfl) rfl dX5_isOffence_8 ?_
  obtain ⟨hb, h⟩ := hbz_inv h
  subst h
  exact v_pret (pc := 11) P rfl rfl (nar_bool hb) dX5_isOffence_11
/-! X5_isItem -/
abbrev rmX5_isItem : Room := { frames := 1, cells := 0, slots := 0, locals := 22 }
theorem iwX5_isItem_X5 : ∀ w ∈ u_ws RX5 TX5 38, w ∈ wsX5_isItem := fun _ h => List.mem_cons_of_mem _ (List.mem_append_right _ (h))
theorem flX5_isItem_118 : Cond.fieldLink RX5 118 "ChargehouseModel" "items" "I" ∈ wsX5_isItem := List.mem_cons_of_mem _ (List.mem_append_left _ (List.mem_of_getElem? (i := 0) rfl))
def fX5_isItem (M : hM) (o : Nat) (a1 : Int32) : Option Int32 :=
  (gI M 5 11 (some o)).bind fun x1 =>
  (fX5_in a1 0 (x1 - 1)).bind fun x2 =>
  hbz x2
set_option maxRecDepth 100000 in
set_option maxHeartbeats 4000000 in
theorem cX5_isItem_met (l : Launch) (G : hG) (M : hM) {o : Nat} {a1 : Int32} {r : Int32} (h : fX5_isItem M o a1 = some r) : hPMet l yX5_isItem wsX5_isItem rmX5_isItem [.ref o, .int a1] G M (some (.int r)) := by
  refine hp_entry (own := RX5) (cc := cX5_isItem) (maxL := 2) (ret := (some .boolean)) (lv := [some (va_rf (some o)), some (.int a1)]) (by decide) rfl rfl (hcc rfl (hcc rfl hc0)) (Nat.le_of_ble_eq_true rfl) rfl (fun κ hG hl hR P => ?_)
  subst hG; subst hl
  unfold fX5_isItem at h
  have C := P.1
  refine v_iload_n C (pc := 0) (i := 1) dX5_isItem_0 rfl ?_
  refine v_iconst C (pc := 1) (v := 0) dX5_isItem_1 (by decide) ?_
  refine v_aload_n C (pc := 2) (i := 0) dX5_isItem_2 rfl ?_
  obtain ⟨x1, e1, h⟩ := Option.bind_eq_some_iff.mp h
  refine v_getI C (pc := 3) (ci := 5) 11 iwX5_isItem_X5 rfl (by decide) flX5_isItem_118 e1 dX5_isItem_3 ?_
  refine v_iconst C (pc := 6) (v := 1) dX5_isItem_6 (by decide) ?_
  refine v_isub C (pc := 7) dX5_isItem_7 ?_
  obtain ⟨x2, e2, h⟩ := Option.bind_eq_some_iff.mp h
  refine v_pS C (pc := 8) [.int a1, .int 0, .int (x1 - 1)] 3 (cX5_in_met (kl κ) (kG κ) _ e2) gX5_isItem_X5_in rfl hdsX5_in rfl rfl rfl (by rw [hR]; exact ⟨Nat.le_of_ble_eq_true rfl, Nat.le_of_ble_eq_true rfl⟩) ⟨Nat.zero_le _, Nat.zero_le _⟩ (Nat.le_of_ble_eq_true rfl) rfl dX5_isItem_8 ?_
  obtain ⟨hb, h⟩ := hbz_inv h
  subst h
  exact v_pret (pc := 11) P rfl rfl (nar_bool hb) dX5_isItem_11
/-! X5_isIn -/
abbrev rmX5_isIn : Room := { frames := 1, cells := 0, slots := 0, locals := 22 }
theorem iwX5_isIn_X5 : ∀ w ∈ u_ws RX5 TX5 38, w ∈ wsX5_isIn := fun _ h => List.mem_cons_of_mem _ (List.mem_append_right _ (h))
theorem flX5_isIn_121 : Cond.fieldLink RX5 121 "ChargehouseModel" "files" "I" ∈ wsX5_isIn := List.mem_cons_of_mem _ (List.mem_append_left _ (List.mem_of_getElem? (i := 0) rfl))
theorem flX5_isIn_25 : Cond.fieldLink RX5 25 "ChargehouseModel" "accused" "[I" ∈ wsX5_isIn := List.mem_cons_of_mem _ (List.mem_append_left _ (List.mem_of_getElem? (i := 1) rfl))
def fX5_isIn (M : hM) (o : Nat) (a1 : Int32) (a2 : Int32) : Option Int32 :=
  (gI M 5 7 (some o)).bind fun x1 =>
  (fX5_in a1 0 (x1 - 1)).bind fun x2 =>
  if (x2 : Int32) = 0 then (
    some 0
  ) else (
    (fX5_in a2 0 7).bind fun x4 =>
    if (x4 : Int32) = 0 then (
      some 0
    ) else (
      (gR M 5 9 (some o)).bind fun x6 =>
      (aI M 0 x6 a1).bind fun x7 =>
      (fX5_has x7 a2).bind fun x8 =>
      if (x8 : Int32) = 0 then (
        some 0
      ) else (
        some 1
      )
    )
  )
set_option maxRecDepth 100000 in
set_option maxHeartbeats 4000000 in
theorem cX5_isIn_met (l : Launch) (G : hG) (M : hM) {o : Nat} {a1 : Int32} {a2 : Int32} {r : Int32} (h : fX5_isIn M o a1 a2 = some r) : hPMet l yX5_isIn wsX5_isIn rmX5_isIn [.ref o, .int a1, .int a2] G M (some (.int r)) := by
  refine hp_entry (own := RX5) (cc := cX5_isIn) (maxL := 3) (ret := (some .boolean)) (lv := [some (va_rf (some o)), some (.int a1), some (.int a2)]) (by decide) rfl rfl (hcc rfl (hcc rfl (hcc rfl hc0))) (Nat.le_of_ble_eq_true rfl) rfl (fun κ hG hl hR P => ?_)
  subst hG; subst hl
  unfold fX5_isIn at h
  have C := P.1
  refine v_iload_n C (pc := 0) (i := 1) dX5_isIn_0 rfl ?_
  refine v_iconst C (pc := 1) (v := 0) dX5_isIn_1 (by decide) ?_
  refine v_aload_n C (pc := 2) (i := 0) dX5_isIn_2 rfl ?_
  obtain ⟨x1, e1, h⟩ := Option.bind_eq_some_iff.mp h
  refine v_getI C (pc := 3) (ci := 5) 7 iwX5_isIn_X5 rfl (by decide) flX5_isIn_121 e1 dX5_isIn_3 ?_
  refine v_iconst C (pc := 6) (v := 1) dX5_isIn_6 (by decide) ?_
  refine v_isub C (pc := 7) dX5_isIn_7 ?_
  obtain ⟨x2, e2, h⟩ := Option.bind_eq_some_iff.mp h
  refine v_pS C (pc := 8) [.int a1, .int 0, .int (x1 - 1)] 3 (cX5_in_met (kl κ) (kG κ) _ e2) gX5_isIn_X5_in rfl hdsX5_in rfl rfl rfl (by rw [hR]; exact ⟨Nat.le_of_ble_eq_true rfl, Nat.le_of_ble_eq_true rfl⟩) ⟨Nat.zero_le _, Nat.zero_le _⟩ (Nat.le_of_ble_eq_true rfl) rfl dX5_isIn_8 ?_
  refine v_if_eq C (pc := 11) (tgt := 41) dX5_isIn_11 (by decide) (fun c3 => ?_) (fun c3 => ?_)
  · rw [if_pos c3] at h
    refine v_iconst C (pc := 41) (v := 0) dX5_isIn_41 (by decide) ?_
    have h := Option.some.inj h
    subst h
    exact v_pret (pc := 42) P rfl rfl (by decide +kernel) dX5_isIn_42
  · rw [if_neg c3] at h
    refine v_iload_n C (pc := 14) (i := 2) dX5_isIn_14 rfl ?_
    refine v_iconst C (pc := 15) (v := 0) dX5_isIn_15 (by decide) ?_
    refine v_bipush C (pc := 16) (v := 7) dX5_isIn_16 (by decide) ?_
    obtain ⟨x4, e4, h⟩ := Option.bind_eq_some_iff.mp h
    refine v_pS C (pc := 18) [.int a2, .int 0, .int 7] 3 (cX5_in_met (kl κ) (kG κ) _ e4) gX5_isIn_X5_in rfl hdsX5_in rfl rfl rfl (by rw [hR]; exact ⟨Nat.le_of_ble_eq_true rfl, Nat.le_of_ble_eq_true rfl⟩) ⟨Nat.zero_le _, Nat.zero_le _⟩ (Nat.le_of_ble_eq_true rfl) rfl dX5_isIn_18 ?_
    refine v_if_eq C (pc := 21) (tgt := 41) dX5_isIn_21 (by decide) (fun c5 => ?_) (fun c5 => ?_)
    · rw [if_pos c5] at h
      refine v_iconst C (pc := 41) (v := 0) dX5_isIn_41 (by decide) ?_
      have h := Option.some.inj h
      subst h
      exact v_pret (pc := 42) P rfl rfl (by decide +kernel) dX5_isIn_42
    · rw [if_neg c5] at h
      refine v_aload_n C (pc := 24) (i := 0) dX5_isIn_24 rfl ?_
      obtain ⟨x6, e6, h⟩ := Option.bind_eq_some_iff.mp h
      refine v_getR C (pc := 25) (ci := 5) 9 iwX5_isIn_X5 rfl (by decide) flX5_isIn_25 e6 dX5_isIn_25 ?_
      refine v_iload_n C (pc := 28) (i := 1) dX5_isIn_28 rfl ?_
      obtain ⟨x7, e7, h⟩ := Option.bind_eq_some_iff.mp h
      refine v_iald C (pc := 29) e7 dX5_isIn_29 ?_
      refine v_iload_n C (pc := 30) (i := 2) dX5_isIn_30 rfl ?_
      obtain ⟨x8, e8, h⟩ := Option.bind_eq_some_iff.mp h
      refine v_pS C (pc := 31) [.int x7, .int a2] 2 (cX5_has_met (kl κ) (kG κ) _ e8) gX5_isIn_X5_has rfl hdsX5_has rfl rfl rfl (by rw [hR]; exact ⟨Nat.le_of_ble_eq_true rfl, Nat.le_of_ble_eq_true rfl⟩) ⟨Nat.zero_le _, Nat.zero_le _⟩ (Nat.le_of_ble_eq_true rfl) rfl dX5_isIn_31 ?_
      refine v_if_eq C (pc := 34) (tgt := 41) dX5_isIn_34 (by decide) (fun c9 => ?_) (fun c9 => ?_)
      · rw [if_pos c9] at h
        refine v_iconst C (pc := 41) (v := 0) dX5_isIn_41 (by decide) ?_
        have h := Option.some.inj h
        subst h
        exact v_pret (pc := 42) P rfl rfl (by decide +kernel) dX5_isIn_42
      · rw [if_neg c9] at h
        refine v_iconst C (pc := 37) (v := 1) dX5_isIn_37 (by decide) ?_
        refine v_goto C (pc := 38) (tgt := 42) dX5_isIn_38 (by decide) ?_
        have h := Option.some.inj h
        subst h
        exact v_pret (pc := 42) P rfl rfl (by decide +kernel) dX5_isIn_42
/-! X5_areThere -/
abbrev rmX5_areThere : Room := { frames := 0, cells := 0, slots := 0, locals := 0 }
theorem iwX5_areThere_X5 : ∀ w ∈ u_ws RX5 TX5 38, w ∈ wsX5_areThere := fun _ h => List.mem_cons_of_mem _ (List.mem_append_right _ (h))
theorem flX5_areThere_111 : Cond.fieldLink RX5 111 "ChargehouseModel" "offences" "I" ∈ wsX5_areThere := List.mem_cons_of_mem _ (List.mem_append_left _ (List.mem_of_getElem? (i := 0) rfl))
def fX5_areThere (M : hM) (o : Nat) (a1 : Int32) : Option Int32 :=
  if (a1 : Int32) < 0 then (
    some 0
  ) else (
    (gI M 5 2 (some o)).bind fun x2 =>
    if ((1 <<< (x2 &&& 31)) : Int32) ≤ a1 then (
      some 0
    ) else (
      some 1
    )
  )
set_option maxRecDepth 100000 in
set_option maxHeartbeats 4000000 in
theorem cX5_areThere_met (l : Launch) (G : hG) (M : hM) {o : Nat} {a1 : Int32} {r : Int32} (h : fX5_areThere M o a1 = some r) : hPMet l yX5_areThere wsX5_areThere rmX5_areThere [.ref o, .int a1] G M (some (.int r)) := by
  refine hp_entry (own := RX5) (cc := cX5_areThere) (maxL := 2) (ret := (some .boolean)) (lv := [some (va_rf (some o)), some (.int a1)]) (by decide) rfl rfl (hcc rfl (hcc rfl hc0)) (Nat.le_of_ble_eq_true rfl) rfl (fun κ hG hl hR P => ?_)
  subst hG; subst hl
  unfold fX5_areThere at h
  have C := P.1
  refine v_iload_n C (pc := 0) (i := 1) dX5_areThere_0 rfl ?_
  refine v_if_lt C (pc := 1) (tgt := 18) dX5_areThere_1 (by decide) (fun c1 => ?_) (fun c1 => ?_)
  · rw [if_pos c1] at h
    refine v_iconst C (pc := 18) (v := 0) dX5_areThere_18 (by decide) ?_
    have h := Option.some.inj h
    subst h
    exact v_pret (pc := 19) P rfl rfl (by decide +kernel) dX5_areThere_19
  · rw [if_neg c1] at h
    refine v_iload_n C (pc := 4) (i := 1) dX5_areThere_4 rfl ?_
    refine v_iconst C (pc := 5) (v := 1) dX5_areThere_5 (by decide) ?_
    refine v_aload_n C (pc := 6) (i := 0) dX5_areThere_6 rfl ?_
    obtain ⟨x2, e2, h⟩ := Option.bind_eq_some_iff.mp h
    refine v_getI C (pc := 7) (ci := 5) 2 iwX5_areThere_X5 rfl (by decide) flX5_areThere_111 e2 dX5_areThere_7 ?_
    refine v_ishl C (pc := 10) dX5_areThere_10 ?_
    refine v_icmp_ge C (pc := 11) (tgt := 18) dX5_areThere_11 (by decide) (fun c3 => ?_) (fun c3 => ?_)
    · rw [if_pos c3] at h
      refine v_iconst C (pc := 18) (v := 0) dX5_areThere_18 (by decide) ?_
      have h := Option.some.inj h
      subst h
      exact v_pret (pc := 19) P rfl rfl (by decide +kernel) dX5_areThere_19
    · rw [if_neg c3] at h
      refine v_iconst C (pc := 14) (v := 1) dX5_areThere_14 (by decide) ?_
      refine v_goto C (pc := 15) (tgt := 19) dX5_areThere_15 (by decide) ?_
      have h := Option.some.inj h
      subst h
      exact v_pret (pc := 19) P rfl rfl (by decide +kernel) dX5_areThere_19
/-! X5_lacking -/
abbrev rmX5_lacking : Room := { frames := 1, cells := 0, slots := 0, locals := 21 }
theorem iwX5_lacking_X5 : ∀ w ∈ u_ws RX5 TX5 38, w ∈ wsX5_lacking := fun _ h => List.mem_cons_of_mem _ (List.mem_append_right _ (h))
theorem flX5_lacking_118 : Cond.fieldLink RX5 118 "ChargehouseModel" "items" "I" ∈ wsX5_lacking := List.mem_cons_of_mem _ (List.mem_append_left _ (List.mem_of_getElem? (i := 0) rfl))
theorem flX5_lacking_31 : Cond.fieldLink RX5 31 "ChargehouseModel" "fileOf" "[I" ∈ wsX5_lacking := List.mem_cons_of_mem _ (List.mem_append_left _ (List.mem_of_getElem? (i := 1) rfl))
theorem flX5_lacking_37 : Cond.fieldLink RX5 37 "ChargehouseModel" "weights" "[I" ∈ wsX5_lacking := List.mem_cons_of_mem _ (List.mem_append_left _ (List.mem_of_getElem? (i := 2) rfl))
theorem flX5_lacking_40 : Cond.fieldLink RX5 40 "ChargehouseModel" "against" "[I" ∈ wsX5_lacking := List.mem_cons_of_mem _ (List.mem_append_left _ (List.mem_of_getElem? (i := 3) rfl))
theorem flX5_lacking_56 : Cond.fieldLink RX5 56 "ChargehouseModel" "shown" "[I" ∈ wsX5_lacking := List.mem_cons_of_mem _ (List.mem_append_left _ (List.mem_of_getElem? (i := 4) rfl))
theorem flX5_lacking_59 : Cond.fieldLink RX5 59 "ChargehouseModel" "isWithheld" "[Z" ∈ wsX5_lacking := List.mem_cons_of_mem _ (List.mem_append_left _ (List.mem_of_getElem? (i := 5) rfl))
def bX5_lacking_90 (M : hM) (o : Nat) (k5 : Int32 → Int32 → Option Int32) (a1 : Int32) (a2 : Int32) (a4 : Int32) (s0 : Int32) : Option Int32 :=
  k5 (s0 + 0) (a4 + 1)
set_option maxRecDepth 100000 in
set_option maxHeartbeats 4000000 in
theorem tbX5_lacking_90 {κ : hKx} {M : hM} {o : Nat} {r : Int32} (P : Cp κ RX5 cX5_lacking wsX5_lacking (some .int) (some (.int r))) (hR : kR κ = rmX5_lacking) {k5 : Int32 → Int32 → Option Int32} {a1 : Int32} {a2 : Int32} {a4 : Int32} {s0 : Int32} (hk5 : ∀ (a3 : Int32) (a4 : Int32), k5 a3 a4 = some r → VW κ 0 0 M 5 [some (va_rf (some o)), some (.int a1), some (.int a2), some (.int a3), some (.int a4), none] []) (h : bX5_lacking_90 M o k5 a1 a2 a4 s0 = some r) : VW κ 0 0 M 90 [some (va_rf (some o)), some (.int a1), some (.int a2), none, some (.int a4), none] [.int s0] := by
  unfold bX5_lacking_90 at h
  have C := P.1
  refine v_iconst C (pc := 90) (v := 0) dX5_lacking_90 (by decide) ?_
  refine v_iadd C (pc := 91) dX5_lacking_91 ?_
  refine v_istore_n C (pc := 92) (i := 3) (lv' := [some (va_rf (some o)), some (.int a1), some (.int a2), some (.int (s0 + 0)), some (.int a4), none]) dX5_lacking_92 rfl rfl ?_
  refine v_iinc C (pc := 93) (i := 4) (w := 1) (lv' := [some (va_rf (some o)), some (.int a1), some (.int a2), some (.int (s0 + 0)), some (.int (a4 + 1)), none]) dX5_lacking_93 rfl (by decide) rfl ?_
  refine v_goto C (pc := 96) (tgt := 5) dX5_lacking_96 (by decide) ?_
  exact hk5 _ _ h
def bX5_lacking_54 (M : hM) (o : Nat) (k5 : Int32 → Int32 → Option Int32) (a1 : Int32) (a2 : Int32) (a3 : Int32) (a4 : Int32) (s0 : Int32) : Option Int32 :=
  if (s0 : Int32) = 0 then (
    bX5_lacking_90 M o k5 a1 a2 a4 a3
  ) else (
    (gR M 5 20 (some o)).bind fun x7 =>
    (aI M 0 x7 a4).bind fun x8 =>
    (fX5_has x8 a2).bind fun x9 =>
    if (x9 : Int32) = 0 then (
      (gR M 5 21 (some o)).bind fun x11 =>
      (aI M 1 x11 a4).bind fun x12 =>
      if (x12 : Int32) = 0 then (
        k5 (a3 + 1) (a4 + 1)
      ) else (
        bX5_lacking_90 M o k5 a1 a2 a4 a3
      )
    ) else (
      bX5_lacking_90 M o k5 a1 a2 a4 a3
    )
  )
set_option maxRecDepth 100000 in
set_option maxHeartbeats 4000000 in
theorem tbX5_lacking_54 {κ : hKx} {M : hM} {o : Nat} {r : Int32} (P : Cp κ RX5 cX5_lacking wsX5_lacking (some .int) (some (.int r))) (hR : kR κ = rmX5_lacking) {k5 : Int32 → Int32 → Option Int32} {a1 : Int32} {a2 : Int32} {a3 : Int32} {a4 : Int32} {s0 : Int32} (hk5 : ∀ (a3 : Int32) (a4 : Int32), k5 a3 a4 = some r → VW κ 0 0 M 5 [some (va_rf (some o)), some (.int a1), some (.int a2), some (.int a3), some (.int a4), none] []) (h : bX5_lacking_54 M o k5 a1 a2 a3 a4 s0 = some r) : VW κ 0 0 M 54 [some (va_rf (some o)), some (.int a1), some (.int a2), some (.int a3), some (.int a4), none] [.int s0] := by
  unfold bX5_lacking_54 at h
  have C := P.1
  refine v_istore C (pc := 54) (i := 5) (lv' := [some (va_rf (some o)), some (.int a1), some (.int a2), some (.int a3), some (.int a4), some (.int s0)]) dX5_lacking_54 rfl rfl ?_
  refine v_iload_n C (pc := 56) (i := 3) dX5_lacking_56 rfl ?_
  refine v_iload C (pc := 57) (i := 5) dX5_lacking_57 rfl ?_
  refine v_if_eq C (pc := 59) (tgt := 90) dX5_lacking_59 (by decide) (fun c6 => ?_) (fun c6 => ?_)
  · rw [if_pos c6] at h
    refine v_mask (lv' := [some (va_rf (some o)), some (.int a1), some (.int a2), none, some (.int a4), none]) [true, true, true, false, true, false] rfl rfl ?_
    exact tbX5_lacking_90 P hR hk5 h
  · rw [if_neg c6] at h
    refine v_aload_n C (pc := 62) (i := 0) dX5_lacking_62 rfl ?_
    obtain ⟨x7, e7, h⟩ := Option.bind_eq_some_iff.mp h
    refine v_getR C (pc := 63) (ci := 5) 20 iwX5_lacking_X5 rfl (by decide) flX5_lacking_56 e7 dX5_lacking_63 ?_
    refine v_iload C (pc := 66) (i := 4) dX5_lacking_66 rfl ?_
    obtain ⟨x8, e8, h⟩ := Option.bind_eq_some_iff.mp h
    refine v_iald C (pc := 68) e8 dX5_lacking_68 ?_
    refine v_iload_n C (pc := 69) (i := 2) dX5_lacking_69 rfl ?_
    obtain ⟨x9, e9, h⟩ := Option.bind_eq_some_iff.mp h
    refine v_pS C (pc := 70) [.int x8, .int a2] 2 (cX5_has_met (kl κ) (kG κ) _ e9) gX5_lacking_X5_has rfl hdsX5_has rfl rfl rfl (by rw [hR]; exact ⟨Nat.le_of_ble_eq_true rfl, Nat.le_of_ble_eq_true rfl⟩) ⟨Nat.zero_le _, Nat.zero_le _⟩ (Nat.le_of_ble_eq_true rfl) rfl dX5_lacking_70 ?_
    refine v_if_ne C (pc := 73) (tgt := 90) dX5_lacking_73 (by decide) (fun c10 => ?_) (fun c10 => ?_)
    · rw [if_neg c10] at h
      refine v_mask (lv' := [some (va_rf (some o)), some (.int a1), some (.int a2), none, some (.int a4), none]) [true, true, true, false, true, false] rfl rfl ?_
      exact tbX5_lacking_90 P hR hk5 h
    · rw [if_pos c10] at h
      refine v_aload_n C (pc := 76) (i := 0) dX5_lacking_76 rfl ?_
      obtain ⟨x11, e11, h⟩ := Option.bind_eq_some_iff.mp h
      refine v_getR C (pc := 77) (ci := 5) 21 iwX5_lacking_X5 rfl (by decide) flX5_lacking_59 e11 dX5_lacking_77 ?_
      refine v_iload C (pc := 80) (i := 4) dX5_lacking_80 rfl ?_
      obtain ⟨x12, e12, h⟩ := Option.bind_eq_some_iff.mp h
      refine v_zald C (pc := 82) e12 dX5_lacking_82 ?_
      refine v_if_ne C (pc := 83) (tgt := 90) dX5_lacking_83 (by decide) (fun c13 => ?_) (fun c13 => ?_)
      · rw [if_neg c13] at h
        refine v_mask (lv' := [some (va_rf (some o)), some (.int a1), some (.int a2), none, some (.int a4), none]) [true, true, true, false, true, false] rfl rfl ?_
        exact tbX5_lacking_90 P hR hk5 h
      · rw [if_pos c13] at h
        refine v_iconst C (pc := 86) (v := 1) dX5_lacking_86 (by decide) ?_
        refine v_goto C (pc := 87) (tgt := 91) dX5_lacking_87 (by decide) ?_
        refine v_iadd C (pc := 91) dX5_lacking_91 ?_
        refine v_istore_n C (pc := 92) (i := 3) (lv' := [some (va_rf (some o)), some (.int a1), some (.int a2), some (.int (a3 + 1)), some (.int a4), some (.int s0)]) dX5_lacking_92 rfl rfl ?_
        refine v_iinc C (pc := 93) (i := 4) (w := 1) (lv' := [some (va_rf (some o)), some (.int a1), some (.int a2), some (.int (a3 + 1)), some (.int (a4 + 1)), some (.int s0)]) dX5_lacking_93 rfl (by decide) rfl ?_
        refine v_goto C (pc := 96) (tgt := 5) dX5_lacking_96 (by decide) ?_
        refine v_mask (lv' := [some (va_rf (some o)), some (.int a1), some (.int a2), some (.int (a3 + 1)), some (.int (a4 + 1)), none]) [true, true, true, true, true, false] rfl rfl ?_
        exact hk5 _ _ h
def bX5_lacking_53 (M : hM) (o : Nat) (k5 : Int32 → Int32 → Option Int32) (a1 : Int32) (a2 : Int32) (a3 : Int32) (a4 : Int32) : Option Int32 :=
  bX5_lacking_54 M o k5 a1 a2 a3 a4 0
set_option maxRecDepth 100000 in
set_option maxHeartbeats 4000000 in
theorem tbX5_lacking_53 {κ : hKx} {M : hM} {o : Nat} {r : Int32} (P : Cp κ RX5 cX5_lacking wsX5_lacking (some .int) (some (.int r))) (hR : kR κ = rmX5_lacking) {k5 : Int32 → Int32 → Option Int32} {a1 : Int32} {a2 : Int32} {a3 : Int32} {a4 : Int32} (hk5 : ∀ (a3 : Int32) (a4 : Int32), k5 a3 a4 = some r → VW κ 0 0 M 5 [some (va_rf (some o)), some (.int a1), some (.int a2), some (.int a3), some (.int a4), none] []) (h : bX5_lacking_53 M o k5 a1 a2 a3 a4 = some r) : VW κ 0 0 M 53 [some (va_rf (some o)), some (.int a1), some (.int a2), some (.int a3), some (.int a4), none] [] := by
  unfold bX5_lacking_53 at h
  have C := P.1
  refine v_iconst C (pc := 53) (v := 0) dX5_lacking_53 (by decide) ?_
  exact tbX5_lacking_54 P hR hk5 h
def lX5_lacking_5 (M : hM) (o : Nat) (a1 : Int32) (a2 : Int32) : Nat → Int32 → Int32 → Option Int32
  | 0, _ , _ => none
  | n + 1, a3, a4 =>
    (gI M 5 11 (some o)).bind fun x1 =>
    if (x1 : Int32) ≤ a4 then (
      some a3
    ) else (
      (gR M 5 12 (some o)).bind fun x3 =>
      (aI M 0 x3 a4).bind fun x4 =>
      if (x4 : Int32) = a1 then (
        (gR M 5 14 (some o)).bind fun x14 =>
        (aI M 0 x14 a4).bind fun x15 =>
        if 0 ≤ (x15 : Int32) then (
          bX5_lacking_53 M o (lX5_lacking_5 M o a1 a2 n) a1 a2 a3 a4
        ) else (
          (gR M 5 15 (some o)).bind fun x17 =>
          (aI M 0 x17 a4).bind fun x18 =>
          (fX5_has x18 a2).bind fun x19 =>
          if (x19 : Int32) = 0 then (
            bX5_lacking_53 M o (lX5_lacking_5 M o a1 a2 n) a1 a2 a3 a4
          ) else (
            bX5_lacking_54 M o (lX5_lacking_5 M o a1 a2 n) a1 a2 a3 a4 1
          )
        )
      ) else (
        bX5_lacking_53 M o (lX5_lacking_5 M o a1 a2 n) a1 a2 a3 a4
      )
    )
set_option maxRecDepth 100000 in
set_option maxHeartbeats 4000000 in
theorem tlX5_lacking_5 {κ : hKx} {M : hM} {o : Nat} {r : Int32} (P : Cp κ RX5 cX5_lacking wsX5_lacking (some .int) (some (.int r))) (hR : kR κ = rmX5_lacking)  {a1 : Int32} {a2 : Int32}  : ∀ (n : Nat) (a3 : Int32) (a4 : Int32), lX5_lacking_5 M o a1 a2 n a3 a4 = some r → VW κ 0 0 M 5 [some (va_rf (some o)), some (.int a1), some (.int a2), some (.int a3), some (.int a4), none] [] := by
  have C := P.1
  intro n
  induction n with
  | zero =>
    intro a3 a4 h
    unfold lX5_lacking_5 at h
    cases h
  | succ n ih =>
    intro a3 a4 h
    unfold lX5_lacking_5 at h
    refine v_iload C (pc := 5) (i := 4) dX5_lacking_5 rfl ?_
    refine v_aload_n C (pc := 7) (i := 0) dX5_lacking_7 rfl ?_
    obtain ⟨x1, e1, h⟩ := Option.bind_eq_some_iff.mp h
    refine v_getI C (pc := 8) (ci := 5) 11 iwX5_lacking_X5 rfl (by decide) flX5_lacking_118 e1 dX5_lacking_8 ?_
    refine v_icmp_ge C (pc := 11) (tgt := 99) dX5_lacking_11 (by decide) (fun c2 => ?_) (fun c2 => ?_)
    · rw [if_pos c2] at h
      refine v_iload_n C (pc := 99) (i := 3) dX5_lacking_99 rfl ?_
      have h := Option.some.inj h
      subst h
      exact v_pret (pc := 100) P rfl rfl (nar_int _) dX5_lacking_100
    · rw [if_neg c2] at h
      refine v_aload_n C (pc := 14) (i := 0) dX5_lacking_14 rfl ?_
      obtain ⟨x3, e3, h⟩ := Option.bind_eq_some_iff.mp h
      refine v_getR C (pc := 15) (ci := 5) 12 iwX5_lacking_X5 rfl (by decide) flX5_lacking_31 e3 dX5_lacking_15 ?_
      refine v_iload C (pc := 18) (i := 4) dX5_lacking_18 rfl ?_
      obtain ⟨x4, e4, h⟩ := Option.bind_eq_some_iff.mp h
      refine v_iald C (pc := 20) e4 dX5_lacking_20 ?_
      refine v_iload_n C (pc := 21) (i := 1) dX5_lacking_21 rfl ?_
      refine v_icmp_ne C (pc := 22) (tgt := 53) dX5_lacking_22 (by decide) (fun c5 => ?_) (fun c5 => ?_)
      · rw [if_neg c5] at h
        exact tbX5_lacking_53 P hR (fun q0 q1 h => ih q0 q1 h) h
      · rw [if_pos c5] at h
        refine v_aload_n C (pc := 25) (i := 0) dX5_lacking_25 rfl ?_
        obtain ⟨x14, e14, h⟩ := Option.bind_eq_some_iff.mp h
        refine v_getR C (pc := 26) (ci := 5) 14 iwX5_lacking_X5 rfl (by decide) flX5_lacking_37 e14 dX5_lacking_26 ?_
        refine v_iload C (pc := 29) (i := 4) dX5_lacking_29 rfl ?_
        obtain ⟨x15, e15, h⟩ := Option.bind_eq_some_iff.mp h
        refine v_iald C (pc := 31) e15 dX5_lacking_31 ?_
        refine v_if_ge C (pc := 32) (tgt := 53) dX5_lacking_32 (by decide) (fun c16 => ?_) (fun c16 => ?_)
        · rw [if_pos c16] at h
          exact tbX5_lacking_53 P hR (fun q0 q1 h => ih q0 q1 h) h
        · rw [if_neg c16] at h
          refine v_aload_n C (pc := 35) (i := 0) dX5_lacking_35 rfl ?_
          obtain ⟨x17, e17, h⟩ := Option.bind_eq_some_iff.mp h
          refine v_getR C (pc := 36) (ci := 5) 15 iwX5_lacking_X5 rfl (by decide) flX5_lacking_40 e17 dX5_lacking_36 ?_
          refine v_iload C (pc := 39) (i := 4) dX5_lacking_39 rfl ?_
          obtain ⟨x18, e18, h⟩ := Option.bind_eq_some_iff.mp h
          refine v_iald C (pc := 41) e18 dX5_lacking_41 ?_
          refine v_iload_n C (pc := 42) (i := 2) dX5_lacking_42 rfl ?_
          obtain ⟨x19, e19, h⟩ := Option.bind_eq_some_iff.mp h
          refine v_pS C (pc := 43) [.int x18, .int a2] 2 (cX5_has_met (kl κ) (kG κ) _ e19) gX5_lacking_X5_has rfl hdsX5_has rfl rfl rfl (by rw [hR]; exact ⟨Nat.le_of_ble_eq_true rfl, Nat.le_of_ble_eq_true rfl⟩) ⟨Nat.zero_le _, Nat.zero_le _⟩ (Nat.le_of_ble_eq_true rfl) rfl dX5_lacking_43 ?_
          refine v_if_eq C (pc := 46) (tgt := 53) dX5_lacking_46 (by decide) (fun c20 => ?_) (fun c20 => ?_)
          · rw [if_pos c20] at h
            exact tbX5_lacking_53 P hR (fun q0 q1 h => ih q0 q1 h) h
          · rw [if_neg c20] at h
            refine v_iconst C (pc := 49) (v := 1) dX5_lacking_49 (by decide) ?_
            refine v_goto C (pc := 50) (tgt := 54) dX5_lacking_50 (by decide) ?_
            exact tbX5_lacking_54 P hR (fun q0 q1 h => ih q0 q1 h) h
def fX5_lacking (M : hM) (o : Nat) (a1 : Int32) (a2 : Int32) : Option Int32 :=
  lX5_lacking_5 M o a1 a2 1000 0 0
set_option maxRecDepth 100000 in
set_option maxHeartbeats 4000000 in
theorem cX5_lacking_met (l : Launch) (G : hG) (M : hM) {o : Nat} {a1 : Int32} {a2 : Int32} {r : Int32} (h : fX5_lacking M o a1 a2 = some r) : hPMet l yX5_lacking wsX5_lacking rmX5_lacking [.ref o, .int a1, .int a2] G M (some (.int r)) := by
  refine hp_entry (own := RX5) (cc := cX5_lacking) (maxL := 6) (ret := (some .int)) (lv := [some (va_rf (some o)), some (.int a1), some (.int a2), none, none, none]) (by decide) rfl rfl (hcc rfl (hcc rfl (hcc rfl hc0))) (Nat.le_of_ble_eq_true rfl) rfl (fun κ hG hl hR P => ?_)
  subst hG; subst hl
  unfold fX5_lacking at h
  have C := P.1
  refine v_iconst C (pc := 0) (v := 0) dX5_lacking_0 (by decide) ?_
  refine v_istore_n C (pc := 1) (i := 3) (lv' := [some (va_rf (some o)), some (.int a1), some (.int a2), some (.int 0), none, none]) dX5_lacking_1 rfl rfl ?_
  refine v_iconst C (pc := 2) (v := 0) dX5_lacking_2 (by decide) ?_
  refine v_istore C (pc := 3) (i := 4) (lv' := [some (va_rf (some o)), some (.int a1), some (.int a2), some (.int 0), some (.int 0), none]) dX5_lacking_3 rfl rfl ?_
  exact tlX5_lacking_5 P hR  1000 _ _ h
/-! X5_strengthOf -/
abbrev rmX5_strengthOf : Room := { frames := 1, cells := 0, slots := 0, locals := 21 }
theorem iwX5_strengthOf_X5 : ∀ w ∈ u_ws RX5 TX5 38, w ∈ wsX5_strengthOf := fun _ h => List.mem_cons_of_mem _ (List.mem_append_right _ (h))
theorem flX5_strengthOf_118 : Cond.fieldLink RX5 118 "ChargehouseModel" "items" "I" ∈ wsX5_strengthOf := List.mem_cons_of_mem _ (List.mem_append_left _ (List.mem_of_getElem? (i := 0) rfl))
theorem flX5_strengthOf_31 : Cond.fieldLink RX5 31 "ChargehouseModel" "fileOf" "[I" ∈ wsX5_strengthOf := List.mem_cons_of_mem _ (List.mem_append_left _ (List.mem_of_getElem? (i := 1) rfl))
theorem flX5_strengthOf_34 : Cond.fieldLink RX5 34 "ChargehouseModel" "elementOf" "[I" ∈ wsX5_strengthOf := List.mem_cons_of_mem _ (List.mem_append_left _ (List.mem_of_getElem? (i := 2) rfl))
theorem flX5_strengthOf_37 : Cond.fieldLink RX5 37 "ChargehouseModel" "weights" "[I" ∈ wsX5_strengthOf := List.mem_cons_of_mem _ (List.mem_append_left _ (List.mem_of_getElem? (i := 7) rfl))
theorem flX5_strengthOf_40 : Cond.fieldLink RX5 40 "ChargehouseModel" "against" "[I" ∈ wsX5_strengthOf := List.mem_cons_of_mem _ (List.mem_append_left _ (List.mem_of_getElem? (i := 3) rfl))
theorem flX5_strengthOf_43 : Cond.fieldLink RX5 43 "ChargehouseModel" "how" "[I" ∈ wsX5_strengthOf := List.mem_cons_of_mem _ (List.mem_append_left _ (List.mem_of_getElem? (i := 4) rfl))
theorem flX5_strengthOf_50 : Cond.fieldLink RX5 50 "ChargehouseModel" "came" "[I" ∈ wsX5_strengthOf := List.mem_cons_of_mem _ (List.mem_append_left _ (List.mem_of_getElem? (i := 6) rfl))
theorem flX5_strengthOf_53 : Cond.fieldLink RX5 53 "ChargehouseModel" "admitted" "[I" ∈ wsX5_strengthOf := List.mem_cons_of_mem _ (List.mem_append_left _ (List.mem_of_getElem? (i := 5) rfl))
def bX5_strengthOf_136 (M : hM) (o : Nat) (k6 : Int32 → Int32 → Option Int32) (a1 : Int32) (a2 : Int32) (a3 : Int32) (a5 : Int32) (s0 : Int32) : Option Int32 :=
  k6 (s0 + 0) (a5 + 1)
set_option maxRecDepth 100000 in
set_option maxHeartbeats 4000000 in
theorem tbX5_strengthOf_136 {κ : hKx} {M : hM} {o : Nat} {r : Int32} (P : Cp κ RX5 cX5_strengthOf wsX5_strengthOf (some .int) (some (.int r))) (hR : kR κ = rmX5_strengthOf) {k6 : Int32 → Int32 → Option Int32} {a1 : Int32} {a2 : Int32} {a3 : Int32} {a5 : Int32} {s0 : Int32} (hk6 : ∀ (a4 : Int32) (a5 : Int32), k6 a4 a5 = some r → VW κ 0 0 M 6 [some (va_rf (some o)), some (.int a1), some (.int a2), some (.int a3), some (.int a4), some (.int a5), none, none] []) (h : bX5_strengthOf_136 M o k6 a1 a2 a3 a5 s0 = some r) : VW κ 0 0 M 136 [some (va_rf (some o)), some (.int a1), some (.int a2), some (.int a3), none, some (.int a5), none, none] [.int s0] := by
  unfold bX5_strengthOf_136 at h
  have C := P.1
  refine v_iconst C (pc := 136) (v := 0) dX5_strengthOf_136 (by decide) ?_
  refine v_iadd C (pc := 137) dX5_strengthOf_137 ?_
  refine v_istore C (pc := 138) (i := 4) (lv' := [some (va_rf (some o)), some (.int a1), some (.int a2), some (.int a3), some (.int (s0 + 0)), some (.int a5), none, none]) dX5_strengthOf_138 rfl rfl ?_
  refine v_iinc C (pc := 140) (i := 5) (w := 1) (lv' := [some (va_rf (some o)), some (.int a1), some (.int a2), some (.int a3), some (.int (s0 + 0)), some (.int (a5 + 1)), none, none]) dX5_strengthOf_140 rfl (by decide) rfl ?_
  refine v_goto C (pc := 143) (tgt := 6) dX5_strengthOf_143 (by decide) ?_
  exact hk6 _ _ h
def bX5_strengthOf_101 (M : hM) (o : Nat) (k6 : Int32 → Int32 → Option Int32) (a1 : Int32) (a2 : Int32) (a3 : Int32) (a4 : Int32) (a5 : Int32) (a6 : Int32) (s0 : Int32) : Option Int32 :=
  if (a6 : Int32) = 0 then (
    bX5_strengthOf_136 M o k6 a1 a2 a3 a5 a4
  ) else (
    (gR M 5 18 (some o)).bind fun x10 =>
    (aI M 0 x10 a5).bind fun x11 =>
    if (a3 : Int32) < x11 then (
      bX5_strengthOf_136 M o k6 a1 a2 a3 a5 a4
    ) else (
      if (s0 : Int32) = 0 then (
        bX5_strengthOf_136 M o k6 a1 a2 a3 a5 a4
      ) else (
        (gR M 5 14 (some o)).bind fun x14 =>
        (aI M 0 x14 a5).bind fun x15 =>
        k6 (a4 + x15) (a5 + 1)
      )
    )
  )
set_option maxRecDepth 100000 in
set_option maxHeartbeats 4000000 in
theorem tbX5_strengthOf_101 {κ : hKx} {M : hM} {o : Nat} {r : Int32} (P : Cp κ RX5 cX5_strengthOf wsX5_strengthOf (some .int) (some (.int r))) (hR : kR κ = rmX5_strengthOf) {k6 : Int32 → Int32 → Option Int32} {a1 : Int32} {a2 : Int32} {a3 : Int32} {a4 : Int32} {a5 : Int32} {a6 : Int32} {s0 : Int32} (hk6 : ∀ (a4 : Int32) (a5 : Int32), k6 a4 a5 = some r → VW κ 0 0 M 6 [some (va_rf (some o)), some (.int a1), some (.int a2), some (.int a3), some (.int a4), some (.int a5), none, none] []) (h : bX5_strengthOf_101 M o k6 a1 a2 a3 a4 a5 a6 s0 = some r) : VW κ 0 0 M 101 [some (va_rf (some o)), some (.int a1), some (.int a2), some (.int a3), some (.int a4), some (.int a5), some (.int a6), none] [.int s0] := by
  unfold bX5_strengthOf_101 at h
  have C := P.1
  refine v_istore C (pc := 101) (i := 7) (lv' := [some (va_rf (some o)), some (.int a1), some (.int a2), some (.int a3), some (.int a4), some (.int a5), some (.int a6), some (.int s0)]) dX5_strengthOf_101 rfl rfl ?_
  refine v_iload C (pc := 103) (i := 4) dX5_strengthOf_103 rfl ?_
  refine v_iload C (pc := 105) (i := 6) dX5_strengthOf_105 rfl ?_
  refine v_if_eq C (pc := 107) (tgt := 136) dX5_strengthOf_107 (by decide) (fun c9 => ?_) (fun c9 => ?_)
  · rw [if_pos c9] at h
    refine v_mask (lv' := [some (va_rf (some o)), some (.int a1), some (.int a2), some (.int a3), none, some (.int a5), none, none]) [true, true, true, true, false, true, false, false] rfl rfl ?_
    exact tbX5_strengthOf_136 P hR hk6 h
  · rw [if_neg c9] at h
    refine v_aload_n C (pc := 110) (i := 0) dX5_strengthOf_110 rfl ?_
    obtain ⟨x10, e10, h⟩ := Option.bind_eq_some_iff.mp h
    refine v_getR C (pc := 111) (ci := 5) 18 iwX5_strengthOf_X5 rfl (by decide) flX5_strengthOf_50 e10 dX5_strengthOf_111 ?_
    refine v_iload C (pc := 114) (i := 5) dX5_strengthOf_114 rfl ?_
    obtain ⟨x11, e11, h⟩ := Option.bind_eq_some_iff.mp h
    refine v_iald C (pc := 116) e11 dX5_strengthOf_116 ?_
    refine v_iload_n C (pc := 117) (i := 3) dX5_strengthOf_117 rfl ?_
    refine v_icmp_gt C (pc := 118) (tgt := 136) dX5_strengthOf_118 (by decide) (fun c12 => ?_) (fun c12 => ?_)
    · rw [if_pos c12] at h
      refine v_mask (lv' := [some (va_rf (some o)), some (.int a1), some (.int a2), some (.int a3), none, some (.int a5), none, none]) [true, true, true, true, false, true, false, false] rfl rfl ?_
      exact tbX5_strengthOf_136 P hR hk6 h
    · rw [if_neg c12] at h
      refine v_iload C (pc := 121) (i := 7) dX5_strengthOf_121 rfl ?_
      refine v_if_eq C (pc := 123) (tgt := 136) dX5_strengthOf_123 (by decide) (fun c13 => ?_) (fun c13 => ?_)
      · rw [if_pos c13] at h
        refine v_mask (lv' := [some (va_rf (some o)), some (.int a1), some (.int a2), some (.int a3), none, some (.int a5), none, none]) [true, true, true, true, false, true, false, false] rfl rfl ?_
        exact tbX5_strengthOf_136 P hR hk6 h
      · rw [if_neg c13] at h
        refine v_aload_n C (pc := 126) (i := 0) dX5_strengthOf_126 rfl ?_
        obtain ⟨x14, e14, h⟩ := Option.bind_eq_some_iff.mp h
        refine v_getR C (pc := 127) (ci := 5) 14 iwX5_strengthOf_X5 rfl (by decide) flX5_strengthOf_37 e14 dX5_strengthOf_127 ?_
        refine v_iload C (pc := 130) (i := 5) dX5_strengthOf_130 rfl ?_
        obtain ⟨x15, e15, h⟩ := Option.bind_eq_some_iff.mp h
        refine v_iald C (pc := 132) e15 dX5_strengthOf_132 ?_
        refine v_goto C (pc := 133) (tgt := 137) dX5_strengthOf_133 (by decide) ?_
        refine v_iadd C (pc := 137) dX5_strengthOf_137 ?_
        refine v_istore C (pc := 138) (i := 4) (lv' := [some (va_rf (some o)), some (.int a1), some (.int a2), some (.int a3), some (.int (a4 + x15)), some (.int a5), some (.int a6), some (.int s0)]) dX5_strengthOf_138 rfl rfl ?_
        refine v_iinc C (pc := 140) (i := 5) (w := 1) (lv' := [some (va_rf (some o)), some (.int a1), some (.int a2), some (.int a3), some (.int (a4 + x15)), some (.int (a5 + 1)), some (.int a6), some (.int s0)]) dX5_strengthOf_140 rfl (by decide) rfl ?_
        refine v_goto C (pc := 143) (tgt := 6) dX5_strengthOf_143 (by decide) ?_
        refine v_mask (lv' := [some (va_rf (some o)), some (.int a1), some (.int a2), some (.int a3), some (.int (a4 + x15)), some (.int (a5 + 1)), none, none]) [true, true, true, true, true, true, false, false] rfl rfl ?_
        exact hk6 _ _ h
def bX5_strengthOf_96 (M : hM) (o : Nat) (k6 : Int32 → Int32 → Option Int32) (a1 : Int32) (a2 : Int32) (a3 : Int32) (a4 : Int32) (a5 : Int32) (a6 : Int32) : Option Int32 :=
  bX5_strengthOf_101 M o k6 a1 a2 a3 a4 a5 a6 1
set_option maxRecDepth 100000 in
set_option maxHeartbeats 4000000 in
theorem tbX5_strengthOf_96 {κ : hKx} {M : hM} {o : Nat} {r : Int32} (P : Cp κ RX5 cX5_strengthOf wsX5_strengthOf (some .int) (some (.int r))) (hR : kR κ = rmX5_strengthOf) {k6 : Int32 → Int32 → Option Int32} {a1 : Int32} {a2 : Int32} {a3 : Int32} {a4 : Int32} {a5 : Int32} {a6 : Int32} (hk6 : ∀ (a4 : Int32) (a5 : Int32), k6 a4 a5 = some r → VW κ 0 0 M 6 [some (va_rf (some o)), some (.int a1), some (.int a2), some (.int a3), some (.int a4), some (.int a5), none, none] []) (h : bX5_strengthOf_96 M o k6 a1 a2 a3 a4 a5 a6 = some r) : VW κ 0 0 M 96 [some (va_rf (some o)), some (.int a1), some (.int a2), some (.int a3), some (.int a4), some (.int a5), some (.int a6), none] [] := by
  unfold bX5_strengthOf_96 at h
  have C := P.1
  refine v_iconst C (pc := 96) (v := 1) dX5_strengthOf_96 (by decide) ?_
  refine v_goto C (pc := 97) (tgt := 101) dX5_strengthOf_97 (by decide) ?_
  exact tbX5_strengthOf_101 P hR hk6 h
def bX5_strengthOf_100 (M : hM) (o : Nat) (k6 : Int32 → Int32 → Option Int32) (a1 : Int32) (a2 : Int32) (a3 : Int32) (a4 : Int32) (a5 : Int32) (a6 : Int32) : Option Int32 :=
  bX5_strengthOf_101 M o k6 a1 a2 a3 a4 a5 a6 0
set_option maxRecDepth 100000 in
set_option maxHeartbeats 4000000 in
theorem tbX5_strengthOf_100 {κ : hKx} {M : hM} {o : Nat} {r : Int32} (P : Cp κ RX5 cX5_strengthOf wsX5_strengthOf (some .int) (some (.int r))) (hR : kR κ = rmX5_strengthOf) {k6 : Int32 → Int32 → Option Int32} {a1 : Int32} {a2 : Int32} {a3 : Int32} {a4 : Int32} {a5 : Int32} {a6 : Int32} (hk6 : ∀ (a4 : Int32) (a5 : Int32), k6 a4 a5 = some r → VW κ 0 0 M 6 [some (va_rf (some o)), some (.int a1), some (.int a2), some (.int a3), some (.int a4), some (.int a5), none, none] []) (h : bX5_strengthOf_100 M o k6 a1 a2 a3 a4 a5 a6 = some r) : VW κ 0 0 M 100 [some (va_rf (some o)), some (.int a1), some (.int a2), some (.int a3), some (.int a4), some (.int a5), some (.int a6), none] [] := by
  unfold bX5_strengthOf_100 at h
  have C := P.1
  refine v_iconst C (pc := 100) (v := 0) dX5_strengthOf_100 (by decide) ?_
  exact tbX5_strengthOf_101 P hR hk6 h
def bX5_strengthOf_62 (M : hM) (o : Nat) (k6 : Int32 → Int32 → Option Int32) (a1 : Int32) (a2 : Int32) (a3 : Int32) (a4 : Int32) (a5 : Int32) (s0 : Int32) : Option Int32 :=
  (gR M 5 16 (some o)).bind fun x6 =>
  (aI M 0 x6 a5).bind fun x7 =>
  if (x7 : Int32) = 0 then (
    bX5_strengthOf_96 M o k6 a1 a2 a3 a4 a5 s0
  ) else (
    (gR M 5 19 (some o)).bind fun x16 =>
    (aI M 0 x16 a5).bind fun x17 =>
    if (x17 : Int32) = (-1) then (
      bX5_strengthOf_100 M o k6 a1 a2 a3 a4 a5 s0
    ) else (
      (gR M 5 19 (some o)).bind fun x19 =>
      (aI M 0 x19 a5).bind fun x20 =>
      if (a3 : Int32) < x20 then (
        bX5_strengthOf_100 M o k6 a1 a2 a3 a4 a5 s0
      ) else (
        bX5_strengthOf_96 M o k6 a1 a2 a3 a4 a5 s0
      )
    )
  )
set_option maxRecDepth 100000 in
set_option maxHeartbeats 4000000 in
theorem tbX5_strengthOf_62 {κ : hKx} {M : hM} {o : Nat} {r : Int32} (P : Cp κ RX5 cX5_strengthOf wsX5_strengthOf (some .int) (some (.int r))) (hR : kR κ = rmX5_strengthOf) {k6 : Int32 → Int32 → Option Int32} {a1 : Int32} {a2 : Int32} {a3 : Int32} {a4 : Int32} {a5 : Int32} {s0 : Int32} (hk6 : ∀ (a4 : Int32) (a5 : Int32), k6 a4 a5 = some r → VW κ 0 0 M 6 [some (va_rf (some o)), some (.int a1), some (.int a2), some (.int a3), some (.int a4), some (.int a5), none, none] []) (h : bX5_strengthOf_62 M o k6 a1 a2 a3 a4 a5 s0 = some r) : VW κ 0 0 M 62 [some (va_rf (some o)), some (.int a1), some (.int a2), some (.int a3), some (.int a4), some (.int a5), none, none] [.int s0] := by
  unfold bX5_strengthOf_62 at h
  have C := P.1
  refine v_istore C (pc := 62) (i := 6) (lv' := [some (va_rf (some o)), some (.int a1), some (.int a2), some (.int a3), some (.int a4), some (.int a5), some (.int s0), none]) dX5_strengthOf_62 rfl rfl ?_
  refine v_aload_n C (pc := 64) (i := 0) dX5_strengthOf_64 rfl ?_
  obtain ⟨x6, e6, h⟩ := Option.bind_eq_some_iff.mp h
  refine v_getR C (pc := 65) (ci := 5) 16 iwX5_strengthOf_X5 rfl (by decide) flX5_strengthOf_43 e6 dX5_strengthOf_65 ?_
  refine v_iload C (pc := 68) (i := 5) dX5_strengthOf_68 rfl ?_
  obtain ⟨x7, e7, h⟩ := Option.bind_eq_some_iff.mp h
  refine v_iald C (pc := 70) e7 dX5_strengthOf_70 ?_
  refine v_if_eq C (pc := 71) (tgt := 96) dX5_strengthOf_71 (by decide) (fun c8 => ?_) (fun c8 => ?_)
  · rw [if_pos c8] at h
    exact tbX5_strengthOf_96 P hR hk6 h
  · rw [if_neg c8] at h
    refine v_aload_n C (pc := 74) (i := 0) dX5_strengthOf_74 rfl ?_
    obtain ⟨x16, e16, h⟩ := Option.bind_eq_some_iff.mp h
    refine v_getR C (pc := 75) (ci := 5) 19 iwX5_strengthOf_X5 rfl (by decide) flX5_strengthOf_53 e16 dX5_strengthOf_75 ?_
    refine v_iload C (pc := 78) (i := 5) dX5_strengthOf_78 rfl ?_
    obtain ⟨x17, e17, h⟩ := Option.bind_eq_some_iff.mp h
    refine v_iald C (pc := 80) e17 dX5_strengthOf_80 ?_
    refine v_iconst C (pc := 81) (v := (-1)) dX5_strengthOf_81 (by decide) ?_
    refine v_icmp_eq C (pc := 82) (tgt := 100) dX5_strengthOf_82 (by decide) (fun c18 => ?_) (fun c18 => ?_)
    · rw [if_pos c18] at h
      exact tbX5_strengthOf_100 P hR hk6 h
    · rw [if_neg c18] at h
      refine v_aload_n C (pc := 85) (i := 0) dX5_strengthOf_85 rfl ?_
      obtain ⟨x19, e19, h⟩ := Option.bind_eq_some_iff.mp h
      refine v_getR C (pc := 86) (ci := 5) 19 iwX5_strengthOf_X5 rfl (by decide) flX5_strengthOf_53 e19 dX5_strengthOf_86 ?_
      refine v_iload C (pc := 89) (i := 5) dX5_strengthOf_89 rfl ?_
      obtain ⟨x20, e20, h⟩ := Option.bind_eq_some_iff.mp h
      refine v_iald C (pc := 91) e20 dX5_strengthOf_91 ?_
      refine v_iload_n C (pc := 92) (i := 3) dX5_strengthOf_92 rfl ?_
      refine v_icmp_gt C (pc := 93) (tgt := 100) dX5_strengthOf_93 (by decide) (fun c21 => ?_) (fun c21 => ?_)
      · rw [if_pos c21] at h
        exact tbX5_strengthOf_100 P hR hk6 h
      · rw [if_neg c21] at h
        exact tbX5_strengthOf_96 P hR hk6 h
def bX5_strengthOf_61 (M : hM) (o : Nat) (k6 : Int32 → Int32 → Option Int32) (a1 : Int32) (a2 : Int32) (a3 : Int32) (a4 : Int32) (a5 : Int32) : Option Int32 :=
  bX5_strengthOf_62 M o k6 a1 a2 a3 a4 a5 0
set_option maxRecDepth 100000 in
set_option maxHeartbeats 4000000 in
theorem tbX5_strengthOf_61 {κ : hKx} {M : hM} {o : Nat} {r : Int32} (P : Cp κ RX5 cX5_strengthOf wsX5_strengthOf (some .int) (some (.int r))) (hR : kR κ = rmX5_strengthOf) {k6 : Int32 → Int32 → Option Int32} {a1 : Int32} {a2 : Int32} {a3 : Int32} {a4 : Int32} {a5 : Int32} (hk6 : ∀ (a4 : Int32) (a5 : Int32), k6 a4 a5 = some r → VW κ 0 0 M 6 [some (va_rf (some o)), some (.int a1), some (.int a2), some (.int a3), some (.int a4), some (.int a5), none, none] []) (h : bX5_strengthOf_61 M o k6 a1 a2 a3 a4 a5 = some r) : VW κ 0 0 M 61 [some (va_rf (some o)), some (.int a1), some (.int a2), some (.int a3), some (.int a4), some (.int a5), none, none] [] := by
  unfold bX5_strengthOf_61 at h
  have C := P.1
  refine v_iconst C (pc := 61) (v := 0) dX5_strengthOf_61 (by decide) ?_
  exact tbX5_strengthOf_62 P hR hk6 h
def lX5_strengthOf_6 (M : hM) (o : Nat) (a1 : Int32) (a2 : Int32) (a3 : Int32) : Nat → Int32 → Int32 → Option Int32
  | 0, _ , _ => none
  | n + 1, a4, a5 =>
    (gI M 5 11 (some o)).bind fun x1 =>
    if (x1 : Int32) ≤ a5 then (
      some a4
    ) else (
      (gR M 5 12 (some o)).bind fun x3 =>
      (aI M 0 x3 a5).bind fun x4 =>
      if (x4 : Int32) = (a1 / 8) then (
        (gR M 5 13 (some o)).bind fun x22 =>
        (aI M 0 x22 a5).bind fun x23 =>
        if (x23 : Int32) = a2 then (
          (gR M 5 15 (some o)).bind fun x25 =>
          (aI M 0 x25 a5).bind fun x26 =>
          (fX5_has x26 (a1 - a1 / 8 * 8)).bind fun x27 =>
          if (x27 : Int32) = 0 then (
            bX5_strengthOf_61 M o (lX5_strengthOf_6 M o a1 a2 a3 n) a1 a2 a3 a4 a5
          ) else (
            bX5_strengthOf_62 M o (lX5_strengthOf_6 M o a1 a2 a3 n) a1 a2 a3 a4 a5 1
          )
        ) else (
          bX5_strengthOf_61 M o (lX5_strengthOf_6 M o a1 a2 a3 n) a1 a2 a3 a4 a5
        )
      ) else (
        bX5_strengthOf_61 M o (lX5_strengthOf_6 M o a1 a2 a3 n) a1 a2 a3 a4 a5
      )
    )
set_option maxRecDepth 100000 in
set_option maxHeartbeats 4000000 in
theorem tlX5_strengthOf_6 {κ : hKx} {M : hM} {o : Nat} {r : Int32} (P : Cp κ RX5 cX5_strengthOf wsX5_strengthOf (some .int) (some (.int r))) (hR : kR κ = rmX5_strengthOf)  {a1 : Int32} {a2 : Int32} {a3 : Int32}  : ∀ (n : Nat) (a4 : Int32) (a5 : Int32), lX5_strengthOf_6 M o a1 a2 a3 n a4 a5 = some r → VW κ 0 0 M 6 [some (va_rf (some o)), some (.int a1), some (.int a2), some (.int a3), some (.int a4), some (.int a5), none, none] [] := by
  have C := P.1
  intro n
  induction n with
  | zero =>
    intro a4 a5 h
    unfold lX5_strengthOf_6 at h
    cases h
  | succ n ih =>
    intro a4 a5 h
    unfold lX5_strengthOf_6 at h
    refine v_iload C (pc := 6) (i := 5) dX5_strengthOf_6 rfl ?_
    refine v_aload_n C (pc := 8) (i := 0) dX5_strengthOf_8 rfl ?_
    obtain ⟨x1, e1, h⟩ := Option.bind_eq_some_iff.mp h
    refine v_getI C (pc := 9) (ci := 5) 11 iwX5_strengthOf_X5 rfl (by decide) flX5_strengthOf_118 e1 dX5_strengthOf_9 ?_
    refine v_icmp_ge C (pc := 12) (tgt := 146) dX5_strengthOf_12 (by decide) (fun c2 => ?_) (fun c2 => ?_)
    · rw [if_pos c2] at h
      refine v_iload C (pc := 146) (i := 4) dX5_strengthOf_146 rfl ?_
      have h := Option.some.inj h
      subst h
      exact v_pret (pc := 148) P rfl rfl (nar_int _) dX5_strengthOf_148
    · rw [if_neg c2] at h
      refine v_aload_n C (pc := 15) (i := 0) dX5_strengthOf_15 rfl ?_
      obtain ⟨x3, e3, h⟩ := Option.bind_eq_some_iff.mp h
      refine v_getR C (pc := 16) (ci := 5) 12 iwX5_strengthOf_X5 rfl (by decide) flX5_strengthOf_31 e3 dX5_strengthOf_16 ?_
      refine v_iload C (pc := 19) (i := 5) dX5_strengthOf_19 rfl ?_
      obtain ⟨x4, e4, h⟩ := Option.bind_eq_some_iff.mp h
      refine v_iald C (pc := 21) e4 dX5_strengthOf_21 ?_
      refine v_iload_n C (pc := 22) (i := 1) dX5_strengthOf_22 rfl ?_
      refine v_bipush C (pc := 23) (v := 8) dX5_strengthOf_23 (by decide) ?_
      refine v_idiv C (pc := 25) dX5_strengthOf_25 (by decide) ?_
      refine v_icmp_ne C (pc := 26) (tgt := 61) dX5_strengthOf_26 (by decide) (fun c5 => ?_) (fun c5 => ?_)
      · rw [if_neg c5] at h
        exact tbX5_strengthOf_61 P hR (fun q0 q1 h => ih q0 q1 h) h
      · rw [if_pos c5] at h
        refine v_aload_n C (pc := 29) (i := 0) dX5_strengthOf_29 rfl ?_
        obtain ⟨x22, e22, h⟩ := Option.bind_eq_some_iff.mp h
        refine v_getR C (pc := 30) (ci := 5) 13 iwX5_strengthOf_X5 rfl (by decide) flX5_strengthOf_34 e22 dX5_strengthOf_30 ?_
        refine v_iload C (pc := 33) (i := 5) dX5_strengthOf_33 rfl ?_
        obtain ⟨x23, e23, h⟩ := Option.bind_eq_some_iff.mp h
        refine v_iald C (pc := 35) e23 dX5_strengthOf_35 ?_
        refine v_iload_n C (pc := 36) (i := 2) dX5_strengthOf_36 rfl ?_
        refine v_icmp_ne C (pc := 37) (tgt := 61) dX5_strengthOf_37 (by decide) (fun c24 => ?_) (fun c24 => ?_)
        · rw [if_neg c24] at h
          exact tbX5_strengthOf_61 P hR (fun q0 q1 h => ih q0 q1 h) h
        · rw [if_pos c24] at h
          refine v_aload_n C (pc := 40) (i := 0) dX5_strengthOf_40 rfl ?_
          obtain ⟨x25, e25, h⟩ := Option.bind_eq_some_iff.mp h
          refine v_getR C (pc := 41) (ci := 5) 15 iwX5_strengthOf_X5 rfl (by decide) flX5_strengthOf_40 e25 dX5_strengthOf_41 ?_
          refine v_iload C (pc := 44) (i := 5) dX5_strengthOf_44 rfl ?_
          obtain ⟨x26, e26, h⟩ := Option.bind_eq_some_iff.mp h
          refine v_iald C (pc := 46) e26 dX5_strengthOf_46 ?_
          refine v_iload_n C (pc := 47) (i := 1) dX5_strengthOf_47 rfl ?_
          refine v_bipush C (pc := 48) (v := 8) dX5_strengthOf_48 (by decide) ?_
          refine v_irem C (pc := 50) dX5_strengthOf_50 (by decide) ?_
          obtain ⟨x27, e27, h⟩ := Option.bind_eq_some_iff.mp h
          refine v_pS C (pc := 51) [.int x26, .int (a1 - a1 / 8 * 8)] 2 (cX5_has_met (kl κ) (kG κ) _ e27) gX5_strengthOf_X5_has rfl hdsX5_has rfl rfl rfl (by rw [hR]; exact ⟨Nat.le_of_ble_eq_true rfl, Nat.le_of_ble_eq_true rfl⟩) ⟨Nat.zero_le _, Nat.zero_le _⟩ (Nat.le_of_ble_eq_true rfl) rfl dX5_strengthOf_51 ?_
          refine v_if_eq C (pc := 54) (tgt := 61) dX5_strengthOf_54 (by decide) (fun c28 => ?_) (fun c28 => ?_)
          · rw [if_pos c28] at h
            exact tbX5_strengthOf_61 P hR (fun q0 q1 h => ih q0 q1 h) h
          · rw [if_neg c28] at h
            refine v_iconst C (pc := 57) (v := 1) dX5_strengthOf_57 (by decide) ?_
            refine v_goto C (pc := 58) (tgt := 62) dX5_strengthOf_58 (by decide) ?_
            exact tbX5_strengthOf_62 P hR (fun q0 q1 h => ih q0 q1 h) h
def fX5_strengthOf (M : hM) (o : Nat) (a1 : Int32) (a2 : Int32) (a3 : Int32) : Option Int32 :=
  lX5_strengthOf_6 M o a1 a2 a3 1000 0 0
set_option maxRecDepth 100000 in
set_option maxHeartbeats 4000000 in
theorem cX5_strengthOf_met (l : Launch) (G : hG) (M : hM) {o : Nat} {a1 : Int32} {a2 : Int32} {a3 : Int32} {r : Int32} (h : fX5_strengthOf M o a1 a2 a3 = some r) : hPMet l yX5_strengthOf wsX5_strengthOf rmX5_strengthOf [.ref o, .int a1, .int a2, .int a3] G M (some (.int r)) := by
  refine hp_entry (own := RX5) (cc := cX5_strengthOf) (maxL := 8) (ret := (some .int)) (lv := [some (va_rf (some o)), some (.int a1), some (.int a2), some (.int a3), none, none, none, none]) (by decide) rfl rfl (hcc rfl (hcc rfl (hcc rfl (hcc rfl hc0)))) (Nat.le_of_ble_eq_true rfl) rfl (fun κ hG hl hR P => ?_)
  subst hG; subst hl
  unfold fX5_strengthOf at h
  have C := P.1
  refine v_iconst C (pc := 0) (v := 0) dX5_strengthOf_0 (by decide) ?_
  refine v_istore C (pc := 1) (i := 4) (lv' := [some (va_rf (some o)), some (.int a1), some (.int a2), some (.int a3), some (.int 0), none, none, none]) dX5_strengthOf_1 rfl rfl ?_
  refine v_iconst C (pc := 3) (v := 0) dX5_strengthOf_3 (by decide) ?_
  refine v_istore C (pc := 4) (i := 5) (lv' := [some (va_rf (some o)), some (.int a1), some (.int a2), some (.int a3), some (.int 0), some (.int 0), none, none]) dX5_strengthOf_4 rfl rfl ?_
  exact tlX5_strengthOf_6 P hR  1000 _ _ h
/-! X5_areStrong -/
abbrev rmX5_areStrong : Room := { frames := 2, cells := 0, slots := 0, locals := 48 }
theorem iwX5_areStrong_X5 : ∀ w ∈ u_ws RX5 TX5 38, w ∈ wsX5_areStrong := fun _ h => List.mem_cons_of_mem _ (List.mem_append_right _ (h))
theorem flX5_areStrong_7 : Cond.fieldLink RX5 7 "ChargehouseModel" "sets" "[I" ∈ wsX5_areStrong := List.mem_cons_of_mem _ (List.mem_append_left _ (List.mem_of_getElem? (i := 0) rfl))
def bX5_areStrong_45 (M : hM) (o : Nat) (k6 : Int32 → Int32 → Option Int32) (a1 : Int32) (a2 : Int32) (a3 : Int32) (a4 : Int32) (a6 : Int32) : Option Int32 :=
  k6 1 (a6 + 1)
set_option maxRecDepth 100000 in
set_option maxHeartbeats 4000000 in
theorem tbX5_areStrong_45 {κ : hKx} {M : hM} {o : Nat} {r : Int32} (P : Cp κ RX5 cX5_areStrong wsX5_areStrong (some .boolean) (some (.int r))) (hR : kR κ = rmX5_areStrong) {k6 : Int32 → Int32 → Option Int32} {a1 : Int32} {a2 : Int32} {a3 : Int32} {a4 : Int32} {a6 : Int32} (hk6 : ∀ (a5 : Int32) (a6 : Int32), k6 a5 a6 = some r → VW κ 0 0 M 6 [some (va_rf (some o)), some (.int a1), some (.int a2), some (.int a3), some (.int a4), some (.int a5), some (.int a6)] []) (h : bX5_areStrong_45 M o k6 a1 a2 a3 a4 a6 = some r) : VW κ 0 0 M 45 [some (va_rf (some o)), some (.int a1), some (.int a2), some (.int a3), some (.int a4), none, some (.int a6)] [] := by
  unfold bX5_areStrong_45 at h
  have C := P.1
  refine v_iconst C (pc := 45) (v := 1) dX5_areStrong_45 (by decide) ?_
  refine v_goto C (pc := 46) (tgt := 50) dX5_areStrong_46 (by decide) ?_
  refine v_istore C (pc := 50) (i := 5) (lv' := [some (va_rf (some o)), some (.int a1), some (.int a2), some (.int a3), some (.int a4), some (.int 1), some (.int a6)]) dX5_areStrong_50 rfl rfl ?_
  refine v_iinc C (pc := 52) (i := 6) (w := 1) (lv' := [some (va_rf (some o)), some (.int a1), some (.int a2), some (.int a3), some (.int a4), some (.int 1), some (.int (a6 + 1))]) dX5_areStrong_52 rfl (by decide) rfl ?_
  refine v_goto C (pc := 55) (tgt := 6) dX5_areStrong_55 (by decide) ?_
  exact hk6 _ _ h
def lX5_areStrong_6 (M : hM) (o : Nat) (a1 : Int32) (a2 : Int32) (a3 : Int32) (a4 : Int32) : Nat → Int32 → Int32 → Option Int32
  | 0, _ , _ => none
  | n + 1, a5, a6 =>
    if (10 : Int32) ≤ a6 then (
      hbz a5
    ) else (
      if (a5 : Int32) = 0 then (
        (lX5_areStrong_6 M o a1 a2 a3 a4 n) 0 (a6 + 1)
      ) else (
        (gR M 5 3 (some o)).bind fun x3 =>
        (aI M 0 x3 a2).bind fun x4 =>
        (fX5_has x4 a6).bind fun x5 =>
        if (x5 : Int32) = 0 then (
          bX5_areStrong_45 M o (lX5_areStrong_6 M o a1 a2 a3 a4 n) a1 a2 a3 a4 a6
        ) else (
          (hC M 5 (some o)).bind fun _ =>
          (fX5_strengthOf M o a1 a6 a4).bind fun x7 =>
          if (x7 : Int32) < a3 then (
            (lX5_areStrong_6 M o a1 a2 a3 a4 n) 0 (a6 + 1)
          ) else (
            bX5_areStrong_45 M o (lX5_areStrong_6 M o a1 a2 a3 a4 n) a1 a2 a3 a4 a6
          )
        )
      )
    )
set_option maxRecDepth 100000 in
set_option maxHeartbeats 4000000 in
theorem tlX5_areStrong_6 {κ : hKx} {M : hM} {o : Nat} {r : Int32} (P : Cp κ RX5 cX5_areStrong wsX5_areStrong (some .boolean) (some (.int r))) (hR : kR κ = rmX5_areStrong)  {a1 : Int32} {a2 : Int32} {a3 : Int32} {a4 : Int32}  : ∀ (n : Nat) (a5 : Int32) (a6 : Int32), lX5_areStrong_6 M o a1 a2 a3 a4 n a5 a6 = some r → VW κ 0 0 M 6 [some (va_rf (some o)), some (.int a1), some (.int a2), some (.int a3), some (.int a4), some (.int a5), some (.int a6)] [] := by
  have C := P.1
  intro n
  induction n with
  | zero =>
    intro a5 a6 h
    unfold lX5_areStrong_6 at h
    cases h
  | succ n ih =>
    intro a5 a6 h
    unfold lX5_areStrong_6 at h
    refine v_iload C (pc := 6) (i := 6) dX5_areStrong_6 rfl ?_
    refine v_bipush C (pc := 8) (v := 10) dX5_areStrong_8 (by decide) ?_
    refine v_icmp_ge C (pc := 10) (tgt := 58) dX5_areStrong_10 (by decide) (fun c1 => ?_) (fun c1 => ?_)
    · rw [if_pos c1] at h
      refine v_iload C (pc := 58) (i := 5) dX5_areStrong_58 rfl ?_
      obtain ⟨hb, h⟩ := hbz_inv h
      subst h
      exact v_pret (pc := 60) P rfl rfl (nar_bool hb) dX5_areStrong_60
    · rw [if_neg c1] at h
      refine v_iload C (pc := 13) (i := 5) dX5_areStrong_13 rfl ?_
      refine v_if_eq C (pc := 15) (tgt := 49) dX5_areStrong_15 (by decide) (fun c2 => ?_) (fun c2 => ?_)
      · rw [if_pos c2] at h
        refine v_iconst C (pc := 49) (v := 0) dX5_areStrong_49 (by decide) ?_
        refine v_istore C (pc := 50) (i := 5) (lv' := [some (va_rf (some o)), some (.int a1), some (.int a2), some (.int a3), some (.int a4), some (.int 0), some (.int a6)]) dX5_areStrong_50 rfl rfl ?_
        refine v_iinc C (pc := 52) (i := 6) (w := 1) (lv' := [some (va_rf (some o)), some (.int a1), some (.int a2), some (.int a3), some (.int a4), some (.int 0), some (.int (a6 + 1))]) dX5_areStrong_52 rfl (by decide) rfl ?_
        refine v_goto C (pc := 55) (tgt := 6) dX5_areStrong_55 (by decide) ?_
        exact ih _ _ h
      · rw [if_neg c2] at h
        refine v_aload_n C (pc := 18) (i := 0) dX5_areStrong_18 rfl ?_
        obtain ⟨x3, e3, h⟩ := Option.bind_eq_some_iff.mp h
        refine v_getR C (pc := 19) (ci := 5) 3 iwX5_areStrong_X5 rfl (by decide) flX5_areStrong_7 e3 dX5_areStrong_19 ?_
        refine v_iload_n C (pc := 22) (i := 2) dX5_areStrong_22 rfl ?_
        obtain ⟨x4, e4, h⟩ := Option.bind_eq_some_iff.mp h
        refine v_iald C (pc := 23) e4 dX5_areStrong_23 ?_
        refine v_iload C (pc := 24) (i := 6) dX5_areStrong_24 rfl ?_
        obtain ⟨x5, e5, h⟩ := Option.bind_eq_some_iff.mp h
        refine v_pS C (pc := 26) [.int x4, .int a6] 2 (cX5_has_met (kl κ) (kG κ) _ e5) gX5_areStrong_X5_has rfl hdsX5_has rfl rfl rfl (by rw [hR]; exact ⟨Nat.le_of_ble_eq_true rfl, Nat.le_of_ble_eq_true rfl⟩) ⟨Nat.zero_le _, Nat.zero_le _⟩ (Nat.le_of_ble_eq_true rfl) rfl dX5_areStrong_26 ?_
        refine v_if_eq C (pc := 29) (tgt := 45) dX5_areStrong_29 (by decide) (fun c6 => ?_) (fun c6 => ?_)
        · rw [if_pos c6] at h
          refine v_mask (lv' := [some (va_rf (some o)), some (.int a1), some (.int a2), some (.int a3), some (.int a4), none, some (.int a6)]) [true, true, true, true, true, false, true] rfl rfl ?_
          exact tbX5_areStrong_45 P hR (fun q0 q1 h => ih q0 q1 h) h
        · rw [if_neg c6] at h
          refine v_aload_n C (pc := 32) (i := 0) dX5_areStrong_32 rfl ?_
          refine v_iload_n C (pc := 33) (i := 1) dX5_areStrong_33 rfl ?_
          refine v_iload C (pc := 34) (i := 6) dX5_areStrong_34 rfl ?_
          refine v_iload C (pc := 36) (i := 4) dX5_areStrong_36 rfl ?_
          obtain ⟨y8, hy8, h⟩ := Option.bind_eq_some_iff.mp h
          obtain ⟨fsy8, hfy8⟩ := hC_some hy8
          obtain ⟨x7, e7, h⟩ := Option.bind_eq_some_iff.mp h
          refine v_pV C (pc := 38) (ci := 5) [.int a1, .int a6, .int a4] 3 (cX5_strengthOf_met (kl κ) (kG κ) _ e7) hfy8 rfl gX5_areStrong_X5_strengthOf rfl hdX5_strengthOf rfl rfl rfl (by rw [hR]; exact ⟨Nat.le_of_ble_eq_true rfl, Nat.le_of_ble_eq_true rfl⟩) ⟨Nat.zero_le _, Nat.zero_le _⟩ (Nat.le_of_ble_eq_true rfl) rfl dX5_areStrong_38 ?_
          refine v_iload_n C (pc := 41) (i := 3) dX5_areStrong_41 rfl ?_
          refine v_icmp_lt C (pc := 42) (tgt := 49) dX5_areStrong_42 (by decide) (fun c9 => ?_) (fun c9 => ?_)
          · rw [if_pos c9] at h
            refine v_iconst C (pc := 49) (v := 0) dX5_areStrong_49 (by decide) ?_
            refine v_istore C (pc := 50) (i := 5) (lv' := [some (va_rf (some o)), some (.int a1), some (.int a2), some (.int a3), some (.int a4), some (.int 0), some (.int a6)]) dX5_areStrong_50 rfl rfl ?_
            refine v_iinc C (pc := 52) (i := 6) (w := 1) (lv' := [some (va_rf (some o)), some (.int a1), some (.int a2), some (.int a3), some (.int a4), some (.int 0), some (.int (a6 + 1))]) dX5_areStrong_52 rfl (by decide) rfl ?_
            refine v_goto C (pc := 55) (tgt := 6) dX5_areStrong_55 (by decide) ?_
            exact ih _ _ h
          · rw [if_neg c9] at h
            refine v_mask (lv' := [some (va_rf (some o)), some (.int a1), some (.int a2), some (.int a3), some (.int a4), none, some (.int a6)]) [true, true, true, true, true, false, true] rfl rfl ?_
            exact tbX5_areStrong_45 P hR (fun q0 q1 h => ih q0 q1 h) h
def fX5_areStrong (M : hM) (o : Nat) (a1 : Int32) (a2 : Int32) (a3 : Int32) (a4 : Int32) : Option Int32 :=
  lX5_areStrong_6 M o a1 a2 a3 a4 1000 1 0
set_option maxRecDepth 100000 in
set_option maxHeartbeats 4000000 in
theorem cX5_areStrong_met (l : Launch) (G : hG) (M : hM) {o : Nat} {a1 : Int32} {a2 : Int32} {a3 : Int32} {a4 : Int32} {r : Int32} (h : fX5_areStrong M o a1 a2 a3 a4 = some r) : hPMet l yX5_areStrong wsX5_areStrong rmX5_areStrong [.ref o, .int a1, .int a2, .int a3, .int a4] G M (some (.int r)) := by
  refine hp_entry (own := RX5) (cc := cX5_areStrong) (maxL := 7) (ret := (some .boolean)) (lv := [some (va_rf (some o)), some (.int a1), some (.int a2), some (.int a3), some (.int a4), none, none]) (by decide) rfl rfl (hcc rfl (hcc rfl (hcc rfl (hcc rfl (hcc rfl hc0))))) (Nat.le_of_ble_eq_true rfl) rfl (fun κ hG hl hR P => ?_)
  subst hG; subst hl
  unfold fX5_areStrong at h
  have C := P.1
  refine v_iconst C (pc := 0) (v := 1) dX5_areStrong_0 (by decide) ?_
  refine v_istore C (pc := 1) (i := 5) (lv' := [some (va_rf (some o)), some (.int a1), some (.int a2), some (.int a3), some (.int a4), some (.int 1), none]) dX5_areStrong_1 rfl rfl ?_
  refine v_iconst C (pc := 3) (v := 0) dX5_areStrong_3 (by decide) ?_
  refine v_istore C (pc := 4) (i := 6) (lv' := [some (va_rf (some o)), some (.int a1), some (.int a2), some (.int a3), some (.int a4), some (.int 1), some (.int 0)]) dX5_areStrong_4 rfl rfl ?_
  exact tlX5_areStrong_6 P hR  1000 _ _ h
/-! X5_areOver -/
abbrev rmX5_areOver : Room := { frames := 0, cells := 0, slots := 0, locals := 0 }
theorem iwX5_areOver_X5 : ∀ w ∈ u_ws RX5 TX5 38, w ∈ wsX5_areOver := fun _ h => List.mem_cons_of_mem _ (List.mem_append_right _ (h))
theorem flX5_areOver_7 : Cond.fieldLink RX5 7 "ChargehouseModel" "sets" "[I" ∈ wsX5_areOver := List.mem_cons_of_mem _ (List.mem_append_left _ (List.mem_of_getElem? (i := 0) rfl))
def bX5_areOver_34 (M : hM) (o : Nat) : Option Int32 :=
  some 1
set_option maxRecDepth 100000 in
set_option maxHeartbeats 4000000 in
theorem tbX5_areOver_34 {κ : hKx} {M : hM} {o : Nat} {r : Int32} (P : Cp κ RX5 cX5_areOver wsX5_areOver (some .boolean) (some (.int r))) (hR : kR κ = rmX5_areOver)    (h : bX5_areOver_34 M o = some r) : VW κ 0 0 M 34 [none, none, none, none] [] := by
  unfold bX5_areOver_34 at h
  have C := P.1
  refine v_iconst C (pc := 34) (v := 1) dX5_areOver_34 (by decide) ?_
  refine v_goto C (pc := 35) (tgt := 39) dX5_areOver_35 (by decide) ?_
  have h := Option.some.inj h
  subst h
  exact v_pret (pc := 39) P rfl rfl (by decide +kernel) dX5_areOver_39
def fX5_areOver (M : hM) (o : Nat) (a1 : Int32) (a2 : Int32) : Option Int32 :=
  (gR M 5 3 (some o)).bind fun x1 =>
  (aI M 0 x1 a1).bind fun x2 =>
  (gR M 5 3 (some o)).bind fun x3 =>
  (aI M 0 x3 a2).bind fun x4 =>
  (gR M 5 3 (some o)).bind fun x5 =>
  (aI M 0 x5 a1).bind fun x6 =>
  if ((x2 &&& x4) : Int32) = x6 then (
    bX5_areOver_34 M o
  ) else (
    (gR M 5 3 (some o)).bind fun x8 =>
    (aI M 0 x8 a2).bind fun x9 =>
    if ((x2 &&& x4) : Int32) = x9 then (
      bX5_areOver_34 M o
    ) else (
      some 0
    )
  )
set_option maxRecDepth 100000 in
set_option maxHeartbeats 4000000 in
theorem cX5_areOver_met (l : Launch) (G : hG) (M : hM) {o : Nat} {a1 : Int32} {a2 : Int32} {r : Int32} (h : fX5_areOver M o a1 a2 = some r) : hPMet l yX5_areOver wsX5_areOver rmX5_areOver [.ref o, .int a1, .int a2] G M (some (.int r)) := by
  refine hp_entry (own := RX5) (cc := cX5_areOver) (maxL := 4) (ret := (some .boolean)) (lv := [some (va_rf (some o)), some (.int a1), some (.int a2), none]) (by decide) rfl rfl (hcc rfl (hcc rfl (hcc rfl hc0))) (Nat.le_of_ble_eq_true rfl) rfl (fun κ hG hl hR P => ?_)
  subst hG; subst hl
  unfold fX5_areOver at h
  have C := P.1
  refine v_aload_n C (pc := 0) (i := 0) dX5_areOver_0 rfl ?_
  obtain ⟨x1, e1, h⟩ := Option.bind_eq_some_iff.mp h
  refine v_getR C (pc := 1) (ci := 5) 3 iwX5_areOver_X5 rfl (by decide) flX5_areOver_7 e1 dX5_areOver_1 ?_
  refine v_iload_n C (pc := 4) (i := 1) dX5_areOver_4 rfl ?_
  obtain ⟨x2, e2, h⟩ := Option.bind_eq_some_iff.mp h
  refine v_iald C (pc := 5) e2 dX5_areOver_5 ?_
  refine v_aload_n C (pc := 6) (i := 0) dX5_areOver_6 rfl ?_
  obtain ⟨x3, e3, h⟩ := Option.bind_eq_some_iff.mp h
  refine v_getR C (pc := 7) (ci := 5) 3 iwX5_areOver_X5 rfl (by decide) flX5_areOver_7 e3 dX5_areOver_7 ?_
  refine v_iload_n C (pc := 10) (i := 2) dX5_areOver_10 rfl ?_
  obtain ⟨x4, e4, h⟩ := Option.bind_eq_some_iff.mp h
  refine v_iald C (pc := 11) e4 dX5_areOver_11 ?_
  refine v_iand C (pc := 12) dX5_areOver_12 ?_
  refine v_istore_n C (pc := 13) (i := 3) (lv' := [some (va_rf (some o)), some (.int a1), some (.int a2), some (.int (x2 &&& x4))]) dX5_areOver_13 rfl rfl ?_
  refine v_iload_n C (pc := 14) (i := 3) dX5_areOver_14 rfl ?_
  refine v_aload_n C (pc := 15) (i := 0) dX5_areOver_15 rfl ?_
  obtain ⟨x5, e5, h⟩ := Option.bind_eq_some_iff.mp h
  refine v_getR C (pc := 16) (ci := 5) 3 iwX5_areOver_X5 rfl (by decide) flX5_areOver_7 e5 dX5_areOver_16 ?_
  refine v_iload_n C (pc := 19) (i := 1) dX5_areOver_19 rfl ?_
  obtain ⟨x6, e6, h⟩ := Option.bind_eq_some_iff.mp h
  refine v_iald C (pc := 20) e6 dX5_areOver_20 ?_
  refine v_icmp_eq C (pc := 21) (tgt := 34) dX5_areOver_21 (by decide) (fun c7 => ?_) (fun c7 => ?_)
  · rw [if_pos c7] at h
    refine v_mask (lv' := [none, none, none, none]) [false, false, false, false] rfl rfl ?_
    exact tbX5_areOver_34 P hR  h
  · rw [if_neg c7] at h
    refine v_iload_n C (pc := 24) (i := 3) dX5_areOver_24 rfl ?_
    refine v_aload_n C (pc := 25) (i := 0) dX5_areOver_25 rfl ?_
    obtain ⟨x8, e8, h⟩ := Option.bind_eq_some_iff.mp h
    refine v_getR C (pc := 26) (ci := 5) 3 iwX5_areOver_X5 rfl (by decide) flX5_areOver_7 e8 dX5_areOver_26 ?_
    refine v_iload_n C (pc := 29) (i := 2) dX5_areOver_29 rfl ?_
    obtain ⟨x9, e9, h⟩ := Option.bind_eq_some_iff.mp h
    refine v_iald C (pc := 30) e9 dX5_areOver_30 ?_
    refine v_icmp_ne C (pc := 31) (tgt := 38) dX5_areOver_31 (by decide) (fun c10 => ?_) (fun c10 => ?_)
    · rw [if_neg c10] at h
      refine v_iconst C (pc := 38) (v := 0) dX5_areOver_38 (by decide) ?_
      have h := Option.some.inj h
      subst h
      exact v_pret (pc := 39) P rfl rfl (by decide +kernel) dX5_areOver_39
    · rw [if_pos c10] at h
      refine v_mask (lv' := [none, none, none, none]) [false, false, false, false] rfl rfl ?_
      exact tbX5_areOver_34 P hR  h
/-! X5_isSpent -/
abbrev rmX5_isSpent : Room := { frames := 1, cells := 0, slots := 0, locals := 23 }
theorem iwX5_isSpent_X5 : ∀ w ∈ u_ws RX5 TX5 38, w ∈ wsX5_isSpent := fun _ h => List.mem_cons_of_mem _ (List.mem_append_right _ (h))
theorem flX5_isSpent_101 : Cond.fieldLink RX5 101 "ChargehouseModel" "byWhat" "[I" ∈ wsX5_isSpent := List.mem_cons_of_mem _ (List.mem_append_left _ (List.mem_of_getElem? (i := 4) rfl))
theorem flX5_isSpent_111 : Cond.fieldLink RX5 111 "ChargehouseModel" "offences" "I" ∈ wsX5_isSpent := List.mem_cons_of_mem _ (List.mem_append_left _ (List.mem_of_getElem? (i := 1) rfl))
theorem flX5_isSpent_153 : Cond.fieldLink RX5 153 "ChargehouseModel" "spendings" "I" ∈ wsX5_isSpent := List.mem_cons_of_mem _ (List.mem_append_left _ (List.mem_of_getElem? (i := 0) rfl))
theorem flX5_isSpent_95 : Cond.fieldLink RX5 95 "ChargehouseModel" "ofWhom" "[I" ∈ wsX5_isSpent := List.mem_cons_of_mem _ (List.mem_append_left _ (List.mem_of_getElem? (i := 2) rfl))
theorem flX5_isSpent_98 : Cond.fieldLink RX5 98 "ChargehouseModel" "when" "[I" ∈ wsX5_isSpent := List.mem_cons_of_mem _ (List.mem_append_left _ (List.mem_of_getElem? (i := 3) rfl))
def bX5_isSpent_79 (M : hM) (o : Nat) (k6 : Int32 → Int32 → Option Int32) (k18 : Int32 → Int32 → Option Int32) (a1 : Int32) (a2 : Int32) (a3 : Int32) (a5 : Int32) (a6 : Int32) : Option Int32 :=
  k18 1 (a6 + 1)
set_option maxRecDepth 100000 in
set_option maxHeartbeats 4000000 in
theorem tbX5_isSpent_79 {κ : hKx} {M : hM} {o : Nat} {r : Int32} (P : Cp κ RX5 cX5_isSpent wsX5_isSpent (some .boolean) (some (.int r))) (hR : kR κ = rmX5_isSpent) {k6 : Int32 → Int32 → Option Int32} {k18 : Int32 → Int32 → Option Int32} {a1 : Int32} {a2 : Int32} {a3 : Int32} {a5 : Int32} {a6 : Int32} (hk6 : ∀ (a4 : Int32) (a5 : Int32), k6 a4 a5 = some r → VW κ 0 0 M 6 [some (va_rf (some o)), some (.int a1), some (.int a2), some (.int a3), some (.int a4), some (.int a5), none] []) (hk18 : ∀ (a4 : Int32) (a6 : Int32), k18 a4 a6 = some r → VW κ 0 0 M 18 [some (va_rf (some o)), some (.int a1), some (.int a2), some (.int a3), some (.int a4), some (.int a5), some (.int a6)] []) (h : bX5_isSpent_79 M o k6 k18 a1 a2 a3 a5 a6 = some r) : VW κ 0 0 M 79 [some (va_rf (some o)), some (.int a1), some (.int a2), some (.int a3), none, some (.int a5), some (.int a6)] [] := by
  unfold bX5_isSpent_79 at h
  have C := P.1
  refine v_iconst C (pc := 79) (v := 1) dX5_isSpent_79 (by decide) ?_
  refine v_goto C (pc := 80) (tgt := 84) dX5_isSpent_80 (by decide) ?_
  refine v_istore C (pc := 84) (i := 4) (lv' := [some (va_rf (some o)), some (.int a1), some (.int a2), some (.int a3), some (.int 1), some (.int a5), some (.int a6)]) dX5_isSpent_84 rfl rfl ?_
  refine v_iinc C (pc := 86) (i := 6) (w := 1) (lv' := [some (va_rf (some o)), some (.int a1), some (.int a2), some (.int a3), some (.int 1), some (.int a5), some (.int (a6 + 1))]) dX5_isSpent_86 rfl (by decide) rfl ?_
  refine v_goto C (pc := 89) (tgt := 18) dX5_isSpent_89 (by decide) ?_
  exact hk18 _ _ h
def lX5_isSpent_18 (M : hM) (o : Nat) (k6 : Int32 → Int32 → Option Int32) (a1 : Int32) (a2 : Int32) (a3 : Int32) (a5 : Int32) : Nat → Int32 → Int32 → Option Int32
  | 0, _ , _ => none
  | n + 1, a4, a6 =>
    (gI M 5 2 (some o)).bind fun x3 =>
    if (x3 : Int32) ≤ a6 then (
      k6 a4 (a5 + 1)
    ) else (
      if (a4 : Int32) = 0 then (
        (gR M 5 34 (some o)).bind fun x6 =>
        (aI M 0 x6 a5).bind fun x7 =>
        if (x7 : Int32) = a1 then (
          (gR M 5 35 (some o)).bind fun x9 =>
          (aI M 0 x9 a5).bind fun x10 =>
          if (a3 : Int32) < x10 then (
            (lX5_isSpent_18 M o k6 a1 a2 a3 a5 n) 0 (a6 + 1)
          ) else (
            (gR M 5 36 (some o)).bind fun x12 =>
            (aI M 0 x12 a5).bind fun x13 =>
            (fX5_has x13 a6).bind fun x14 =>
            if (x14 : Int32) = 0 then (
              (lX5_isSpent_18 M o k6 a1 a2 a3 a5 n) 0 (a6 + 1)
            ) else (
              (hC M 5 (some o)).bind fun _ =>
              (fX5_areOver M o a2 a6).bind fun x16 =>
              if (x16 : Int32) = 0 then (
                (lX5_isSpent_18 M o k6 a1 a2 a3 a5 n) 0 (a6 + 1)
              ) else (
                bX5_isSpent_79 M o k6 (lX5_isSpent_18 M o k6 a1 a2 a3 a5 n) a1 a2 a3 a5 a6
              )
            )
          )
        ) else (
          (lX5_isSpent_18 M o k6 a1 a2 a3 a5 n) 0 (a6 + 1)
        )
      ) else (
        bX5_isSpent_79 M o k6 (lX5_isSpent_18 M o k6 a1 a2 a3 a5 n) a1 a2 a3 a5 a6
      )
    )
set_option maxRecDepth 100000 in
set_option maxHeartbeats 4000000 in
theorem tlX5_isSpent_18 {κ : hKx} {M : hM} {o : Nat} {r : Int32} (P : Cp κ RX5 cX5_isSpent wsX5_isSpent (some .boolean) (some (.int r))) (hR : kR κ = rmX5_isSpent) {k6 : Int32 → Int32 → Option Int32} {a1 : Int32} {a2 : Int32} {a3 : Int32} {a5 : Int32} (hk6 : ∀ (a4 : Int32) (a5 : Int32), k6 a4 a5 = some r → VW κ 0 0 M 6 [some (va_rf (some o)), some (.int a1), some (.int a2), some (.int a3), some (.int a4), some (.int a5), none] []) : ∀ (n : Nat) (a4 : Int32) (a6 : Int32), lX5_isSpent_18 M o k6 a1 a2 a3 a5 n a4 a6 = some r → VW κ 0 0 M 18 [some (va_rf (some o)), some (.int a1), some (.int a2), some (.int a3), some (.int a4), some (.int a5), some (.int a6)] [] := by
  have C := P.1
  intro n
  induction n with
  | zero =>
    intro a4 a6 h
    unfold lX5_isSpent_18 at h
    cases h
  | succ n ih =>
    intro a4 a6 h
    unfold lX5_isSpent_18 at h
    refine v_iload C (pc := 18) (i := 6) dX5_isSpent_18 rfl ?_
    refine v_aload_n C (pc := 20) (i := 0) dX5_isSpent_20 rfl ?_
    obtain ⟨x3, e3, h⟩ := Option.bind_eq_some_iff.mp h
    refine v_getI C (pc := 21) (ci := 5) 2 iwX5_isSpent_X5 rfl (by decide) flX5_isSpent_111 e3 dX5_isSpent_21 ?_
    refine v_icmp_ge C (pc := 24) (tgt := 92) dX5_isSpent_24 (by decide) (fun c4 => ?_) (fun c4 => ?_)
    · rw [if_pos c4] at h
      refine v_iinc C (pc := 92) (i := 5) (w := 1) (lv' := [some (va_rf (some o)), some (.int a1), some (.int a2), some (.int a3), some (.int a4), some (.int (a5 + 1)), some (.int a6)]) dX5_isSpent_92 rfl (by decide) rfl ?_
      refine v_goto C (pc := 95) (tgt := 6) dX5_isSpent_95 (by decide) ?_
      refine v_mask (lv' := [some (va_rf (some o)), some (.int a1), some (.int a2), some (.int a3), some (.int a4), some (.int (a5 + 1)), none]) [true, true, true, true, true, true, false] rfl rfl ?_
      exact hk6 _ _ h
    · rw [if_neg c4] at h
      refine v_iload C (pc := 27) (i := 4) dX5_isSpent_27 rfl ?_
      refine v_if_ne C (pc := 29) (tgt := 79) dX5_isSpent_29 (by decide) (fun c5 => ?_) (fun c5 => ?_)
      · rw [if_neg c5] at h
        refine v_mask (lv' := [some (va_rf (some o)), some (.int a1), some (.int a2), some (.int a3), none, some (.int a5), some (.int a6)]) [true, true, true, true, false, true, true] rfl rfl ?_
        exact tbX5_isSpent_79 P hR hk6 (fun q0 q1 h => ih q0 q1 h) h
      · rw [if_pos c5] at h
        refine v_aload_n C (pc := 32) (i := 0) dX5_isSpent_32 rfl ?_
        obtain ⟨x6, e6, h⟩ := Option.bind_eq_some_iff.mp h
        refine v_getR C (pc := 33) (ci := 5) 34 iwX5_isSpent_X5 rfl (by decide) flX5_isSpent_95 e6 dX5_isSpent_33 ?_
        refine v_iload C (pc := 36) (i := 5) dX5_isSpent_36 rfl ?_
        obtain ⟨x7, e7, h⟩ := Option.bind_eq_some_iff.mp h
        refine v_iald C (pc := 38) e7 dX5_isSpent_38 ?_
        refine v_iload_n C (pc := 39) (i := 1) dX5_isSpent_39 rfl ?_
        refine v_icmp_ne C (pc := 40) (tgt := 83) dX5_isSpent_40 (by decide) (fun c8 => ?_) (fun c8 => ?_)
        · rw [if_neg c8] at h
          refine v_iconst C (pc := 83) (v := 0) dX5_isSpent_83 (by decide) ?_
          refine v_istore C (pc := 84) (i := 4) (lv' := [some (va_rf (some o)), some (.int a1), some (.int a2), some (.int a3), some (.int 0), some (.int a5), some (.int a6)]) dX5_isSpent_84 rfl rfl ?_
          refine v_iinc C (pc := 86) (i := 6) (w := 1) (lv' := [some (va_rf (some o)), some (.int a1), some (.int a2), some (.int a3), some (.int 0), some (.int a5), some (.int (a6 + 1))]) dX5_isSpent_86 rfl (by decide) rfl ?_
          refine v_goto C (pc := 89) (tgt := 18) dX5_isSpent_89 (by decide) ?_
          exact ih _ _ h
        · rw [if_pos c8] at h
          refine v_aload_n C (pc := 43) (i := 0) dX5_isSpent_43 rfl ?_
          obtain ⟨x9, e9, h⟩ := Option.bind_eq_some_iff.mp h
          refine v_getR C (pc := 44) (ci := 5) 35 iwX5_isSpent_X5 rfl (by decide) flX5_isSpent_98 e9 dX5_isSpent_44 ?_
          refine v_iload C (pc := 47) (i := 5) dX5_isSpent_47 rfl ?_
          obtain ⟨x10, e10, h⟩ := Option.bind_eq_some_iff.mp h
          refine v_iald C (pc := 49) e10 dX5_isSpent_49 ?_
          refine v_iload_n C (pc := 50) (i := 3) dX5_isSpent_50 rfl ?_
          refine v_icmp_gt C (pc := 51) (tgt := 83) dX5_isSpent_51 (by decide) (fun c11 => ?_) (fun c11 => ?_)
          · rw [if_pos c11] at h
            refine v_iconst C (pc := 83) (v := 0) dX5_isSpent_83 (by decide) ?_
            refine v_istore C (pc := 84) (i := 4) (lv' := [some (va_rf (some o)), some (.int a1), some (.int a2), some (.int a3), some (.int 0), some (.int a5), some (.int a6)]) dX5_isSpent_84 rfl rfl ?_
            refine v_iinc C (pc := 86) (i := 6) (w := 1) (lv' := [some (va_rf (some o)), some (.int a1), some (.int a2), some (.int a3), some (.int 0), some (.int a5), some (.int (a6 + 1))]) dX5_isSpent_86 rfl (by decide) rfl ?_
            refine v_goto C (pc := 89) (tgt := 18) dX5_isSpent_89 (by decide) ?_
            exact ih _ _ h
          · rw [if_neg c11] at h
            refine v_aload_n C (pc := 54) (i := 0) dX5_isSpent_54 rfl ?_
            obtain ⟨x12, e12, h⟩ := Option.bind_eq_some_iff.mp h
            refine v_getR C (pc := 55) (ci := 5) 36 iwX5_isSpent_X5 rfl (by decide) flX5_isSpent_101 e12 dX5_isSpent_55 ?_
            refine v_iload C (pc := 58) (i := 5) dX5_isSpent_58 rfl ?_
            obtain ⟨x13, e13, h⟩ := Option.bind_eq_some_iff.mp h
            refine v_iald C (pc := 60) e13 dX5_isSpent_60 ?_
            refine v_iload C (pc := 61) (i := 6) dX5_isSpent_61 rfl ?_
            obtain ⟨x14, e14, h⟩ := Option.bind_eq_some_iff.mp h
            refine v_pS C (pc := 63) [.int x13, .int a6] 2 (cX5_has_met (kl κ) (kG κ) _ e14) gX5_isSpent_X5_has rfl hdsX5_has rfl rfl rfl (by rw [hR]; exact ⟨Nat.le_of_ble_eq_true rfl, Nat.le_of_ble_eq_true rfl⟩) ⟨Nat.zero_le _, Nat.zero_le _⟩ (Nat.le_of_ble_eq_true rfl) rfl dX5_isSpent_63 ?_
            refine v_if_eq C (pc := 66) (tgt := 83) dX5_isSpent_66 (by decide) (fun c15 => ?_) (fun c15 => ?_)
            · rw [if_pos c15] at h
              refine v_iconst C (pc := 83) (v := 0) dX5_isSpent_83 (by decide) ?_
              refine v_istore C (pc := 84) (i := 4) (lv' := [some (va_rf (some o)), some (.int a1), some (.int a2), some (.int a3), some (.int 0), some (.int a5), some (.int a6)]) dX5_isSpent_84 rfl rfl ?_
              refine v_iinc C (pc := 86) (i := 6) (w := 1) (lv' := [some (va_rf (some o)), some (.int a1), some (.int a2), some (.int a3), some (.int 0), some (.int a5), some (.int (a6 + 1))]) dX5_isSpent_86 rfl (by decide) rfl ?_
              refine v_goto C (pc := 89) (tgt := 18) dX5_isSpent_89 (by decide) ?_
              exact ih _ _ h
            · rw [if_neg c15] at h
              refine v_aload_n C (pc := 69) (i := 0) dX5_isSpent_69 rfl ?_
              refine v_iload_n C (pc := 70) (i := 2) dX5_isSpent_70 rfl ?_
              refine v_iload C (pc := 71) (i := 6) dX5_isSpent_71 rfl ?_
              obtain ⟨y17, hy17, h⟩ := Option.bind_eq_some_iff.mp h
              obtain ⟨fsy17, hfy17⟩ := hC_some hy17
              obtain ⟨x16, e16, h⟩ := Option.bind_eq_some_iff.mp h
              refine v_pV C (pc := 73) (ci := 5) [.int a2, .int a6] 2 (cX5_areOver_met (kl κ) (kG κ) _ e16) hfy17 rfl gX5_isSpent_X5_areOver rfl hdX5_areOver rfl rfl rfl (by rw [hR]; exact ⟨Nat.le_of_ble_eq_true rfl, Nat.le_of_ble_eq_true rfl⟩) ⟨Nat.zero_le _, Nat.zero_le _⟩ (Nat.le_of_ble_eq_true rfl) rfl dX5_isSpent_73 ?_
              refine v_if_eq C (pc := 76) (tgt := 83) dX5_isSpent_76 (by decide) (fun c18 => ?_) (fun c18 => ?_)
              · rw [if_pos c18] at h
                refine v_iconst C (pc := 83) (v := 0) dX5_isSpent_83 (by decide) ?_
                refine v_istore C (pc := 84) (i := 4) (lv' := [some (va_rf (some o)), some (.int a1), some (.int a2), some (.int a3), some (.int 0), some (.int a5), some (.int a6)]) dX5_isSpent_84 rfl rfl ?_
                refine v_iinc C (pc := 86) (i := 6) (w := 1) (lv' := [some (va_rf (some o)), some (.int a1), some (.int a2), some (.int a3), some (.int 0), some (.int a5), some (.int (a6 + 1))]) dX5_isSpent_86 rfl (by decide) rfl ?_
                refine v_goto C (pc := 89) (tgt := 18) dX5_isSpent_89 (by decide) ?_
                exact ih _ _ h
              · rw [if_neg c18] at h
                refine v_mask (lv' := [some (va_rf (some o)), some (.int a1), some (.int a2), some (.int a3), none, some (.int a5), some (.int a6)]) [true, true, true, true, false, true, true] rfl rfl ?_
                exact tbX5_isSpent_79 P hR hk6 (fun q0 q1 h => ih q0 q1 h) h
def lX5_isSpent_6 (M : hM) (o : Nat) (a1 : Int32) (a2 : Int32) (a3 : Int32) : Nat → Int32 → Int32 → Option Int32
  | 0, _ , _ => none
  | n + 1, a4, a5 =>
    (gI M 5 33 (some o)).bind fun x1 =>
    if (x1 : Int32) ≤ a5 then (
      hbz a4
    ) else (
      lX5_isSpent_18 M o (lX5_isSpent_6 M o a1 a2 a3 n) a1 a2 a3 a5 1000 a4 0
    )
set_option maxRecDepth 100000 in
set_option maxHeartbeats 4000000 in
theorem tlX5_isSpent_6 {κ : hKx} {M : hM} {o : Nat} {r : Int32} (P : Cp κ RX5 cX5_isSpent wsX5_isSpent (some .boolean) (some (.int r))) (hR : kR κ = rmX5_isSpent)  {a1 : Int32} {a2 : Int32} {a3 : Int32}  : ∀ (n : Nat) (a4 : Int32) (a5 : Int32), lX5_isSpent_6 M o a1 a2 a3 n a4 a5 = some r → VW κ 0 0 M 6 [some (va_rf (some o)), some (.int a1), some (.int a2), some (.int a3), some (.int a4), some (.int a5), none] [] := by
  have C := P.1
  intro n
  induction n with
  | zero =>
    intro a4 a5 h
    unfold lX5_isSpent_6 at h
    cases h
  | succ n ih =>
    intro a4 a5 h
    unfold lX5_isSpent_6 at h
    refine v_iload C (pc := 6) (i := 5) dX5_isSpent_6 rfl ?_
    refine v_aload_n C (pc := 8) (i := 0) dX5_isSpent_8 rfl ?_
    obtain ⟨x1, e1, h⟩ := Option.bind_eq_some_iff.mp h
    refine v_getI C (pc := 9) (ci := 5) 33 iwX5_isSpent_X5 rfl (by decide) flX5_isSpent_153 e1 dX5_isSpent_9 ?_
    refine v_icmp_ge C (pc := 12) (tgt := 98) dX5_isSpent_12 (by decide) (fun c2 => ?_) (fun c2 => ?_)
    · rw [if_pos c2] at h
      refine v_iload C (pc := 98) (i := 4) dX5_isSpent_98 rfl ?_
      obtain ⟨hb, h⟩ := hbz_inv h
      subst h
      exact v_pret (pc := 100) P rfl rfl (nar_bool hb) dX5_isSpent_100
    · rw [if_neg c2] at h
      refine v_iconst C (pc := 15) (v := 0) dX5_isSpent_15 (by decide) ?_
      refine v_istore C (pc := 16) (i := 6) (lv' := [some (va_rf (some o)), some (.int a1), some (.int a2), some (.int a3), some (.int a4), some (.int a5), some (.int 0)]) dX5_isSpent_16 rfl rfl ?_
      exact tlX5_isSpent_18 P hR (fun q0 q1 h => ih q0 q1 h) 1000 _ _ h
def fX5_isSpent (M : hM) (o : Nat) (a1 : Int32) (a2 : Int32) (a3 : Int32) : Option Int32 :=
  lX5_isSpent_6 M o a1 a2 a3 1000 0 0
set_option maxRecDepth 100000 in
set_option maxHeartbeats 4000000 in
theorem cX5_isSpent_met (l : Launch) (G : hG) (M : hM) {o : Nat} {a1 : Int32} {a2 : Int32} {a3 : Int32} {r : Int32} (h : fX5_isSpent M o a1 a2 a3 = some r) : hPMet l yX5_isSpent wsX5_isSpent rmX5_isSpent [.ref o, .int a1, .int a2, .int a3] G M (some (.int r)) := by
  refine hp_entry (own := RX5) (cc := cX5_isSpent) (maxL := 7) (ret := (some .boolean)) (lv := [some (va_rf (some o)), some (.int a1), some (.int a2), some (.int a3), none, none, none]) (by decide) rfl rfl (hcc rfl (hcc rfl (hcc rfl (hcc rfl hc0)))) (Nat.le_of_ble_eq_true rfl) rfl (fun κ hG hl hR P => ?_)
  subst hG; subst hl
  unfold fX5_isSpent at h
  have C := P.1
  refine v_iconst C (pc := 0) (v := 0) dX5_isSpent_0 (by decide) ?_
  refine v_istore C (pc := 1) (i := 4) (lv' := [some (va_rf (some o)), some (.int a1), some (.int a2), some (.int a3), some (.int 0), none, none]) dX5_isSpent_1 rfl rfl ?_
  refine v_iconst C (pc := 3) (v := 0) dX5_isSpent_3 (by decide) ?_
  refine v_istore C (pc := 4) (i := 5) (lv' := [some (va_rf (some o)), some (.int a1), some (.int a2), some (.int a3), some (.int 0), some (.int 0), none]) dX5_isSpent_4 rfl rfl ?_
  exact tlX5_isSpent_6 P hR  1000 _ _ h
/-! X5_why -/
abbrev rmX5_why : Room := { frames := 3, cells := 0, slots := 0, locals := 74 }
theorem iwX5_why_X5 : ∀ w ∈ u_ws RX5 TX5 38, w ∈ wsX5_why := fun _ h => List.mem_cons_of_mem _ (List.mem_append_right _ (h))
theorem flX5_why_13 : Cond.fieldLink RX5 13 "ChargehouseModel" "gravity" "[I" ∈ wsX5_why := List.mem_cons_of_mem _ (List.mem_append_left _ (List.mem_append_left _ (List.mem_of_getElem? (i := 2) rfl)))
theorem flX5_why_16 : Cond.fieldLink RX5 16 "ChargehouseModel" "limits" "[I" ∈ wsX5_why := List.mem_cons_of_mem _ (List.mem_append_left _ (List.mem_append_left _ (List.mem_of_getElem? (i := 1) rfl)))
theorem flX5_why_22 : Cond.fieldLink RX5 22 "ChargehouseModel" "events" "[I" ∈ wsX5_why := List.mem_cons_of_mem _ (List.mem_append_left _ (List.mem_append_left _ (List.mem_of_getElem? (i := 0) rfl)))
theorem flX5_why_28 : Cond.fieldLink RX5 28 "ChargehouseModel" "points" "[I" ∈ wsX5_why := List.mem_cons_of_mem _ (List.mem_append_left _ (List.mem_append_left _ (List.mem_of_getElem? (i := 3) rfl)))
def bX5_why_29 (M : hM) (o : Nat) (a1 : Int32) (a2 : Int32) (a3 : Int32) (a4 : Int32) (s0 : Int32) : Option Int32 :=
  if (s0 : Int32) = 0 then (
    (hC M 5 (some o)).bind fun _ =>
    (fX5_isSpent M o a1 a2 a3).bind fun x7 =>
    if (x7 : Int32) = 0 then (
      (hC M 5 (some o)).bind fun _ =>
      (fX5_areStrong M o a1 a2 5 a3).bind fun x10 =>
      if (x10 : Int32) = 0 then (
        some 3
      ) else (
        (gR M 5 4 (some o)).bind fun x13 =>
        (aI M 0 x13 a2).bind fun x14 =>
        (gR M 5 10 (some o)).bind fun x15 =>
        (aI M 0 x15 a4).bind fun x16 =>
        if 0 < ((x14 + x16) : Int32) then (
          some 0
        ) else (
          some 4
        )
      )
    ) else (
      some 2
    )
  ) else (
    some 1
  )
set_option maxRecDepth 100000 in
set_option maxHeartbeats 4000000 in
theorem tbX5_why_29 {κ : hKx} {M : hM} {o : Nat} {r : Int32} (P : Cp κ RX5 cX5_why wsX5_why (some .int) (some (.int r))) (hR : kR κ = rmX5_why)  {a1 : Int32} {a2 : Int32} {a3 : Int32} {a4 : Int32} {s0 : Int32}  (h : bX5_why_29 M o a1 a2 a3 a4 s0 = some r) : VW κ 0 0 M 29 [some (va_rf (some o)), some (.int a1), some (.int a2), some (.int a3), some (.int a4), none] [.int s0] := by
  unfold bX5_why_29 at h
  have C := P.1
  refine v_istore C (pc := 29) (i := 5) (lv' := [some (va_rf (some o)), some (.int a1), some (.int a2), some (.int a3), some (.int a4), some (.int s0)]) dX5_why_29 rfl rfl ?_
  refine v_iload C (pc := 31) (i := 5) dX5_why_31 rfl ?_
  refine v_if_eq C (pc := 33) (tgt := 40) dX5_why_33 (by decide) (fun c6 => ?_) (fun c6 => ?_)
  · rw [if_pos c6] at h
    refine v_aload_n C (pc := 40) (i := 0) dX5_why_40 rfl ?_
    refine v_iload_n C (pc := 41) (i := 1) dX5_why_41 rfl ?_
    refine v_iload_n C (pc := 42) (i := 2) dX5_why_42 rfl ?_
    refine v_iload_n C (pc := 43) (i := 3) dX5_why_43 rfl ?_
    obtain ⟨y8, hy8, h⟩ := Option.bind_eq_some_iff.mp h
    obtain ⟨fsy8, hfy8⟩ := hC_some hy8
    obtain ⟨x7, e7, h⟩ := Option.bind_eq_some_iff.mp h
    refine v_pV C (pc := 44) (ci := 5) [.int a1, .int a2, .int a3] 3 (cX5_isSpent_met (kl κ) (kG κ) _ e7) hfy8 rfl gX5_why_X5_isSpent rfl hdX5_isSpent rfl rfl rfl (by rw [hR]; exact ⟨Nat.le_of_ble_eq_true rfl, Nat.le_of_ble_eq_true rfl⟩) ⟨Nat.zero_le _, Nat.zero_le _⟩ (Nat.le_of_ble_eq_true rfl) rfl dX5_why_44 ?_
    refine v_if_eq C (pc := 47) (tgt := 54) dX5_why_47 (by decide) (fun c9 => ?_) (fun c9 => ?_)
    · rw [if_pos c9] at h
      refine v_aload_n C (pc := 54) (i := 0) dX5_why_54 rfl ?_
      refine v_iload_n C (pc := 55) (i := 1) dX5_why_55 rfl ?_
      refine v_iload_n C (pc := 56) (i := 2) dX5_why_56 rfl ?_
      refine v_iconst C (pc := 57) (v := 5) dX5_why_57 (by decide) ?_
      refine v_iload_n C (pc := 58) (i := 3) dX5_why_58 rfl ?_
      obtain ⟨y11, hy11, h⟩ := Option.bind_eq_some_iff.mp h
      obtain ⟨fsy11, hfy11⟩ := hC_some hy11
      obtain ⟨x10, e10, h⟩ := Option.bind_eq_some_iff.mp h
      refine v_pV C (pc := 59) (ci := 5) [.int a1, .int a2, .int 5, .int a3] 4 (cX5_areStrong_met (kl κ) (kG κ) _ e10) hfy11 rfl gX5_why_X5_areStrong rfl hdX5_areStrong rfl rfl rfl (by rw [hR]; exact ⟨Nat.le_of_ble_eq_true rfl, Nat.le_of_ble_eq_true rfl⟩) ⟨Nat.zero_le _, Nat.zero_le _⟩ (Nat.le_of_ble_eq_true rfl) rfl dX5_why_59 ?_
      refine v_if_ne C (pc := 62) (tgt := 69) dX5_why_62 (by decide) (fun c12 => ?_) (fun c12 => ?_)
      · rw [if_neg c12] at h
        refine v_aload_n C (pc := 69) (i := 0) dX5_why_69 rfl ?_
        obtain ⟨x13, e13, h⟩ := Option.bind_eq_some_iff.mp h
        refine v_getR C (pc := 70) (ci := 5) 4 iwX5_why_X5 rfl (by decide) flX5_why_13 e13 dX5_why_70 ?_
        refine v_iload_n C (pc := 73) (i := 2) dX5_why_73 rfl ?_
        obtain ⟨x14, e14, h⟩ := Option.bind_eq_some_iff.mp h
        refine v_iald C (pc := 74) e14 dX5_why_74 ?_
        refine v_aload_n C (pc := 75) (i := 0) dX5_why_75 rfl ?_
        obtain ⟨x15, e15, h⟩ := Option.bind_eq_some_iff.mp h
        refine v_getR C (pc := 76) (ci := 5) 10 iwX5_why_X5 rfl (by decide) flX5_why_28 e15 dX5_why_76 ?_
        refine v_iload C (pc := 79) (i := 4) dX5_why_79 rfl ?_
        obtain ⟨x16, e16, h⟩ := Option.bind_eq_some_iff.mp h
        refine v_iald C (pc := 81) e16 dX5_why_81 ?_
        refine v_iadd C (pc := 82) dX5_why_82 ?_
        refine v_if_gt C (pc := 83) (tgt := 90) dX5_why_83 (by decide) (fun c17 => ?_) (fun c17 => ?_)
        · rw [if_pos c17] at h
          refine v_iconst C (pc := 90) (v := 0) dX5_why_90 (by decide) ?_
          have h := Option.some.inj h
          subst h
          exact v_pret (pc := 91) P rfl rfl (nar_int _) dX5_why_91
        · rw [if_neg c17] at h
          refine v_iconst C (pc := 86) (v := 4) dX5_why_86 (by decide) ?_
          refine v_goto C (pc := 87) (tgt := 91) dX5_why_87 (by decide) ?_
          have h := Option.some.inj h
          subst h
          exact v_pret (pc := 91) P rfl rfl (nar_int _) dX5_why_91
      · rw [if_pos c12] at h
        refine v_iconst C (pc := 65) (v := 3) dX5_why_65 (by decide) ?_
        refine v_goto C (pc := 66) (tgt := 91) dX5_why_66 (by decide) ?_
        have h := Option.some.inj h
        subst h
        exact v_pret (pc := 91) P rfl rfl (nar_int _) dX5_why_91
    · rw [if_neg c9] at h
      refine v_iconst C (pc := 50) (v := 2) dX5_why_50 (by decide) ?_
      refine v_goto C (pc := 51) (tgt := 91) dX5_why_51 (by decide) ?_
      have h := Option.some.inj h
      subst h
      exact v_pret (pc := 91) P rfl rfl (nar_int _) dX5_why_91
  · rw [if_neg c6] at h
    refine v_iconst C (pc := 36) (v := 1) dX5_why_36 (by decide) ?_
    refine v_goto C (pc := 37) (tgt := 91) dX5_why_37 (by decide) ?_
    have h := Option.some.inj h
    subst h
    exact v_pret (pc := 91) P rfl rfl (nar_int _) dX5_why_91
def fX5_why (M : hM) (o : Nat) (a1 : Int32) (a2 : Int32) (a3 : Int32) : Option Int32 :=
  (gR M 5 8 (some o)).bind fun x1 =>
  (aI M 0 x1 (a1 / 8)).bind fun x2 =>
  (gR M 5 5 (some o)).bind fun x3 =>
  (aI M 0 x3 a2).bind fun x4 =>
  if (a3 : Int32) ≤ (x2 + x4) then (
    bX5_why_29 M o a1 a2 a3 (a1 / 8) 0
  ) else (
    bX5_why_29 M o a1 a2 a3 (a1 / 8) 1
  )
set_option maxRecDepth 100000 in
set_option maxHeartbeats 4000000 in
theorem cX5_why_met (l : Launch) (G : hG) (M : hM) {o : Nat} {a1 : Int32} {a2 : Int32} {a3 : Int32} {r : Int32} (h : fX5_why M o a1 a2 a3 = some r) : hPMet l yX5_why wsX5_why rmX5_why [.ref o, .int a1, .int a2, .int a3] G M (some (.int r)) := by
  refine hp_entry (own := RX5) (cc := cX5_why) (maxL := 6) (ret := (some .int)) (lv := [some (va_rf (some o)), some (.int a1), some (.int a2), some (.int a3), none, none]) (by decide) rfl rfl (hcc rfl (hcc rfl (hcc rfl (hcc rfl hc0)))) (Nat.le_of_ble_eq_true rfl) rfl (fun κ hG hl hR P => ?_)
  subst hG; subst hl
  unfold fX5_why at h
  have C := P.1
  refine v_iload_n C (pc := 0) (i := 1) dX5_why_0 rfl ?_
  refine v_bipush C (pc := 1) (v := 8) dX5_why_1 (by decide) ?_
  refine v_idiv C (pc := 3) dX5_why_3 (by decide) ?_
  refine v_istore C (pc := 4) (i := 4) (lv' := [some (va_rf (some o)), some (.int a1), some (.int a2), some (.int a3), some (.int (a1 / 8)), none]) dX5_why_4 rfl rfl ?_
  refine v_iload_n C (pc := 6) (i := 3) dX5_why_6 rfl ?_
  refine v_aload_n C (pc := 7) (i := 0) dX5_why_7 rfl ?_
  obtain ⟨x1, e1, h⟩ := Option.bind_eq_some_iff.mp h
  refine v_getR C (pc := 8) (ci := 5) 8 iwX5_why_X5 rfl (by decide) flX5_why_22 e1 dX5_why_8 ?_
  refine v_iload C (pc := 11) (i := 4) dX5_why_11 rfl ?_
  obtain ⟨x2, e2, h⟩ := Option.bind_eq_some_iff.mp h
  refine v_iald C (pc := 13) e2 dX5_why_13 ?_
  refine v_aload_n C (pc := 14) (i := 0) dX5_why_14 rfl ?_
  obtain ⟨x3, e3, h⟩ := Option.bind_eq_some_iff.mp h
  refine v_getR C (pc := 15) (ci := 5) 5 iwX5_why_X5 rfl (by decide) flX5_why_16 e3 dX5_why_15 ?_
  refine v_iload_n C (pc := 18) (i := 2) dX5_why_18 rfl ?_
  obtain ⟨x4, e4, h⟩ := Option.bind_eq_some_iff.mp h
  refine v_iald C (pc := 19) e4 dX5_why_19 ?_
  refine v_iadd C (pc := 20) dX5_why_20 ?_
  refine v_icmp_le C (pc := 21) (tgt := 28) dX5_why_21 (by decide) (fun c5 => ?_) (fun c5 => ?_)
  · rw [if_pos c5] at h
    refine v_iconst C (pc := 28) (v := 0) dX5_why_28 (by decide) ?_
    exact tbX5_why_29 P hR  h
  · rw [if_neg c5] at h
    refine v_iconst C (pc := 24) (v := 1) dX5_why_24 (by decide) ?_
    refine v_goto C (pc := 25) (tgt := 29) dX5_why_25 (by decide) ?_
    exact tbX5_why_29 P hR  h
/-! X5_isRight -/
abbrev rmX5_isRight : Room := { frames := 4, cells := 0, slots := 0, locals := 99 }
theorem iwX5_isRight_X5 : ∀ w ∈ u_ws RX5 TX5 38, w ∈ wsX5_isRight := fun _ h => List.mem_cons_of_mem _ (List.mem_append_right _ (h))
theorem flX5_isRight_111 : Cond.fieldLink RX5 111 "ChargehouseModel" "offences" "I" ∈ wsX5_isRight := List.mem_cons_of_mem _ (List.mem_append_left _ (List.mem_append_left _ (List.mem_of_getElem? (i := 0) rfl)))
theorem flX5_isRight_19 : Cond.fieldLink RX5 19 "ChargehouseModel" "excluded" "[I" ∈ wsX5_isRight := List.mem_cons_of_mem _ (List.mem_append_left _ (List.mem_append_left _ (List.mem_of_getElem? (i := 1) rfl)))
def bX5_isRight_105 (M : hM) (o : Nat) (k14 : Int32 → Int32 → Option Int32) (k58 : Int32 → Int32 → Option Int32) (a1 : Int32) (a2 : Int32) (a3 : Int32) (a5 : Int32) (a6 : Int32) : Option Int32 :=
  k58 1 (a6 + 1)
set_option maxRecDepth 100000 in
set_option maxHeartbeats 4000000 in
theorem tbX5_isRight_105 {κ : hKx} {M : hM} {o : Nat} {r : Int32} (P : Cp κ RX5 cX5_isRight wsX5_isRight (some .boolean) (some (.int r))) (hR : kR κ = rmX5_isRight) {k14 : Int32 → Int32 → Option Int32} {k58 : Int32 → Int32 → Option Int32} {a1 : Int32} {a2 : Int32} {a3 : Int32} {a5 : Int32} {a6 : Int32} (hk14 : ∀ (a4 : Int32) (a5 : Int32), k14 a4 a5 = some r → VW κ 0 0 M 14 [some (va_rf (some o)), some (.int a1), some (.int a2), some (.int a3), some (.int a4), some (.int a5), none] []) (hk58 : ∀ (a4 : Int32) (a6 : Int32), k58 a4 a6 = some r → VW κ 0 0 M 58 [some (va_rf (some o)), some (.int a1), some (.int a2), some (.int a3), some (.int a4), some (.int a5), some (.int a6)] []) (h : bX5_isRight_105 M o k14 k58 a1 a2 a3 a5 a6 = some r) : VW κ 0 0 M 105 [some (va_rf (some o)), some (.int a1), some (.int a2), some (.int a3), none, some (.int a5), some (.int a6)] [] := by
  unfold bX5_isRight_105 at h
  have C := P.1
  refine v_iconst C (pc := 105) (v := 1) dX5_isRight_105 (by decide) ?_
  refine v_goto C (pc := 106) (tgt := 110) dX5_isRight_106 (by decide) ?_
  refine v_istore C (pc := 110) (i := 4) (lv' := [some (va_rf (some o)), some (.int a1), some (.int a2), some (.int a3), some (.int 1), some (.int a5), some (.int a6)]) dX5_isRight_110 rfl rfl ?_
  refine v_iinc C (pc := 112) (i := 6) (w := 1) (lv' := [some (va_rf (some o)), some (.int a1), some (.int a2), some (.int a3), some (.int 1), some (.int a5), some (.int (a6 + 1))]) dX5_isRight_112 rfl (by decide) rfl ?_
  refine v_goto C (pc := 115) (tgt := 58) dX5_isRight_115 (by decide) ?_
  exact hk58 _ _ h
def lX5_isRight_58 (M : hM) (o : Nat) (k14 : Int32 → Int32 → Option Int32) (a1 : Int32) (a2 : Int32) (a3 : Int32) (a5 : Int32) : Nat → Int32 → Int32 → Option Int32
  | 0, _ , _ => none
  | n + 1, a4, a6 =>
    if (a5 : Int32) ≤ a6 then (
      k14 a4 (a5 + 1)
    ) else (
      if (a4 : Int32) = 0 then (
        (lX5_isRight_58 M o k14 a1 a2 a3 a5 n) 0 (a6 + 1)
      ) else (
        (fX5_has a2 a6).bind fun x13 =>
        if (x13 : Int32) = 0 then (
          bX5_isRight_105 M o k14 (lX5_isRight_58 M o k14 a1 a2 a3 a5 n) a1 a2 a3 a5 a6
        ) else (
          (gR M 5 6 (some o)).bind fun x15 =>
          (aI M 0 x15 a5).bind fun x16 =>
          (fX5_has x16 a6).bind fun x17 =>
          if (x17 : Int32) = 0 then (
            (hC M 5 (some o)).bind fun _ =>
            (fX5_areOver M o a5 a6).bind fun x19 =>
            if (x19 : Int32) = 0 then (
              bX5_isRight_105 M o k14 (lX5_isRight_58 M o k14 a1 a2 a3 a5 n) a1 a2 a3 a5 a6
            ) else (
              (lX5_isRight_58 M o k14 a1 a2 a3 a5 n) 0 (a6 + 1)
            )
          ) else (
            (lX5_isRight_58 M o k14 a1 a2 a3 a5 n) 0 (a6 + 1)
          )
        )
      )
    )
set_option maxRecDepth 100000 in
set_option maxHeartbeats 4000000 in
theorem tlX5_isRight_58 {κ : hKx} {M : hM} {o : Nat} {r : Int32} (P : Cp κ RX5 cX5_isRight wsX5_isRight (some .boolean) (some (.int r))) (hR : kR κ = rmX5_isRight) {k14 : Int32 → Int32 → Option Int32} {a1 : Int32} {a2 : Int32} {a3 : Int32} {a5 : Int32} (hk14 : ∀ (a4 : Int32) (a5 : Int32), k14 a4 a5 = some r → VW κ 0 0 M 14 [some (va_rf (some o)), some (.int a1), some (.int a2), some (.int a3), some (.int a4), some (.int a5), none] []) : ∀ (n : Nat) (a4 : Int32) (a6 : Int32), lX5_isRight_58 M o k14 a1 a2 a3 a5 n a4 a6 = some r → VW κ 0 0 M 58 [some (va_rf (some o)), some (.int a1), some (.int a2), some (.int a3), some (.int a4), some (.int a5), some (.int a6)] [] := by
  have C := P.1
  intro n
  induction n with
  | zero =>
    intro a4 a6 h
    unfold lX5_isRight_58 at h
    cases h
  | succ n ih =>
    intro a4 a6 h
    unfold lX5_isRight_58 at h
    refine v_iload C (pc := 58) (i := 6) dX5_isRight_58 rfl ?_
    refine v_iload C (pc := 60) (i := 5) dX5_isRight_60 rfl ?_
    refine v_icmp_ge C (pc := 62) (tgt := 118) dX5_isRight_62 (by decide) (fun c11 => ?_) (fun c11 => ?_)
    · rw [if_pos c11] at h
      refine v_iinc C (pc := 118) (i := 5) (w := 1) (lv' := [some (va_rf (some o)), some (.int a1), some (.int a2), some (.int a3), some (.int a4), some (.int (a5 + 1)), some (.int a6)]) dX5_isRight_118 rfl (by decide) rfl ?_
      refine v_goto C (pc := 121) (tgt := 14) dX5_isRight_121 (by decide) ?_
      refine v_mask (lv' := [some (va_rf (some o)), some (.int a1), some (.int a2), some (.int a3), some (.int a4), some (.int (a5 + 1)), none]) [true, true, true, true, true, true, false] rfl rfl ?_
      exact hk14 _ _ h
    · rw [if_neg c11] at h
      refine v_iload C (pc := 65) (i := 4) dX5_isRight_65 rfl ?_
      refine v_if_eq C (pc := 67) (tgt := 109) dX5_isRight_67 (by decide) (fun c12 => ?_) (fun c12 => ?_)
      · rw [if_pos c12] at h
        refine v_iconst C (pc := 109) (v := 0) dX5_isRight_109 (by decide) ?_
        refine v_istore C (pc := 110) (i := 4) (lv' := [some (va_rf (some o)), some (.int a1), some (.int a2), some (.int a3), some (.int 0), some (.int a5), some (.int a6)]) dX5_isRight_110 rfl rfl ?_
        refine v_iinc C (pc := 112) (i := 6) (w := 1) (lv' := [some (va_rf (some o)), some (.int a1), some (.int a2), some (.int a3), some (.int 0), some (.int a5), some (.int (a6 + 1))]) dX5_isRight_112 rfl (by decide) rfl ?_
        refine v_goto C (pc := 115) (tgt := 58) dX5_isRight_115 (by decide) ?_
        exact ih _ _ h
      · rw [if_neg c12] at h
        refine v_iload_n C (pc := 70) (i := 2) dX5_isRight_70 rfl ?_
        refine v_iload C (pc := 71) (i := 6) dX5_isRight_71 rfl ?_
        obtain ⟨x13, e13, h⟩ := Option.bind_eq_some_iff.mp h
        refine v_pS C (pc := 73) [.int a2, .int a6] 2 (cX5_has_met (kl κ) (kG κ) _ e13) gX5_isRight_X5_has rfl hdsX5_has rfl rfl rfl (by rw [hR]; exact ⟨Nat.le_of_ble_eq_true rfl, Nat.le_of_ble_eq_true rfl⟩) ⟨Nat.zero_le _, Nat.zero_le _⟩ (Nat.le_of_ble_eq_true rfl) rfl dX5_isRight_73 ?_
        refine v_if_eq C (pc := 76) (tgt := 105) dX5_isRight_76 (by decide) (fun c14 => ?_) (fun c14 => ?_)
        · rw [if_pos c14] at h
          refine v_mask (lv' := [some (va_rf (some o)), some (.int a1), some (.int a2), some (.int a3), none, some (.int a5), some (.int a6)]) [true, true, true, true, false, true, true] rfl rfl ?_
          exact tbX5_isRight_105 P hR hk14 (fun q0 q1 h => ih q0 q1 h) h
        · rw [if_neg c14] at h
          refine v_aload_n C (pc := 79) (i := 0) dX5_isRight_79 rfl ?_
          obtain ⟨x15, e15, h⟩ := Option.bind_eq_some_iff.mp h
          refine v_getR C (pc := 80) (ci := 5) 6 iwX5_isRight_X5 rfl (by decide) flX5_isRight_19 e15 dX5_isRight_80 ?_
          refine v_iload C (pc := 83) (i := 5) dX5_isRight_83 rfl ?_
          obtain ⟨x16, e16, h⟩ := Option.bind_eq_some_iff.mp h
          refine v_iald C (pc := 85) e16 dX5_isRight_85 ?_
          refine v_iload C (pc := 86) (i := 6) dX5_isRight_86 rfl ?_
          obtain ⟨x17, e17, h⟩ := Option.bind_eq_some_iff.mp h
          refine v_pS C (pc := 88) [.int x16, .int a6] 2 (cX5_has_met (kl κ) (kG κ) _ e17) gX5_isRight_X5_has rfl hdsX5_has rfl rfl rfl (by rw [hR]; exact ⟨Nat.le_of_ble_eq_true rfl, Nat.le_of_ble_eq_true rfl⟩) ⟨Nat.zero_le _, Nat.zero_le _⟩ (Nat.le_of_ble_eq_true rfl) rfl dX5_isRight_88 ?_
          refine v_if_ne C (pc := 91) (tgt := 109) dX5_isRight_91 (by decide) (fun c18 => ?_) (fun c18 => ?_)
          · rw [if_neg c18] at h
            refine v_iconst C (pc := 109) (v := 0) dX5_isRight_109 (by decide) ?_
            refine v_istore C (pc := 110) (i := 4) (lv' := [some (va_rf (some o)), some (.int a1), some (.int a2), some (.int a3), some (.int 0), some (.int a5), some (.int a6)]) dX5_isRight_110 rfl rfl ?_
            refine v_iinc C (pc := 112) (i := 6) (w := 1) (lv' := [some (va_rf (some o)), some (.int a1), some (.int a2), some (.int a3), some (.int 0), some (.int a5), some (.int (a6 + 1))]) dX5_isRight_112 rfl (by decide) rfl ?_
            refine v_goto C (pc := 115) (tgt := 58) dX5_isRight_115 (by decide) ?_
            exact ih _ _ h
          · rw [if_pos c18] at h
            refine v_aload_n C (pc := 94) (i := 0) dX5_isRight_94 rfl ?_
            refine v_iload C (pc := 95) (i := 5) dX5_isRight_95 rfl ?_
            refine v_iload C (pc := 97) (i := 6) dX5_isRight_97 rfl ?_
            obtain ⟨y20, hy20, h⟩ := Option.bind_eq_some_iff.mp h
            obtain ⟨fsy20, hfy20⟩ := hC_some hy20
            obtain ⟨x19, e19, h⟩ := Option.bind_eq_some_iff.mp h
            refine v_pV C (pc := 99) (ci := 5) [.int a5, .int a6] 2 (cX5_areOver_met (kl κ) (kG κ) _ e19) hfy20 rfl gX5_isRight_X5_areOver rfl hdX5_areOver rfl rfl rfl (by rw [hR]; exact ⟨Nat.le_of_ble_eq_true rfl, Nat.le_of_ble_eq_true rfl⟩) ⟨Nat.zero_le _, Nat.zero_le _⟩ (Nat.le_of_ble_eq_true rfl) rfl dX5_isRight_99 ?_
            refine v_if_ne C (pc := 102) (tgt := 109) dX5_isRight_102 (by decide) (fun c21 => ?_) (fun c21 => ?_)
            · rw [if_neg c21] at h
              refine v_iconst C (pc := 109) (v := 0) dX5_isRight_109 (by decide) ?_
              refine v_istore C (pc := 110) (i := 4) (lv' := [some (va_rf (some o)), some (.int a1), some (.int a2), some (.int a3), some (.int 0), some (.int a5), some (.int a6)]) dX5_isRight_110 rfl rfl ?_
              refine v_iinc C (pc := 112) (i := 6) (w := 1) (lv' := [some (va_rf (some o)), some (.int a1), some (.int a2), some (.int a3), some (.int 0), some (.int a5), some (.int (a6 + 1))]) dX5_isRight_112 rfl (by decide) rfl ?_
              refine v_goto C (pc := 115) (tgt := 58) dX5_isRight_115 (by decide) ?_
              exact ih _ _ h
            · rw [if_pos c21] at h
              refine v_mask (lv' := [some (va_rf (some o)), some (.int a1), some (.int a2), some (.int a3), none, some (.int a5), some (.int a6)]) [true, true, true, true, false, true, true] rfl rfl ?_
              exact tbX5_isRight_105 P hR hk14 (fun q0 q1 h => ih q0 q1 h) h
def lX5_isRight_14 (M : hM) (o : Nat) (a1 : Int32) (a2 : Int32) (a3 : Int32) : Nat → Int32 → Int32 → Option Int32
  | 0, _ , _ => none
  | n + 1, a4, a5 =>
    (gI M 5 2 (some o)).bind fun x3 =>
    if (x3 : Int32) ≤ a5 then (
      hbz a4
    ) else (
      if (a4 : Int32) = 0 then (
        hbz a4
      ) else (
        (fX5_has a2 a5).bind fun x6 =>
        if (x6 : Int32) = 0 then (
          (lX5_isRight_14 M o a1 a2 a3 n) a4 (a5 + 1)
        ) else (
          (hC M 5 (some o)).bind fun _ =>
          (fX5_why M o a1 a5 a3).bind fun x8 =>
          if (x8 : Int32) = 0 then (
            lX5_isRight_58 M o (lX5_isRight_14 M o a1 a2 a3 n) a1 a2 a3 a5 1000 1 0
          ) else (
            lX5_isRight_58 M o (lX5_isRight_14 M o a1 a2 a3 n) a1 a2 a3 a5 1000 0 0
          )
        )
      )
    )
set_option maxRecDepth 100000 in
set_option maxHeartbeats 4000000 in
theorem tlX5_isRight_14 {κ : hKx} {M : hM} {o : Nat} {r : Int32} (P : Cp κ RX5 cX5_isRight wsX5_isRight (some .boolean) (some (.int r))) (hR : kR κ = rmX5_isRight)  {a1 : Int32} {a2 : Int32} {a3 : Int32}  : ∀ (n : Nat) (a4 : Int32) (a5 : Int32), lX5_isRight_14 M o a1 a2 a3 n a4 a5 = some r → VW κ 0 0 M 14 [some (va_rf (some o)), some (.int a1), some (.int a2), some (.int a3), some (.int a4), some (.int a5), none] [] := by
  have C := P.1
  intro n
  induction n with
  | zero =>
    intro a4 a5 h
    unfold lX5_isRight_14 at h
    cases h
  | succ n ih =>
    intro a4 a5 h
    unfold lX5_isRight_14 at h
    refine v_iload C (pc := 14) (i := 5) dX5_isRight_14 rfl ?_
    refine v_aload_n C (pc := 16) (i := 0) dX5_isRight_16 rfl ?_
    obtain ⟨x3, e3, h⟩ := Option.bind_eq_some_iff.mp h
    refine v_getI C (pc := 17) (ci := 5) 2 iwX5_isRight_X5 rfl (by decide) flX5_isRight_111 e3 dX5_isRight_17 ?_
    refine v_icmp_ge C (pc := 20) (tgt := 124) dX5_isRight_20 (by decide) (fun c4 => ?_) (fun c4 => ?_)
    · rw [if_pos c4] at h
      refine v_iload C (pc := 124) (i := 4) dX5_isRight_124 rfl ?_
      obtain ⟨hb, h⟩ := hbz_inv h
      subst h
      exact v_pret (pc := 126) P rfl rfl (nar_bool hb) dX5_isRight_126
    · rw [if_neg c4] at h
      refine v_iload C (pc := 23) (i := 4) dX5_isRight_23 rfl ?_
      refine v_if_eq C (pc := 25) (tgt := 124) dX5_isRight_25 (by decide) (fun c5 => ?_) (fun c5 => ?_)
      · rw [if_pos c5] at h
        refine v_iload C (pc := 124) (i := 4) dX5_isRight_124 rfl ?_
        obtain ⟨hb, h⟩ := hbz_inv h
        subst h
        exact v_pret (pc := 126) P rfl rfl (nar_bool hb) dX5_isRight_126
      · rw [if_neg c5] at h
        refine v_iload_n C (pc := 28) (i := 2) dX5_isRight_28 rfl ?_
        refine v_iload C (pc := 29) (i := 5) dX5_isRight_29 rfl ?_
        obtain ⟨x6, e6, h⟩ := Option.bind_eq_some_iff.mp h
        refine v_pS C (pc := 31) [.int a2, .int a5] 2 (cX5_has_met (kl κ) (kG κ) _ e6) gX5_isRight_X5_has rfl hdsX5_has rfl rfl rfl (by rw [hR]; exact ⟨Nat.le_of_ble_eq_true rfl, Nat.le_of_ble_eq_true rfl⟩) ⟨Nat.zero_le _, Nat.zero_le _⟩ (Nat.le_of_ble_eq_true rfl) rfl dX5_isRight_31 ?_
        refine v_if_eq C (pc := 34) (tgt := 118) dX5_isRight_34 (by decide) (fun c7 => ?_) (fun c7 => ?_)
        · rw [if_pos c7] at h
          refine v_iinc C (pc := 118) (i := 5) (w := 1) (lv' := [some (va_rf (some o)), some (.int a1), some (.int a2), some (.int a3), some (.int a4), some (.int (a5 + 1)), none]) dX5_isRight_118 rfl (by decide) rfl ?_
          refine v_goto C (pc := 121) (tgt := 14) dX5_isRight_121 (by decide) ?_
          exact ih _ _ h
        · rw [if_neg c7] at h
          refine v_aload_n C (pc := 37) (i := 0) dX5_isRight_37 rfl ?_
          refine v_iload_n C (pc := 38) (i := 1) dX5_isRight_38 rfl ?_
          refine v_iload C (pc := 39) (i := 5) dX5_isRight_39 rfl ?_
          refine v_iload_n C (pc := 41) (i := 3) dX5_isRight_41 rfl ?_
          obtain ⟨y9, hy9, h⟩ := Option.bind_eq_some_iff.mp h
          obtain ⟨fsy9, hfy9⟩ := hC_some hy9
          obtain ⟨x8, e8, h⟩ := Option.bind_eq_some_iff.mp h
          refine v_pV C (pc := 42) (ci := 5) [.int a1, .int a5, .int a3] 3 (cX5_why_met (kl κ) (kG κ) _ e8) hfy9 rfl gX5_isRight_X5_why rfl hdX5_why rfl rfl rfl (by rw [hR]; exact ⟨Nat.le_of_ble_eq_true rfl, Nat.le_of_ble_eq_true rfl⟩) ⟨Nat.zero_le _, Nat.zero_le _⟩ (Nat.le_of_ble_eq_true rfl) rfl dX5_isRight_42 ?_
          refine v_if_ne C (pc := 45) (tgt := 52) dX5_isRight_45 (by decide) (fun c10 => ?_) (fun c10 => ?_)
          · rw [if_neg c10] at h
            refine v_iconst C (pc := 52) (v := 0) dX5_isRight_52 (by decide) ?_
            refine v_istore C (pc := 53) (i := 4) (lv' := [some (va_rf (some o)), some (.int a1), some (.int a2), some (.int a3), some (.int 0), some (.int a5), none]) dX5_isRight_53 rfl rfl ?_
            refine v_iconst C (pc := 55) (v := 0) dX5_isRight_55 (by decide) ?_
            refine v_istore C (pc := 56) (i := 6) (lv' := [some (va_rf (some o)), some (.int a1), some (.int a2), some (.int a3), some (.int 0), some (.int a5), some (.int 0)]) dX5_isRight_56 rfl rfl ?_
            exact tlX5_isRight_58 P hR (fun q0 q1 h => ih q0 q1 h) 1000 _ _ h
          · rw [if_pos c10] at h
            refine v_iconst C (pc := 48) (v := 1) dX5_isRight_48 (by decide) ?_
            refine v_goto C (pc := 49) (tgt := 53) dX5_isRight_49 (by decide) ?_
            refine v_istore C (pc := 53) (i := 4) (lv' := [some (va_rf (some o)), some (.int a1), some (.int a2), some (.int a3), some (.int 1), some (.int a5), none]) dX5_isRight_53 rfl rfl ?_
            refine v_iconst C (pc := 55) (v := 0) dX5_isRight_55 (by decide) ?_
            refine v_istore C (pc := 56) (i := 6) (lv' := [some (va_rf (some o)), some (.int a1), some (.int a2), some (.int a3), some (.int 1), some (.int a5), some (.int 0)]) dX5_isRight_56 rfl rfl ?_
            exact tlX5_isRight_58 P hR (fun q0 q1 h => ih q0 q1 h) 1000 _ _ h
def fX5_isRight (M : hM) (o : Nat) (a1 : Int32) (a2 : Int32) (a3 : Int32) : Option Int32 :=
  (fX5_size a2).bind fun x1 =>
  (fX5_in x1 1 3).bind fun x2 =>
  lX5_isRight_14 M o a1 a2 a3 1000 x2 0
set_option maxRecDepth 100000 in
set_option maxHeartbeats 4000000 in
theorem cX5_isRight_met (l : Launch) (G : hG) (M : hM) {o : Nat} {a1 : Int32} {a2 : Int32} {a3 : Int32} {r : Int32} (h : fX5_isRight M o a1 a2 a3 = some r) : hPMet l yX5_isRight wsX5_isRight rmX5_isRight [.ref o, .int a1, .int a2, .int a3] G M (some (.int r)) := by
  refine hp_entry (own := RX5) (cc := cX5_isRight) (maxL := 7) (ret := (some .boolean)) (lv := [some (va_rf (some o)), some (.int a1), some (.int a2), some (.int a3), none, none, none]) (by decide) rfl rfl (hcc rfl (hcc rfl (hcc rfl (hcc rfl hc0)))) (Nat.le_of_ble_eq_true rfl) rfl (fun κ hG hl hR P => ?_)
  subst hG; subst hl
  unfold fX5_isRight at h
  have C := P.1
  refine v_iload_n C (pc := 0) (i := 2) dX5_isRight_0 rfl ?_
  obtain ⟨x1, e1, h⟩ := Option.bind_eq_some_iff.mp h
  refine v_pS C (pc := 1) [.int a2] 1 (cX5_size_met (kl κ) (kG κ) _ e1) gX5_isRight_X5_size rfl hdsX5_size rfl rfl rfl (by rw [hR]; exact ⟨Nat.le_of_ble_eq_true rfl, Nat.le_of_ble_eq_true rfl⟩) ⟨Nat.zero_le _, Nat.zero_le _⟩ (Nat.le_of_ble_eq_true rfl) rfl dX5_isRight_1 ?_
  refine v_iconst C (pc := 4) (v := 1) dX5_isRight_4 (by decide) ?_
  refine v_iconst C (pc := 5) (v := 3) dX5_isRight_5 (by decide) ?_
  obtain ⟨x2, e2, h⟩ := Option.bind_eq_some_iff.mp h
  refine v_pS C (pc := 6) [.int x1, .int 1, .int 3] 3 (cX5_in_met (kl κ) (kG κ) _ e2) gX5_isRight_X5_in rfl hdsX5_in rfl rfl rfl (by rw [hR]; exact ⟨Nat.le_of_ble_eq_true rfl, Nat.le_of_ble_eq_true rfl⟩) ⟨Nat.zero_le _, Nat.zero_le _⟩ (Nat.le_of_ble_eq_true rfl) rfl dX5_isRight_6 ?_
  refine v_istore C (pc := 9) (i := 4) (lv' := [some (va_rf (some o)), some (.int a1), some (.int a2), some (.int a3), some (.int x2), none, none]) dX5_isRight_9 rfl rfl ?_
  refine v_iconst C (pc := 11) (v := 0) dX5_isRight_11 (by decide) ?_
  refine v_istore C (pc := 12) (i := 5) (lv' := [some (va_rf (some o)), some (.int a1), some (.int a2), some (.int a3), some (.int x2), some (.int 0), none]) dX5_isRight_12 rfl rfl ?_
  exact tlX5_isRight_14 P hR  1000 _ _ h
/-! X5_heavy -/
abbrev rmX5_heavy : Room := { frames := 1, cells := 0, slots := 0, locals := 21 }
theorem iwX5_heavy_X5 : ∀ w ∈ u_ws RX5 TX5 38, w ∈ wsX5_heavy := fun _ h => List.mem_cons_of_mem _ (List.mem_append_right _ (h))
theorem flX5_heavy_111 : Cond.fieldLink RX5 111 "ChargehouseModel" "offences" "I" ∈ wsX5_heavy := List.mem_cons_of_mem _ (List.mem_append_left _ (List.mem_of_getElem? (i := 0) rfl))
theorem flX5_heavy_13 : Cond.fieldLink RX5 13 "ChargehouseModel" "gravity" "[I" ∈ wsX5_heavy := List.mem_cons_of_mem _ (List.mem_append_left _ (List.mem_of_getElem? (i := 1) rfl))
def lX5_heavy_4 (M : hM) (o : Nat) (a1 : Int32) : Nat → Int32 → Int32 → Option Int32
  | 0, _ , _ => none
  | n + 1, a2, a3 =>
    (gI M 5 2 (some o)).bind fun x1 =>
    if (x1 : Int32) ≤ a3 then (
      some a2
    ) else (
      (fX5_has a1 a3).bind fun x3 =>
      if (x3 : Int32) = 0 then (
        (lX5_heavy_4 M o a1 n) (a2 + 0) (a3 + 1)
      ) else (
        (gR M 5 4 (some o)).bind fun x5 =>
        (aI M 0 x5 a3).bind fun x6 =>
        (lX5_heavy_4 M o a1 n) (a2 + x6) (a3 + 1)
      )
    )
set_option maxRecDepth 100000 in
set_option maxHeartbeats 4000000 in
theorem tlX5_heavy_4 {κ : hKx} {M : hM} {o : Nat} {r : Int32} (P : Cp κ RX5 cX5_heavy wsX5_heavy (some .int) (some (.int r))) (hR : kR κ = rmX5_heavy)  {a1 : Int32}  : ∀ (n : Nat) (a2 : Int32) (a3 : Int32), lX5_heavy_4 M o a1 n a2 a3 = some r → VW κ 0 0 M 4 [some (va_rf (some o)), some (.int a1), some (.int a2), some (.int a3)] [] := by
  have C := P.1
  intro n
  induction n with
  | zero =>
    intro a2 a3 h
    unfold lX5_heavy_4 at h
    cases h
  | succ n ih =>
    intro a2 a3 h
    unfold lX5_heavy_4 at h
    refine v_iload_n C (pc := 4) (i := 3) dX5_heavy_4 rfl ?_
    refine v_aload_n C (pc := 5) (i := 0) dX5_heavy_5 rfl ?_
    obtain ⟨x1, e1, h⟩ := Option.bind_eq_some_iff.mp h
    refine v_getI C (pc := 6) (ci := 5) 2 iwX5_heavy_X5 rfl (by decide) flX5_heavy_111 e1 dX5_heavy_6 ?_
    refine v_icmp_ge C (pc := 9) (tgt := 39) dX5_heavy_9 (by decide) (fun c2 => ?_) (fun c2 => ?_)
    · rw [if_pos c2] at h
      refine v_iload_n C (pc := 39) (i := 2) dX5_heavy_39 rfl ?_
      have h := Option.some.inj h
      subst h
      exact v_pret (pc := 40) P rfl rfl (nar_int _) dX5_heavy_40
    · rw [if_neg c2] at h
      refine v_iload_n C (pc := 12) (i := 2) dX5_heavy_12 rfl ?_
      refine v_iload_n C (pc := 13) (i := 1) dX5_heavy_13 rfl ?_
      refine v_iload_n C (pc := 14) (i := 3) dX5_heavy_14 rfl ?_
      obtain ⟨x3, e3, h⟩ := Option.bind_eq_some_iff.mp h
      refine v_pS C (pc := 15) [.int a1, .int a3] 2 (cX5_has_met (kl κ) (kG κ) _ e3) gX5_heavy_X5_has rfl hdsX5_has rfl rfl rfl (by rw [hR]; exact ⟨Nat.le_of_ble_eq_true rfl, Nat.le_of_ble_eq_true rfl⟩) ⟨Nat.zero_le _, Nat.zero_le _⟩ (Nat.le_of_ble_eq_true rfl) rfl dX5_heavy_15 ?_
      refine v_if_eq C (pc := 18) (tgt := 30) dX5_heavy_18 (by decide) (fun c4 => ?_) (fun c4 => ?_)
      · rw [if_pos c4] at h
        refine v_iconst C (pc := 30) (v := 0) dX5_heavy_30 (by decide) ?_
        refine v_iadd C (pc := 31) dX5_heavy_31 ?_
        refine v_istore_n C (pc := 32) (i := 2) (lv' := [some (va_rf (some o)), some (.int a1), some (.int (a2 + 0)), some (.int a3)]) dX5_heavy_32 rfl rfl ?_
        refine v_iinc C (pc := 33) (i := 3) (w := 1) (lv' := [some (va_rf (some o)), some (.int a1), some (.int (a2 + 0)), some (.int (a3 + 1))]) dX5_heavy_33 rfl (by decide) rfl ?_
        refine v_goto C (pc := 36) (tgt := 4) dX5_heavy_36 (by decide) ?_
        exact ih _ _ h
      · rw [if_neg c4] at h
        refine v_aload_n C (pc := 21) (i := 0) dX5_heavy_21 rfl ?_
        obtain ⟨x5, e5, h⟩ := Option.bind_eq_some_iff.mp h
        refine v_getR C (pc := 22) (ci := 5) 4 iwX5_heavy_X5 rfl (by decide) flX5_heavy_13 e5 dX5_heavy_22 ?_
        refine v_iload_n C (pc := 25) (i := 3) dX5_heavy_25 rfl ?_
        obtain ⟨x6, e6, h⟩ := Option.bind_eq_some_iff.mp h
        refine v_iald C (pc := 26) e6 dX5_heavy_26 ?_
        refine v_goto C (pc := 27) (tgt := 31) dX5_heavy_27 (by decide) ?_
        refine v_iadd C (pc := 31) dX5_heavy_31 ?_
        refine v_istore_n C (pc := 32) (i := 2) (lv' := [some (va_rf (some o)), some (.int a1), some (.int (a2 + x6)), some (.int a3)]) dX5_heavy_32 rfl rfl ?_
        refine v_iinc C (pc := 33) (i := 3) (w := 1) (lv' := [some (va_rf (some o)), some (.int a1), some (.int (a2 + x6)), some (.int (a3 + 1))]) dX5_heavy_33 rfl (by decide) rfl ?_
        refine v_goto C (pc := 36) (tgt := 4) dX5_heavy_36 (by decide) ?_
        exact ih _ _ h
def fX5_heavy (M : hM) (o : Nat) (a1 : Int32) : Option Int32 :=
  lX5_heavy_4 M o a1 1000 0 0
set_option maxRecDepth 100000 in
set_option maxHeartbeats 4000000 in
theorem cX5_heavy_met (l : Launch) (G : hG) (M : hM) {o : Nat} {a1 : Int32} {r : Int32} (h : fX5_heavy M o a1 = some r) : hPMet l yX5_heavy wsX5_heavy rmX5_heavy [.ref o, .int a1] G M (some (.int r)) := by
  refine hp_entry (own := RX5) (cc := cX5_heavy) (maxL := 4) (ret := (some .int)) (lv := [some (va_rf (some o)), some (.int a1), none, none]) (by decide) rfl rfl (hcc rfl (hcc rfl hc0)) (Nat.le_of_ble_eq_true rfl) rfl (fun κ hG hl hR P => ?_)
  subst hG; subst hl
  unfold fX5_heavy at h
  have C := P.1
  refine v_iconst C (pc := 0) (v := 0) dX5_heavy_0 (by decide) ?_
  refine v_istore_n C (pc := 1) (i := 2) (lv' := [some (va_rf (some o)), some (.int a1), some (.int 0), none]) dX5_heavy_1 rfl rfl ?_
  refine v_iconst C (pc := 2) (v := 0) dX5_heavy_2 (by decide) ?_
  refine v_istore_n C (pc := 3) (i := 3) (lv' := [some (va_rf (some o)), some (.int a1), some (.int 0), some (.int 0)]) dX5_heavy_3 rfl rfl ?_
  exact tlX5_heavy_4 P hR  1000 _ _ h
/-! X5_bestOf -/
abbrev rmX5_bestOf : Room := { frames := 5, cells := 0, slots := 0, locals := 125 }
theorem iwX5_bestOf_X5 : ∀ w ∈ u_ws RX5 TX5 38, w ∈ wsX5_bestOf := fun _ h => List.mem_cons_of_mem _ (List.mem_append_right _ (h))
theorem flX5_bestOf_111 : Cond.fieldLink RX5 111 "ChargehouseModel" "offences" "I" ∈ wsX5_bestOf := List.mem_cons_of_mem _ (List.mem_append_left _ (List.mem_append_left _ (List.mem_of_getElem? (i := 0) rfl)))
def bX5_bestOf_61 (M : hM) (o : Nat) (k5 : Int32 → Int32 → Option Int32) (a1 : Int32) (a2 : Int32) (a3 : Int32) (a4 : Int32) (s0 : Int32) : Option Int32 :=
  if (s0 : Int32) = 0 then (
    k5 a3 (a4 + 1)
  ) else (
    (hC M 5 (some o)).bind fun _ =>
    (fX5_isRight M o a1 a4 a2).bind fun x9 =>
    if (x9 : Int32) = 0 then (
      k5 a3 (a4 + 1)
    ) else (
      k5 a4 (a4 + 1)
    )
  )
set_option maxRecDepth 100000 in
set_option maxHeartbeats 4000000 in
theorem tbX5_bestOf_61 {κ : hKx} {M : hM} {o : Nat} {r : Int32} (P : Cp κ RX5 cX5_bestOf wsX5_bestOf (some .int) (some (.int r))) (hR : kR κ = rmX5_bestOf) {k5 : Int32 → Int32 → Option Int32} {a1 : Int32} {a2 : Int32} {a3 : Int32} {a4 : Int32} {s0 : Int32} (hk5 : ∀ (a3 : Int32) (a4 : Int32), k5 a3 a4 = some r → VW κ 0 0 M 5 [some (va_rf (some o)), some (.int a1), some (.int a2), some (.int a3), some (.int a4), none] []) (h : bX5_bestOf_61 M o k5 a1 a2 a3 a4 s0 = some r) : VW κ 0 0 M 61 [some (va_rf (some o)), some (.int a1), some (.int a2), some (.int a3), some (.int a4), none] [.int s0] := by
  unfold bX5_bestOf_61 at h
  have C := P.1
  refine v_istore C (pc := 61) (i := 5) (lv' := [some (va_rf (some o)), some (.int a1), some (.int a2), some (.int a3), some (.int a4), some (.int s0)]) dX5_bestOf_61 rfl rfl ?_
  refine v_iload C (pc := 63) (i := 5) dX5_bestOf_63 rfl ?_
  refine v_if_eq C (pc := 65) (tgt := 84) dX5_bestOf_65 (by decide) (fun c8 => ?_) (fun c8 => ?_)
  · rw [if_pos c8] at h
    refine v_iload_n C (pc := 84) (i := 3) dX5_bestOf_84 rfl ?_
    refine v_istore_n C (pc := 85) (i := 3) (lv' := [some (va_rf (some o)), some (.int a1), some (.int a2), some (.int a3), some (.int a4), some (.int s0)]) dX5_bestOf_85 rfl rfl ?_
    refine v_iinc C (pc := 86) (i := 4) (w := 1) (lv' := [some (va_rf (some o)), some (.int a1), some (.int a2), some (.int a3), some (.int (a4 + 1)), some (.int s0)]) dX5_bestOf_86 rfl (by decide) rfl ?_
    refine v_goto C (pc := 89) (tgt := 5) dX5_bestOf_89 (by decide) ?_
    refine v_mask (lv' := [some (va_rf (some o)), some (.int a1), some (.int a2), some (.int a3), some (.int (a4 + 1)), none]) [true, true, true, true, true, false] rfl rfl ?_
    exact hk5 _ _ h
  · rw [if_neg c8] at h
    refine v_aload_n C (pc := 68) (i := 0) dX5_bestOf_68 rfl ?_
    refine v_iload_n C (pc := 69) (i := 1) dX5_bestOf_69 rfl ?_
    refine v_iload C (pc := 70) (i := 4) dX5_bestOf_70 rfl ?_
    refine v_iload_n C (pc := 72) (i := 2) dX5_bestOf_72 rfl ?_
    obtain ⟨y10, hy10, h⟩ := Option.bind_eq_some_iff.mp h
    obtain ⟨fsy10, hfy10⟩ := hC_some hy10
    obtain ⟨x9, e9, h⟩ := Option.bind_eq_some_iff.mp h
    refine v_pV C (pc := 73) (ci := 5) [.int a1, .int a4, .int a2] 3 (cX5_isRight_met (kl κ) (kG κ) _ e9) hfy10 rfl gX5_bestOf_X5_isRight rfl hdX5_isRight rfl rfl rfl (by rw [hR]; exact ⟨Nat.le_of_ble_eq_true rfl, Nat.le_of_ble_eq_true rfl⟩) ⟨Nat.zero_le _, Nat.zero_le _⟩ (Nat.le_of_ble_eq_true rfl) rfl dX5_bestOf_73 ?_
    refine v_if_eq C (pc := 76) (tgt := 84) dX5_bestOf_76 (by decide) (fun c11 => ?_) (fun c11 => ?_)
    · rw [if_pos c11] at h
      refine v_iload_n C (pc := 84) (i := 3) dX5_bestOf_84 rfl ?_
      refine v_istore_n C (pc := 85) (i := 3) (lv' := [some (va_rf (some o)), some (.int a1), some (.int a2), some (.int a3), some (.int a4), some (.int s0)]) dX5_bestOf_85 rfl rfl ?_
      refine v_iinc C (pc := 86) (i := 4) (w := 1) (lv' := [some (va_rf (some o)), some (.int a1), some (.int a2), some (.int a3), some (.int (a4 + 1)), some (.int s0)]) dX5_bestOf_86 rfl (by decide) rfl ?_
      refine v_goto C (pc := 89) (tgt := 5) dX5_bestOf_89 (by decide) ?_
      refine v_mask (lv' := [some (va_rf (some o)), some (.int a1), some (.int a2), some (.int a3), some (.int (a4 + 1)), none]) [true, true, true, true, true, false] rfl rfl ?_
      exact hk5 _ _ h
    · rw [if_neg c11] at h
      refine v_iload C (pc := 79) (i := 4) dX5_bestOf_79 rfl ?_
      refine v_goto C (pc := 81) (tgt := 85) dX5_bestOf_81 (by decide) ?_
      refine v_istore_n C (pc := 85) (i := 3) (lv' := [some (va_rf (some o)), some (.int a1), some (.int a2), some (.int a4), some (.int a4), some (.int s0)]) dX5_bestOf_85 rfl rfl ?_
      refine v_iinc C (pc := 86) (i := 4) (w := 1) (lv' := [some (va_rf (some o)), some (.int a1), some (.int a2), some (.int a4), some (.int (a4 + 1)), some (.int s0)]) dX5_bestOf_86 rfl (by decide) rfl ?_
      refine v_goto C (pc := 89) (tgt := 5) dX5_bestOf_89 (by decide) ?_
      refine v_mask (lv' := [some (va_rf (some o)), some (.int a1), some (.int a2), some (.int a4), some (.int (a4 + 1)), none]) [true, true, true, true, true, false] rfl rfl ?_
      exact hk5 _ _ h
def bX5_bestOf_56 (M : hM) (o : Nat) (k5 : Int32 → Int32 → Option Int32) (a1 : Int32) (a2 : Int32) (a3 : Int32) (a4 : Int32) : Option Int32 :=
  bX5_bestOf_61 M o k5 a1 a2 a3 a4 1
set_option maxRecDepth 100000 in
set_option maxHeartbeats 4000000 in
theorem tbX5_bestOf_56 {κ : hKx} {M : hM} {o : Nat} {r : Int32} (P : Cp κ RX5 cX5_bestOf wsX5_bestOf (some .int) (some (.int r))) (hR : kR κ = rmX5_bestOf) {k5 : Int32 → Int32 → Option Int32} {a1 : Int32} {a2 : Int32} {a3 : Int32} {a4 : Int32} (hk5 : ∀ (a3 : Int32) (a4 : Int32), k5 a3 a4 = some r → VW κ 0 0 M 5 [some (va_rf (some o)), some (.int a1), some (.int a2), some (.int a3), some (.int a4), none] []) (h : bX5_bestOf_56 M o k5 a1 a2 a3 a4 = some r) : VW κ 0 0 M 56 [some (va_rf (some o)), some (.int a1), some (.int a2), some (.int a3), some (.int a4), none] [] := by
  unfold bX5_bestOf_56 at h
  have C := P.1
  refine v_iconst C (pc := 56) (v := 1) dX5_bestOf_56 (by decide) ?_
  refine v_goto C (pc := 57) (tgt := 61) dX5_bestOf_57 (by decide) ?_
  exact tbX5_bestOf_61 P hR hk5 h
def bX5_bestOf_60 (M : hM) (o : Nat) (k5 : Int32 → Int32 → Option Int32) (a1 : Int32) (a2 : Int32) (a3 : Int32) (a4 : Int32) : Option Int32 :=
  bX5_bestOf_61 M o k5 a1 a2 a3 a4 0
set_option maxRecDepth 100000 in
set_option maxHeartbeats 4000000 in
theorem tbX5_bestOf_60 {κ : hKx} {M : hM} {o : Nat} {r : Int32} (P : Cp κ RX5 cX5_bestOf wsX5_bestOf (some .int) (some (.int r))) (hR : kR κ = rmX5_bestOf) {k5 : Int32 → Int32 → Option Int32} {a1 : Int32} {a2 : Int32} {a3 : Int32} {a4 : Int32} (hk5 : ∀ (a3 : Int32) (a4 : Int32), k5 a3 a4 = some r → VW κ 0 0 M 5 [some (va_rf (some o)), some (.int a1), some (.int a2), some (.int a3), some (.int a4), none] []) (h : bX5_bestOf_60 M o k5 a1 a2 a3 a4 = some r) : VW κ 0 0 M 60 [some (va_rf (some o)), some (.int a1), some (.int a2), some (.int a3), some (.int a4), none] [] := by
  unfold bX5_bestOf_60 at h
  have C := P.1
  refine v_iconst C (pc := 60) (v := 0) dX5_bestOf_60 (by decide) ?_
  exact tbX5_bestOf_61 P hR hk5 h
def lX5_bestOf_5 (M : hM) (o : Nat) (a1 : Int32) (a2 : Int32) : Nat → Int32 → Int32 → Option Int32
  | 0, _ , _ => none
  | n + 1, a3, a4 =>
    (gI M 5 2 (some o)).bind fun x1 =>
    if ((1 <<< (x1 &&& 31)) : Int32) ≤ a4 then (
      some a3
    ) else (
      (hC M 5 (some o)).bind fun _ =>
      (fX5_heavy M o a4).bind fun x3 =>
      (hC M 5 (some o)).bind fun _ =>
      (fX5_heavy M o a3).bind fun x5 =>
      if (x5 : Int32) < x3 then (
        bX5_bestOf_56 M o (lX5_bestOf_5 M o a1 a2 n) a1 a2 a3 a4
      ) else (
        (hC M 5 (some o)).bind fun _ =>
        (fX5_heavy M o a4).bind fun x12 =>
        (hC M 5 (some o)).bind fun _ =>
        (fX5_heavy M o a3).bind fun x14 =>
        if (x12 : Int32) = x14 then (
          (fX5_size a4).bind fun x17 =>
          (fX5_size a3).bind fun x18 =>
          if (x18 : Int32) ≤ x17 then (
            bX5_bestOf_60 M o (lX5_bestOf_5 M o a1 a2 n) a1 a2 a3 a4
          ) else (
            bX5_bestOf_56 M o (lX5_bestOf_5 M o a1 a2 n) a1 a2 a3 a4
          )
        ) else (
          bX5_bestOf_60 M o (lX5_bestOf_5 M o a1 a2 n) a1 a2 a3 a4
        )
      )
    )
set_option maxRecDepth 100000 in
set_option maxHeartbeats 4000000 in
theorem tlX5_bestOf_5 {κ : hKx} {M : hM} {o : Nat} {r : Int32} (P : Cp κ RX5 cX5_bestOf wsX5_bestOf (some .int) (some (.int r))) (hR : kR κ = rmX5_bestOf)  {a1 : Int32} {a2 : Int32}  : ∀ (n : Nat) (a3 : Int32) (a4 : Int32), lX5_bestOf_5 M o a1 a2 n a3 a4 = some r → VW κ 0 0 M 5 [some (va_rf (some o)), some (.int a1), some (.int a2), some (.int a3), some (.int a4), none] [] := by
  have C := P.1
  intro n
  induction n with
  | zero =>
    intro a3 a4 h
    unfold lX5_bestOf_5 at h
    cases h
  | succ n ih =>
    intro a3 a4 h
    unfold lX5_bestOf_5 at h
    refine v_iload C (pc := 5) (i := 4) dX5_bestOf_5 rfl ?_
    refine v_iconst C (pc := 7) (v := 1) dX5_bestOf_7 (by decide) ?_
    refine v_aload_n C (pc := 8) (i := 0) dX5_bestOf_8 rfl ?_
    obtain ⟨x1, e1, h⟩ := Option.bind_eq_some_iff.mp h
    refine v_getI C (pc := 9) (ci := 5) 2 iwX5_bestOf_X5 rfl (by decide) flX5_bestOf_111 e1 dX5_bestOf_9 ?_
    refine v_ishl C (pc := 12) dX5_bestOf_12 ?_
    refine v_icmp_ge C (pc := 13) (tgt := 92) dX5_bestOf_13 (by decide) (fun c2 => ?_) (fun c2 => ?_)
    · rw [if_pos c2] at h
      refine v_iload_n C (pc := 92) (i := 3) dX5_bestOf_92 rfl ?_
      have h := Option.some.inj h
      subst h
      exact v_pret (pc := 93) P rfl rfl (nar_int _) dX5_bestOf_93
    · rw [if_neg c2] at h
      refine v_aload_n C (pc := 16) (i := 0) dX5_bestOf_16 rfl ?_
      refine v_iload C (pc := 17) (i := 4) dX5_bestOf_17 rfl ?_
      obtain ⟨y4, hy4, h⟩ := Option.bind_eq_some_iff.mp h
      obtain ⟨fsy4, hfy4⟩ := hC_some hy4
      obtain ⟨x3, e3, h⟩ := Option.bind_eq_some_iff.mp h
      refine v_pV C (pc := 19) (ci := 5) [.int a4] 1 (cX5_heavy_met (kl κ) (kG κ) _ e3) hfy4 rfl gX5_bestOf_X5_heavy rfl hdX5_heavy rfl rfl rfl (by rw [hR]; exact ⟨Nat.le_of_ble_eq_true rfl, Nat.le_of_ble_eq_true rfl⟩) ⟨Nat.zero_le _, Nat.zero_le _⟩ (Nat.le_of_ble_eq_true rfl) rfl dX5_bestOf_19 ?_
      refine v_aload_n C (pc := 22) (i := 0) dX5_bestOf_22 rfl ?_
      refine v_iload_n C (pc := 23) (i := 3) dX5_bestOf_23 rfl ?_
      obtain ⟨y6, hy6, h⟩ := Option.bind_eq_some_iff.mp h
      obtain ⟨fsy6, hfy6⟩ := hC_some hy6
      obtain ⟨x5, e5, h⟩ := Option.bind_eq_some_iff.mp h
      refine v_pV C (pc := 24) (ci := 5) [.int a3] 1 (cX5_heavy_met (kl κ) (kG κ) _ e5) hfy6 rfl gX5_bestOf_X5_heavy rfl hdX5_heavy rfl rfl rfl (by rw [hR]; exact ⟨Nat.le_of_ble_eq_true rfl, Nat.le_of_ble_eq_true rfl⟩) ⟨Nat.zero_le _, Nat.zero_le _⟩ (Nat.le_of_ble_eq_true rfl) rfl dX5_bestOf_24 ?_
      refine v_icmp_gt C (pc := 27) (tgt := 56) dX5_bestOf_27 (by decide) (fun c7 => ?_) (fun c7 => ?_)
      · rw [if_pos c7] at h
        exact tbX5_bestOf_56 P hR (fun q0 q1 h => ih q0 q1 h) h
      · rw [if_neg c7] at h
        refine v_aload_n C (pc := 30) (i := 0) dX5_bestOf_30 rfl ?_
        refine v_iload C (pc := 31) (i := 4) dX5_bestOf_31 rfl ?_
        obtain ⟨y13, hy13, h⟩ := Option.bind_eq_some_iff.mp h
        obtain ⟨fsy13, hfy13⟩ := hC_some hy13
        obtain ⟨x12, e12, h⟩ := Option.bind_eq_some_iff.mp h
        refine v_pV C (pc := 33) (ci := 5) [.int a4] 1 (cX5_heavy_met (kl κ) (kG κ) _ e12) hfy13 rfl gX5_bestOf_X5_heavy rfl hdX5_heavy rfl rfl rfl (by rw [hR]; exact ⟨Nat.le_of_ble_eq_true rfl, Nat.le_of_ble_eq_true rfl⟩) ⟨Nat.zero_le _, Nat.zero_le _⟩ (Nat.le_of_ble_eq_true rfl) rfl dX5_bestOf_33 ?_
        refine v_aload_n C (pc := 36) (i := 0) dX5_bestOf_36 rfl ?_
        refine v_iload_n C (pc := 37) (i := 3) dX5_bestOf_37 rfl ?_
        obtain ⟨y15, hy15, h⟩ := Option.bind_eq_some_iff.mp h
        obtain ⟨fsy15, hfy15⟩ := hC_some hy15
        obtain ⟨x14, e14, h⟩ := Option.bind_eq_some_iff.mp h
        refine v_pV C (pc := 38) (ci := 5) [.int a3] 1 (cX5_heavy_met (kl κ) (kG κ) _ e14) hfy15 rfl gX5_bestOf_X5_heavy rfl hdX5_heavy rfl rfl rfl (by rw [hR]; exact ⟨Nat.le_of_ble_eq_true rfl, Nat.le_of_ble_eq_true rfl⟩) ⟨Nat.zero_le _, Nat.zero_le _⟩ (Nat.le_of_ble_eq_true rfl) rfl dX5_bestOf_38 ?_
        refine v_icmp_ne C (pc := 41) (tgt := 60) dX5_bestOf_41 (by decide) (fun c16 => ?_) (fun c16 => ?_)
        · rw [if_neg c16] at h
          exact tbX5_bestOf_60 P hR (fun q0 q1 h => ih q0 q1 h) h
        · rw [if_pos c16] at h
          refine v_iload C (pc := 44) (i := 4) dX5_bestOf_44 rfl ?_
          obtain ⟨x17, e17, h⟩ := Option.bind_eq_some_iff.mp h
          refine v_pS C (pc := 46) [.int a4] 1 (cX5_size_met (kl κ) (kG κ) _ e17) gX5_bestOf_X5_size rfl hdsX5_size rfl rfl rfl (by rw [hR]; exact ⟨Nat.le_of_ble_eq_true rfl, Nat.le_of_ble_eq_true rfl⟩) ⟨Nat.zero_le _, Nat.zero_le _⟩ (Nat.le_of_ble_eq_true rfl) rfl dX5_bestOf_46 ?_
          refine v_iload_n C (pc := 49) (i := 3) dX5_bestOf_49 rfl ?_
          obtain ⟨x18, e18, h⟩ := Option.bind_eq_some_iff.mp h
          refine v_pS C (pc := 50) [.int a3] 1 (cX5_size_met (kl κ) (kG κ) _ e18) gX5_bestOf_X5_size rfl hdsX5_size rfl rfl rfl (by rw [hR]; exact ⟨Nat.le_of_ble_eq_true rfl, Nat.le_of_ble_eq_true rfl⟩) ⟨Nat.zero_le _, Nat.zero_le _⟩ (Nat.le_of_ble_eq_true rfl) rfl dX5_bestOf_50 ?_
          refine v_icmp_ge C (pc := 53) (tgt := 60) dX5_bestOf_53 (by decide) (fun c19 => ?_) (fun c19 => ?_)
          · rw [if_pos c19] at h
            exact tbX5_bestOf_60 P hR (fun q0 q1 h => ih q0 q1 h) h
          · rw [if_neg c19] at h
            exact tbX5_bestOf_56 P hR (fun q0 q1 h => ih q0 q1 h) h
def fX5_bestOf (M : hM) (o : Nat) (a1 : Int32) (a2 : Int32) : Option Int32 :=
  lX5_bestOf_5 M o a1 a2 1000 0 1
set_option maxRecDepth 100000 in
set_option maxHeartbeats 4000000 in
theorem cX5_bestOf_met (l : Launch) (G : hG) (M : hM) {o : Nat} {a1 : Int32} {a2 : Int32} {r : Int32} (h : fX5_bestOf M o a1 a2 = some r) : hPMet l yX5_bestOf wsX5_bestOf rmX5_bestOf [.ref o, .int a1, .int a2] G M (some (.int r)) := by
  refine hp_entry (own := RX5) (cc := cX5_bestOf) (maxL := 6) (ret := (some .int)) (lv := [some (va_rf (some o)), some (.int a1), some (.int a2), none, none, none]) (by decide) rfl rfl (hcc rfl (hcc rfl (hcc rfl hc0))) (Nat.le_of_ble_eq_true rfl) rfl (fun κ hG hl hR P => ?_)
  subst hG; subst hl
  unfold fX5_bestOf at h
  have C := P.1
  refine v_iconst C (pc := 0) (v := 0) dX5_bestOf_0 (by decide) ?_
  refine v_istore_n C (pc := 1) (i := 3) (lv' := [some (va_rf (some o)), some (.int a1), some (.int a2), some (.int 0), none, none]) dX5_bestOf_1 rfl rfl ?_
  refine v_iconst C (pc := 2) (v := 1) dX5_bestOf_2 (by decide) ?_
  refine v_istore C (pc := 3) (i := 4) (lv' := [some (va_rf (some o)), some (.int a1), some (.int a2), some (.int 0), some (.int 1), none]) dX5_bestOf_3 rfl rfl ?_
  exact tlX5_bestOf_5 P hR  1000 _ _ h
/-! X5_leftOf -/
abbrev rmX5_leftOf : Room := { frames := 0, cells := 0, slots := 0, locals := 0 }
theorem iwX5_leftOf_X5 : ∀ w ∈ u_ws RX5 TX5 38, w ∈ wsX5_leftOf := fun _ h => List.mem_cons_of_mem _ (List.mem_append_right _ (h))
theorem flX5_leftOf_62 : Cond.fieldLink RX5 62 "ChargehouseModel" "state" "[I" ∈ wsX5_leftOf := List.mem_cons_of_mem _ (List.mem_append_left _ (List.mem_of_getElem? (i := 0) rfl))
theorem flX5_leftOf_77 : Cond.fieldLink RX5 77 "ChargehouseModel" "early" "[I" ∈ wsX5_leftOf := List.mem_cons_of_mem _ (List.mem_append_left _ (List.mem_of_getElem? (i := 3) rfl))
theorem flX5_leftOf_80 : Cond.fieldLink RX5 80 "ChargehouseModel" "later" "[I" ∈ wsX5_leftOf := List.mem_cons_of_mem _ (List.mem_append_left _ (List.mem_of_getElem? (i := 1) rfl))
theorem flX5_leftOf_83 : Cond.fieldLink RX5 83 "ChargehouseModel" "ceiling" "[I" ∈ wsX5_leftOf := List.mem_cons_of_mem _ (List.mem_append_left _ (List.mem_of_getElem? (i := 2) rfl))
def fX5_leftOf (M : hM) (o : Nat) (a1 : Int32) : Option Int32 :=
  (gR M 5 22 (some o)).bind fun x1 =>
  (aI M 0 x1 a1).bind fun x2 =>
  if (x2 : Int32) = 2 then (
    (gR M 5 28 (some o)).bind fun x8 =>
    (aI M 0 x8 a1).bind fun x9 =>
    some (60 - x9)
  ) else (
    (gR M 5 29 (some o)).bind fun x4 =>
    (aI M 0 x4 a1).bind fun x5 =>
    (gR M 5 27 (some o)).bind fun x6 =>
    (aI M 0 x6 a1).bind fun x7 =>
    some (x5 - x7)
  )
set_option maxRecDepth 100000 in
set_option maxHeartbeats 4000000 in
theorem cX5_leftOf_met (l : Launch) (G : hG) (M : hM) {o : Nat} {a1 : Int32} {r : Int32} (h : fX5_leftOf M o a1 = some r) : hPMet l yX5_leftOf wsX5_leftOf rmX5_leftOf [.ref o, .int a1] G M (some (.int r)) := by
  refine hp_entry (own := RX5) (cc := cX5_leftOf) (maxL := 2) (ret := (some .int)) (lv := [some (va_rf (some o)), some (.int a1)]) (by decide) rfl rfl (hcc rfl (hcc rfl hc0)) (Nat.le_of_ble_eq_true rfl) rfl (fun κ hG hl hR P => ?_)
  subst hG; subst hl
  unfold fX5_leftOf at h
  have C := P.1
  refine v_aload_n C (pc := 0) (i := 0) dX5_leftOf_0 rfl ?_
  obtain ⟨x1, e1, h⟩ := Option.bind_eq_some_iff.mp h
  refine v_getR C (pc := 1) (ci := 5) 22 iwX5_leftOf_X5 rfl (by decide) flX5_leftOf_62 e1 dX5_leftOf_1 ?_
  refine v_iload_n C (pc := 4) (i := 1) dX5_leftOf_4 rfl ?_
  obtain ⟨x2, e2, h⟩ := Option.bind_eq_some_iff.mp h
  refine v_iald C (pc := 5) e2 dX5_leftOf_5 ?_
  refine v_iconst C (pc := 6) (v := 2) dX5_leftOf_6 (by decide) ?_
  refine v_icmp_ne C (pc := 7) (tgt := 22) dX5_leftOf_7 (by decide) (fun c3 => ?_) (fun c3 => ?_)
  · rw [if_neg c3] at h
    refine v_aload_n C (pc := 22) (i := 0) dX5_leftOf_22 rfl ?_
    obtain ⟨x4, e4, h⟩ := Option.bind_eq_some_iff.mp h
    refine v_getR C (pc := 23) (ci := 5) 29 iwX5_leftOf_X5 rfl (by decide) flX5_leftOf_83 e4 dX5_leftOf_23 ?_
    refine v_iload_n C (pc := 26) (i := 1) dX5_leftOf_26 rfl ?_
    obtain ⟨x5, e5, h⟩ := Option.bind_eq_some_iff.mp h
    refine v_iald C (pc := 27) e5 dX5_leftOf_27 ?_
    refine v_aload_n C (pc := 28) (i := 0) dX5_leftOf_28 rfl ?_
    obtain ⟨x6, e6, h⟩ := Option.bind_eq_some_iff.mp h
    refine v_getR C (pc := 29) (ci := 5) 27 iwX5_leftOf_X5 rfl (by decide) flX5_leftOf_77 e6 dX5_leftOf_29 ?_
    refine v_iload_n C (pc := 32) (i := 1) dX5_leftOf_32 rfl ?_
    obtain ⟨x7, e7, h⟩ := Option.bind_eq_some_iff.mp h
    refine v_iald C (pc := 33) e7 dX5_leftOf_33 ?_
    refine v_isub C (pc := 34) dX5_leftOf_34 ?_
    have h := Option.some.inj h
    subst h
    exact v_pret (pc := 35) P rfl rfl (nar_int _) dX5_leftOf_35
  · rw [if_pos c3] at h
    refine v_bipush C (pc := 10) (v := 60) dX5_leftOf_10 (by decide) ?_
    refine v_aload_n C (pc := 12) (i := 0) dX5_leftOf_12 rfl ?_
    obtain ⟨x8, e8, h⟩ := Option.bind_eq_some_iff.mp h
    refine v_getR C (pc := 13) (ci := 5) 28 iwX5_leftOf_X5 rfl (by decide) flX5_leftOf_80 e8 dX5_leftOf_13 ?_
    refine v_iload_n C (pc := 16) (i := 1) dX5_leftOf_16 rfl ?_
    obtain ⟨x9, e9, h⟩ := Option.bind_eq_some_iff.mp h
    refine v_iald C (pc := 17) e9 dX5_leftOf_17 ?_
    refine v_isub C (pc := 18) dX5_leftOf_18 ?_
    refine v_goto C (pc := 19) (tgt := 35) dX5_leftOf_19 (by decide) ?_
    have h := Option.some.inj h
    subst h
    exact v_pret (pc := 35) P rfl rfl (nar_int _) dX5_leftOf_35
/-! X5_spentBy -/
abbrev rmX5_spentBy : Room := { frames := 2, cells := 0, slots := 0, locals := 49 }
theorem iwX5_spentBy_X5 : ∀ w ∈ u_ws RX5 TX5 38, w ∈ wsX5_spentBy := fun _ h => List.mem_cons_of_mem _ (List.mem_append_right _ (h))
theorem flX5_spentBy_111 : Cond.fieldLink RX5 111 "ChargehouseModel" "offences" "I" ∈ wsX5_spentBy := List.mem_cons_of_mem _ (List.mem_append_left _ (List.mem_of_getElem? (i := 0) rfl))
theorem flX5_spentBy_135 : Cond.fieldLink RX5 135 "ChargehouseModel" "day" "I" ∈ wsX5_spentBy := List.mem_cons_of_mem _ (List.mem_append_left _ (List.mem_of_getElem? (i := 1) rfl))
def lX5_spentBy_4 (M : hM) (o : Nat) (a1 : Int32) : Nat → Int32 → Int32 → Option Int32
  | 0, _ , _ => none
  | n + 1, a2, a3 =>
    (gI M 5 2 (some o)).bind fun x1 =>
    if (x1 : Int32) ≤ a3 then (
      some a2
    ) else (
      (gI M 5 1 (some o)).bind fun x3 =>
      (hC M 5 (some o)).bind fun _ =>
      (fX5_isSpent M o a1 a3 x3).bind fun x4 =>
      if (x4 : Int32) = 0 then (
        (lX5_spentBy_4 M o a1 n) (a2 ||| 0) (a3 + 1)
      ) else (
        (lX5_spentBy_4 M o a1 n) (a2 ||| (1 <<< (a3 &&& 31))) (a3 + 1)
      )
    )
set_option maxRecDepth 100000 in
set_option maxHeartbeats 4000000 in
theorem tlX5_spentBy_4 {κ : hKx} {M : hM} {o : Nat} {r : Int32} (P : Cp κ RX5 cX5_spentBy wsX5_spentBy (some .int) (some (.int r))) (hR : kR κ = rmX5_spentBy)  {a1 : Int32}  : ∀ (n : Nat) (a2 : Int32) (a3 : Int32), lX5_spentBy_4 M o a1 n a2 a3 = some r → VW κ 0 0 M 4 [some (va_rf (some o)), some (.int a1), some (.int a2), some (.int a3)] [] := by
  have C := P.1
  intro n
  induction n with
  | zero =>
    intro a2 a3 h
    unfold lX5_spentBy_4 at h
    cases h
  | succ n ih =>
    intro a2 a3 h
    unfold lX5_spentBy_4 at h
    refine v_iload_n C (pc := 4) (i := 3) dX5_spentBy_4 rfl ?_
    refine v_aload_n C (pc := 5) (i := 0) dX5_spentBy_5 rfl ?_
    obtain ⟨x1, e1, h⟩ := Option.bind_eq_some_iff.mp h
    refine v_getI C (pc := 6) (ci := 5) 2 iwX5_spentBy_X5 rfl (by decide) flX5_spentBy_111 e1 dX5_spentBy_6 ?_
    refine v_icmp_ge C (pc := 9) (tgt := 41) dX5_spentBy_9 (by decide) (fun c2 => ?_) (fun c2 => ?_)
    · rw [if_pos c2] at h
      refine v_iload_n C (pc := 41) (i := 2) dX5_spentBy_41 rfl ?_
      have h := Option.some.inj h
      subst h
      exact v_pret (pc := 42) P rfl rfl (nar_int _) dX5_spentBy_42
    · rw [if_neg c2] at h
      refine v_iload_n C (pc := 12) (i := 2) dX5_spentBy_12 rfl ?_
      refine v_aload_n C (pc := 13) (i := 0) dX5_spentBy_13 rfl ?_
      refine v_iload_n C (pc := 14) (i := 1) dX5_spentBy_14 rfl ?_
      refine v_iload_n C (pc := 15) (i := 3) dX5_spentBy_15 rfl ?_
      refine v_aload_n C (pc := 16) (i := 0) dX5_spentBy_16 rfl ?_
      obtain ⟨x3, e3, h⟩ := Option.bind_eq_some_iff.mp h
      refine v_getI C (pc := 17) (ci := 5) 1 iwX5_spentBy_X5 rfl (by decide) flX5_spentBy_135 e3 dX5_spentBy_17 ?_
      obtain ⟨y5, hy5, h⟩ := Option.bind_eq_some_iff.mp h
      obtain ⟨fsy5, hfy5⟩ := hC_some hy5
      obtain ⟨x4, e4, h⟩ := Option.bind_eq_some_iff.mp h
      refine v_pV C (pc := 20) (ci := 5) [.int a1, .int a3, .int x3] 3 (cX5_isSpent_met (kl κ) (kG κ) _ e4) hfy5 rfl gX5_spentBy_X5_isSpent rfl hdX5_isSpent rfl rfl rfl (by rw [hR]; exact ⟨Nat.le_of_ble_eq_true rfl, Nat.le_of_ble_eq_true rfl⟩) ⟨Nat.zero_le _, Nat.zero_le _⟩ (Nat.le_of_ble_eq_true rfl) rfl dX5_spentBy_20 ?_
      refine v_if_eq C (pc := 23) (tgt := 32) dX5_spentBy_23 (by decide) (fun c6 => ?_) (fun c6 => ?_)
      · rw [if_pos c6] at h
        refine v_iconst C (pc := 32) (v := 0) dX5_spentBy_32 (by decide) ?_
        refine v_ior C (pc := 33) dX5_spentBy_33 ?_
        refine v_istore_n C (pc := 34) (i := 2) (lv' := [some (va_rf (some o)), some (.int a1), some (.int (a2 ||| 0)), some (.int a3)]) dX5_spentBy_34 rfl rfl ?_
        refine v_iinc C (pc := 35) (i := 3) (w := 1) (lv' := [some (va_rf (some o)), some (.int a1), some (.int (a2 ||| 0)), some (.int (a3 + 1))]) dX5_spentBy_35 rfl (by decide) rfl ?_
        refine v_goto C (pc := 38) (tgt := 4) dX5_spentBy_38 (by decide) ?_
        exact ih _ _ h
      · rw [if_neg c6] at h
        refine v_iconst C (pc := 26) (v := 1) dX5_spentBy_26 (by decide) ?_
        refine v_iload_n C (pc := 27) (i := 3) dX5_spentBy_27 rfl ?_
        refine v_ishl C (pc := 28) dX5_spentBy_28 ?_
        refine v_goto C (pc := 29) (tgt := 33) dX5_spentBy_29 (by decide) ?_
        refine v_ior C (pc := 33) dX5_spentBy_33 ?_
        refine v_istore_n C (pc := 34) (i := 2) (lv' := [some (va_rf (some o)), some (.int a1), some (.int (a2 ||| (1 <<< (a3 &&& 31)))), some (.int a3)]) dX5_spentBy_34 rfl rfl ?_
        refine v_iinc C (pc := 35) (i := 3) (w := 1) (lv' := [some (va_rf (some o)), some (.int a1), some (.int (a2 ||| (1 <<< (a3 &&& 31)))), some (.int (a3 + 1))]) dX5_spentBy_35 rfl (by decide) rfl ?_
        refine v_goto C (pc := 38) (tgt := 4) dX5_spentBy_38 (by decide) ?_
        exact ih _ _ h
def fX5_spentBy (M : hM) (o : Nat) (a1 : Int32) : Option Int32 :=
  lX5_spentBy_4 M o a1 1000 0 0
set_option maxRecDepth 100000 in
set_option maxHeartbeats 4000000 in
theorem cX5_spentBy_met (l : Launch) (G : hG) (M : hM) {o : Nat} {a1 : Int32} {r : Int32} (h : fX5_spentBy M o a1 = some r) : hPMet l yX5_spentBy wsX5_spentBy rmX5_spentBy [.ref o, .int a1] G M (some (.int r)) := by
  refine hp_entry (own := RX5) (cc := cX5_spentBy) (maxL := 4) (ret := (some .int)) (lv := [some (va_rf (some o)), some (.int a1), none, none]) (by decide) rfl rfl (hcc rfl (hcc rfl hc0)) (Nat.le_of_ble_eq_true rfl) rfl (fun κ hG hl hR P => ?_)
  subst hG; subst hl
  unfold fX5_spentBy at h
  have C := P.1
  refine v_iconst C (pc := 0) (v := 0) dX5_spentBy_0 (by decide) ?_
  refine v_istore_n C (pc := 1) (i := 2) (lv' := [some (va_rf (some o)), some (.int a1), some (.int 0), none]) dX5_spentBy_1 rfl rfl ?_
  refine v_iconst C (pc := 2) (v := 0) dX5_spentBy_2 (by decide) ?_
  refine v_istore_n C (pc := 3) (i := 3) (lv' := [some (va_rf (some o)), some (.int a1), some (.int 0), some (.int 0)]) dX5_spentBy_3 rfl rfl ?_
  exact tlX5_spentBy_4 P hR  1000 _ _ h
