/-! L_offence -/
abbrev rmL_offence : Room := { frames := 7, cells := 1, slots := 6, locals := 113 }
def vsL_offence : List Cond := wsL_offence ++ hL3
def wL_offence (M : hM) (a0 : Option Nat) (a1 : Int32) (a2 : Int32) (a3 : Int32) (a4 : Option Nat) (Q : hM → Int32 → Prop) : Prop :=
  ∃ y2, hC M 4 a0 = some y2 ∧
  wX4_offence M y2 a1 a2 a3 (fun M3 x1 =>
    ∃ M4, sJ M3 2 a4 0 (Int32.toInt64 x1) = some M4 ∧
    Q M4 0) (fun Ex M9 => if Ex = "java/lang/IllegalArgumentException" then (
      Q M9 1) else if Ex = "java/lang/IllegalStateException" then (
        Q M9 2) else False)
set_option maxRecDepth 100000 in
set_option maxHeartbeats 4000000 in
theorem cL_offence_met (l : Launch) (hfl : l.stackTraces = false) (G : hG) (M : hM) {a0 : Option Nat} {a1 : Int32} {a2 : Int32} {a3 : Int32} {a4 : Option Nat} {Q : hM → Int32 → Prop} (h : wL_offence M a0 a1 a2 a3 a4 Q) : hEMet l yL_offence vsL_offence rmL_offence [va_rf a0, .int a1, .int a2, .int a3, va_rf a4] G M (hQi Q) (fun _ _ => False) 1 6 := by
  refine he_entryH (hh := [(0, 12, 15, 13), (0, 12, 19, 15)]) (own := RL) (cc := cL_offence) (maxL := 6) (ret := (some .int)) (lv := [some (va_rf a0), some (.int a1), some (.int a2), some (.int a3), some (va_rf a4), none]) hfl (by decide) rfl rfl (hcc (rf_cat _) (hcc rfl (hcc rfl (hcc rfl (hcc (rf_cat _) hc0))))) (Nat.le_of_ble_eq_true rfl) rfl (fun κ sz hG hl hR E ht => ?_)
  subst hG; subst hl
  unfold wL_offence at h
  have F := E.1
  have C := F.1
  refine v_aload C (pc := 0) (i := 4) dL_offence_0 rfl ?_
  refine v_iconst C (pc := 2) (v := 0) dL_offence_2 (by decide) ?_
  refine v_aload_n C (pc := 3) (i := 0) dL_offence_3 rfl ?_
  refine v_iload_n C (pc := 4) (i := 1) dL_offence_4 rfl ?_
  refine v_iload_n C (pc := 5) (i := 2) dL_offence_5 rfl ?_
  refine v_iload_n C (pc := 6) (i := 3) dL_offence_6 rfl ?_
  obtain ⟨y2, hy2, hh⟩ := h
  skip
  obtain ⟨rfl, fsy2, hfy2⟩ := hC_inv hy2
  have h := hh
  clear hh
  refine v_xV F (pc := 7) (ci := 4) [.int a1, .int a2, .int a3] 3 (cX4_offence_met (kl κ) F.2.2.2.1 (kG κ) _ h) hfy2 rfl (good_l gL_offence_X4_offence) rfl hdX4_offence rfl rfl rfl (by rw [hR]; exact ⟨Nat.le_of_ble_eq_true rfl, Nat.le_of_ble_eq_true rfl⟩) (by rw [hR]; decide) (Nat.le_of_ble_eq_true rfl) rfl dL_offence_7 (fun Ex M9 h => ?_) (hk_i fun M3 x1 h => ?_)
  · by_cases hE0 : Ex = "java/lang/IllegalArgumentException"
    · rw [if_pos hE0] at h
      subst hE0
      refine v_catch F (pc := 7) ht (name := "java/lang/IllegalArgumentException") [] ⟨0, 12, 15, 13⟩ [⟨0, 12, 19, 15⟩] rfl (fun z hz => absurd hz List.not_mem_nil) (by decide) (by decide) (List.mem_append_right _ (List.mem_of_getElem? (i := 0) rfl)) (by decide) (fun q9 => ?_)
      refine v_astore C (pc := 15) (i := 5) (lv' := [some (va_rf (some y2)), some (.int a1), some (.int a2), some (.int a3), some (va_rf a4), some (va_rf (some q9))]) dL_offence_15 rfl rfl ?_
      refine v_iconst C (pc := 17) (v := 1) dL_offence_17 (by decide) ?_
      exact v_eret (pc := 18) E rfl (nar_int _) ⟨_, rfl, h⟩ (by decide) (by decide) dL_offence_18
    · rw [if_neg hE0] at h
      by_cases hE1 : Ex = "java/lang/IllegalStateException"
      · rw [if_pos hE1] at h
        subst hE1
        refine v_catch F (pc := 7) ht (name := "java/lang/IllegalStateException") [⟨0, 12, 15, 13⟩] ⟨0, 12, 19, 15⟩ [] rfl (List.forall_mem_cons.mpr ⟨Or.inr ⟨by decide, "java/lang/IllegalArgumentException", List.mem_append_right _ (List.mem_of_getElem? (i := 0) rfl), by decide⟩, fun z hz => absurd hz List.not_mem_nil⟩) (by decide) (by decide) (List.mem_append_right _ (List.mem_of_getElem? (i := 1) rfl)) (by decide) (fun q9 => ?_)
        refine v_astore C (pc := 19) (i := 5) (lv' := [some (va_rf (some y2)), some (.int a1), some (.int a2), some (.int a3), some (va_rf a4), some (va_rf (some q9))]) dL_offence_19 rfl rfl ?_
        refine v_iconst C (pc := 21) (v := 2) dL_offence_21 (by decide) ?_
        exact v_eret (pc := 22) E rfl (nar_int _) ⟨_, rfl, h⟩ (by decide) (by decide) dL_offence_22
      · rw [if_neg hE1] at h
        exact h.elim
  · refine v_i2l C (pc := 10) dL_offence_10 ?_
    obtain ⟨M4, e4, h⟩ := h
    refine v_last F (pc := 11) e4 dL_offence_11 ?_
    refine v_goto C (pc := 12) (tgt := 23) dL_offence_12 (by decide) ?_
    refine v_iconst C (pc := 23) (v := 0) dL_offence_23 (by decide) ?_
    exact v_eret (pc := 24) E rfl (nar_int _) ⟨_, rfl, h⟩ (by decide) (by decide) dL_offence_24
/-! L_exclude -/
abbrev rmL_exclude : Room := { frames := 7, cells := 1, slots := 6, locals := 115 }
def vsL_exclude : List Cond := wsL_exclude ++ hL3
def wL_exclude (M : hM) (a0 : Option Nat) (a1 : Int32) (a2 : Int32) (a3 : Option Nat) (Q : hM → Int32 → Prop) : Prop :=
  ∃ y2, hC M 4 a0 = some y2 ∧
  wX4_exclude M y2 a1 a2 (fun M3 x1 =>
    if (x1 : Int32) = 0 then (
      ∃ M5, sJ M3 2 a3 0 0 = some M5 ∧
      Q M5 0
    ) else (
      ∃ M6, sJ M3 2 a3 0 1 = some M6 ∧
      Q M6 0
    )) (fun Ex M9 => if Ex = "java/lang/IndexOutOfBoundsException" then (
      Q M9 1) else if Ex = "java/lang/IllegalArgumentException" then (
        Q M9 2) else False)
set_option maxRecDepth 100000 in
set_option maxHeartbeats 4000000 in
theorem cL_exclude_met (l : Launch) (hfl : l.stackTraces = false) (G : hG) (M : hM) {a0 : Option Nat} {a1 : Int32} {a2 : Int32} {a3 : Option Nat} {Q : hM → Int32 → Prop} (h : wL_exclude M a0 a1 a2 a3 Q) : hEMet l yL_exclude vsL_exclude rmL_exclude [va_rf a0, .int a1, .int a2, va_rf a3] G M (hQi Q) (fun _ _ => False) 1 6 := by
  refine he_entryH (hh := [(0, 17, 20, 21), (0, 17, 24, 13)]) (own := RL) (cc := cL_exclude) (maxL := 5) (ret := (some .int)) (lv := [some (va_rf a0), some (.int a1), some (.int a2), some (va_rf a3), none]) hfl (by decide) rfl rfl (hcc (rf_cat _) (hcc rfl (hcc rfl (hcc (rf_cat _) hc0)))) (Nat.le_of_ble_eq_true rfl) rfl (fun κ sz hG hl hR E ht => ?_)
  subst hG; subst hl
  unfold wL_exclude at h
  have F := E.1
  have C := F.1
  refine v_aload_n C (pc := 0) (i := 3) dL_exclude_0 rfl ?_
  refine v_iconst C (pc := 1) (v := 0) dL_exclude_1 (by decide) ?_
  refine v_aload_n C (pc := 2) (i := 0) dL_exclude_2 rfl ?_
  refine v_iload_n C (pc := 3) (i := 1) dL_exclude_3 rfl ?_
  refine v_iload_n C (pc := 4) (i := 2) dL_exclude_4 rfl ?_
  obtain ⟨y2, hy2, hh⟩ := h
  skip
  obtain ⟨rfl, fsy2, hfy2⟩ := hC_inv hy2
  have h := hh
  clear hh
  refine v_xV F (pc := 5) (ci := 4) [.int a1, .int a2] 2 (cX4_exclude_met (kl κ) F.2.2.2.1 (kG κ) _ h) hfy2 rfl (good_l gL_exclude_X4_exclude) rfl hdX4_exclude rfl rfl rfl (by rw [hR]; exact ⟨Nat.le_of_ble_eq_true rfl, Nat.le_of_ble_eq_true rfl⟩) (by rw [hR]; decide) (Nat.le_of_ble_eq_true rfl) rfl dL_exclude_5 (fun Ex M9 h => ?_) (hk_i fun M3 x1 h => ?_)
  · by_cases hE0 : Ex = "java/lang/IndexOutOfBoundsException"
    · rw [if_pos hE0] at h
      subst hE0
      refine v_catch F (pc := 5) ht (name := "java/lang/IndexOutOfBoundsException") [] ⟨0, 17, 20, 21⟩ [⟨0, 17, 24, 13⟩] rfl (fun z hz => absurd hz List.not_mem_nil) (by decide) (by decide) (List.mem_append_right _ (List.mem_of_getElem? (i := 2) rfl)) (by decide) (fun q9 => ?_)
      refine v_astore C (pc := 20) (i := 4) (lv' := [some (va_rf (some y2)), some (.int a1), some (.int a2), some (va_rf a3), some (va_rf (some q9))]) dL_exclude_20 rfl rfl ?_
      refine v_iconst C (pc := 22) (v := 1) dL_exclude_22 (by decide) ?_
      exact v_eret (pc := 23) E rfl (nar_int _) ⟨_, rfl, h⟩ (by decide) (by decide) dL_exclude_23
    · rw [if_neg hE0] at h
      by_cases hE1 : Ex = "java/lang/IllegalArgumentException"
      · rw [if_pos hE1] at h
        subst hE1
        refine v_catch F (pc := 5) ht (name := "java/lang/IllegalArgumentException") [⟨0, 17, 20, 21⟩] ⟨0, 17, 24, 13⟩ [] rfl (List.forall_mem_cons.mpr ⟨Or.inr ⟨by decide, "java/lang/IndexOutOfBoundsException", List.mem_append_right _ (List.mem_of_getElem? (i := 2) rfl), by decide⟩, fun z hz => absurd hz List.not_mem_nil⟩) (by decide) (by decide) (List.mem_append_right _ (List.mem_of_getElem? (i := 0) rfl)) (by decide) (fun q9 => ?_)
        refine v_astore C (pc := 24) (i := 4) (lv' := [some (va_rf (some y2)), some (.int a1), some (.int a2), some (va_rf a3), some (va_rf (some q9))]) dL_exclude_24 rfl rfl ?_
        refine v_iconst C (pc := 26) (v := 2) dL_exclude_26 (by decide) ?_
        exact v_eret (pc := 27) E rfl (nar_int _) ⟨_, rfl, h⟩ (by decide) (by decide) dL_exclude_27
      · rw [if_neg hE1] at h
        exact h.elim
  · refine v_if_eq C (pc := 8) (tgt := 15) dL_exclude_8 (by decide) (fun c4 => ?_) (fun c4 => ?_)
    · rw [if_pos c4] at h
      refine v_lconst C (pc := 15) (v := 0) dL_exclude_15 (by decide) ?_
      obtain ⟨M5, e5, h⟩ := h
      refine v_last F (pc := 16) e5 dL_exclude_16 ?_
      refine v_goto C (pc := 17) (tgt := 28) dL_exclude_17 (by decide) ?_
      refine v_iconst C (pc := 28) (v := 0) dL_exclude_28 (by decide) ?_
      exact v_eret (pc := 29) E rfl (nar_int _) ⟨_, rfl, h⟩ (by decide) (by decide) dL_exclude_29
    · rw [if_neg c4] at h
      refine v_lconst C (pc := 11) (v := 1) dL_exclude_11 (by decide) ?_
      refine v_goto C (pc := 12) (tgt := 16) dL_exclude_12 (by decide) ?_
      obtain ⟨M6, e6, h⟩ := h
      refine v_last F (pc := 16) e6 dL_exclude_16 ?_
      refine v_goto C (pc := 17) (tgt := 28) dL_exclude_17 (by decide) ?_
      refine v_iconst C (pc := 28) (v := 0) dL_exclude_28 (by decide) ?_
      exact v_eret (pc := 29) E rfl (nar_int _) ⟨_, rfl, h⟩ (by decide) (by decide) dL_exclude_29
/-! L_pass -/
abbrev rmL_pass : Room := { frames := 7, cells := 1, slots := 6, locals := 135 }
def vsL_pass : List Cond := wsL_pass ++ hL3
def wL_pass (M : hM) (a0 : Option Nat) (a1 : Int32) (a2 : Option Nat) (Q : hM → Int32 → Prop) : Prop :=
  ∃ y2, hC M 4 a0 = some y2 ∧
  wX4_pass M y2 a1 (fun M3 x1 =>
    ∃ M4, sJ M3 2 a2 0 (Int32.toInt64 x1) = some M4 ∧
    Q M4 0) (fun Ex M9 => if Ex = "java/lang/IllegalArgumentException" then (
      Q M9 1) else if Ex = "java/lang/IllegalStateException" then (
        Q M9 2) else False)
set_option maxRecDepth 100000 in
set_option maxHeartbeats 4000000 in
theorem cL_pass_met (l : Launch) (hfl : l.stackTraces = false) (G : hG) (M : hM) {a0 : Option Nat} {a1 : Int32} {a2 : Option Nat} {Q : hM → Int32 → Prop} (h : wL_pass M a0 a1 a2 Q) : hEMet l yL_pass vsL_pass rmL_pass [va_rf a0, .int a1, va_rf a2] G M (hQi Q) (fun _ _ => False) 1 6 := by
  refine he_entryH (hh := [(0, 9, 12, 13), (0, 9, 15, 15)]) (own := RL) (cc := cL_pass) (maxL := 4) (ret := (some .int)) (lv := [some (va_rf a0), some (.int a1), some (va_rf a2), none]) hfl (by decide) rfl rfl (hcc (rf_cat _) (hcc rfl (hcc (rf_cat _) hc0))) (Nat.le_of_ble_eq_true rfl) rfl (fun κ sz hG hl hR E ht => ?_)
  subst hG; subst hl
  unfold wL_pass at h
  have F := E.1
  have C := F.1
  refine v_aload_n C (pc := 0) (i := 2) dL_pass_0 rfl ?_
  refine v_iconst C (pc := 1) (v := 0) dL_pass_1 (by decide) ?_
  refine v_aload_n C (pc := 2) (i := 0) dL_pass_2 rfl ?_
  refine v_iload_n C (pc := 3) (i := 1) dL_pass_3 rfl ?_
  obtain ⟨y2, hy2, hh⟩ := h
  skip
  obtain ⟨rfl, fsy2, hfy2⟩ := hC_inv hy2
  have h := hh
  clear hh
  refine v_xV F (pc := 4) (ci := 4) [.int a1] 1 (cX4_pass_met (kl κ) F.2.2.2.1 (kG κ) _ h) hfy2 rfl (good_l gL_pass_X4_pass) rfl hdX4_pass rfl rfl rfl (by rw [hR]; exact ⟨Nat.le_of_ble_eq_true rfl, Nat.le_of_ble_eq_true rfl⟩) (by rw [hR]; decide) (Nat.le_of_ble_eq_true rfl) rfl dL_pass_4 (fun Ex M9 h => ?_) (hk_i fun M3 x1 h => ?_)
  · by_cases hE0 : Ex = "java/lang/IllegalArgumentException"
    · rw [if_pos hE0] at h
      subst hE0
      refine v_catch F (pc := 4) ht (name := "java/lang/IllegalArgumentException") [] ⟨0, 9, 12, 13⟩ [⟨0, 9, 15, 15⟩] rfl (fun z hz => absurd hz List.not_mem_nil) (by decide) (by decide) (List.mem_append_right _ (List.mem_of_getElem? (i := 0) rfl)) (by decide) (fun q9 => ?_)
      refine v_astore_n C (pc := 12) (i := 3) (lv' := [some (va_rf (some y2)), some (.int a1), some (va_rf a2), some (va_rf (some q9))]) dL_pass_12 rfl rfl ?_
      refine v_iconst C (pc := 13) (v := 1) dL_pass_13 (by decide) ?_
      exact v_eret (pc := 14) E rfl (nar_int _) ⟨_, rfl, h⟩ (by decide) (by decide) dL_pass_14
    · rw [if_neg hE0] at h
      by_cases hE1 : Ex = "java/lang/IllegalStateException"
      · rw [if_pos hE1] at h
        subst hE1
        refine v_catch F (pc := 4) ht (name := "java/lang/IllegalStateException") [⟨0, 9, 12, 13⟩] ⟨0, 9, 15, 15⟩ [] rfl (List.forall_mem_cons.mpr ⟨Or.inr ⟨by decide, "java/lang/IllegalArgumentException", List.mem_append_right _ (List.mem_of_getElem? (i := 0) rfl), by decide⟩, fun z hz => absurd hz List.not_mem_nil⟩) (by decide) (by decide) (List.mem_append_right _ (List.mem_of_getElem? (i := 1) rfl)) (by decide) (fun q9 => ?_)
        refine v_astore_n C (pc := 15) (i := 3) (lv' := [some (va_rf (some y2)), some (.int a1), some (va_rf a2), some (va_rf (some q9))]) dL_pass_15 rfl rfl ?_
        refine v_iconst C (pc := 16) (v := 2) dL_pass_16 (by decide) ?_
        exact v_eret (pc := 17) E rfl (nar_int _) ⟨_, rfl, h⟩ (by decide) (by decide) dL_pass_17
      · rw [if_neg hE1] at h
        exact h.elim
  · refine v_i2l C (pc := 7) dL_pass_7 ?_
    obtain ⟨M4, e4, h⟩ := h
    refine v_last F (pc := 8) e4 dL_pass_8 ?_
    refine v_goto C (pc := 9) (tgt := 18) dL_pass_9 (by decide) ?_
    refine v_iconst C (pc := 18) (v := 0) dL_pass_18 (by decide) ?_
    exact v_eret (pc := 19) E rfl (nar_int _) ⟨_, rfl, h⟩ (by decide) (by decide) dL_pass_19
/-! L_file -/
abbrev rmL_file : Room := { frames := 7, cells := 20, slots := 211, locals := 115 }
def vsL_file : List Cond := wsL_file ++ hL3
def wL_file (M : hM) (a0 : Option Nat) (a1 : Int32) (a2 : Int32) (a3 : Int32) (a4 : Option Nat) (Q : hM → Int32 → Prop) : Prop :=
  ∃ y2, hC M 4 a0 = some y2 ∧
  wX4_file M y2 a1 a2 a3 (fun M3 x1 =>
    ∃ M4, sJ M3 2 a4 0 (Int32.toInt64 x1) = some M4 ∧
    Q M4 0) (fun Ex M9 => if Ex = "java/lang/IllegalArgumentException" then (
      Q M9 1) else if Ex = "java/lang/IllegalStateException" then (
        Q M9 2) else False)
set_option maxRecDepth 100000 in
set_option maxHeartbeats 4000000 in
theorem cL_file_met (l : Launch) (hfl : l.stackTraces = false) (G : hG) (M : hM) {a0 : Option Nat} {a1 : Int32} {a2 : Int32} {a3 : Int32} {a4 : Option Nat} {Q : hM → Int32 → Prop} (h : wL_file M a0 a1 a2 a3 a4 Q) : hEMet l yL_file vsL_file rmL_file [va_rf a0, .int a1, .int a2, .int a3, va_rf a4] G M (hQi Q) (fun _ _ => False) 20 211 := by
  refine he_entryH (hh := [(0, 12, 15, 13), (0, 12, 19, 15)]) (own := RL) (cc := cL_file) (maxL := 6) (ret := (some .int)) (lv := [some (va_rf a0), some (.int a1), some (.int a2), some (.int a3), some (va_rf a4), none]) hfl (by decide) rfl rfl (hcc (rf_cat _) (hcc rfl (hcc rfl (hcc rfl (hcc (rf_cat _) hc0))))) (Nat.le_of_ble_eq_true rfl) rfl (fun κ sz hG hl hR E ht => ?_)
  subst hG; subst hl
  unfold wL_file at h
  have F := E.1
  have C := F.1
  refine v_aload C (pc := 0) (i := 4) dL_file_0 rfl ?_
  refine v_iconst C (pc := 2) (v := 0) dL_file_2 (by decide) ?_
  refine v_aload_n C (pc := 3) (i := 0) dL_file_3 rfl ?_
  refine v_iload_n C (pc := 4) (i := 1) dL_file_4 rfl ?_
  refine v_iload_n C (pc := 5) (i := 2) dL_file_5 rfl ?_
  refine v_iload_n C (pc := 6) (i := 3) dL_file_6 rfl ?_
  obtain ⟨y2, hy2, hh⟩ := h
  skip
  obtain ⟨rfl, fsy2, hfy2⟩ := hC_inv hy2
  have h := hh
  clear hh
  refine v_xV F (pc := 7) (ci := 4) [.int a1, .int a2, .int a3] 3 (cX4_file_met (kl κ) F.2.2.2.1 (kG κ) _ h) hfy2 rfl (good_l gL_file_X4_file) rfl hdX4_file rfl rfl rfl (by rw [hR]; exact ⟨Nat.le_of_ble_eq_true rfl, Nat.le_of_ble_eq_true rfl⟩) (by rw [hR]; decide) (Nat.le_of_ble_eq_true rfl) rfl dL_file_7 (fun Ex M9 h => ?_) (hk_i fun M3 x1 h => ?_)
  · by_cases hE0 : Ex = "java/lang/IllegalArgumentException"
    · rw [if_pos hE0] at h
      subst hE0
      refine v_catch F (pc := 7) ht (name := "java/lang/IllegalArgumentException") [] ⟨0, 12, 15, 13⟩ [⟨0, 12, 19, 15⟩] rfl (fun z hz => absurd hz List.not_mem_nil) (by decide) (by decide) (List.mem_append_right _ (List.mem_of_getElem? (i := 0) rfl)) (by decide) (fun q9 => ?_)
      refine v_astore C (pc := 15) (i := 5) (lv' := [some (va_rf (some y2)), some (.int a1), some (.int a2), some (.int a3), some (va_rf a4), some (va_rf (some q9))]) dL_file_15 rfl rfl ?_
      refine v_iconst C (pc := 17) (v := 1) dL_file_17 (by decide) ?_
      exact v_eret (pc := 18) E rfl (nar_int _) ⟨_, rfl, h⟩ (by decide) (by decide) dL_file_18
    · rw [if_neg hE0] at h
      by_cases hE1 : Ex = "java/lang/IllegalStateException"
      · rw [if_pos hE1] at h
        subst hE1
        refine v_catch F (pc := 7) ht (name := "java/lang/IllegalStateException") [⟨0, 12, 15, 13⟩] ⟨0, 12, 19, 15⟩ [] rfl (List.forall_mem_cons.mpr ⟨Or.inr ⟨by decide, "java/lang/IllegalArgumentException", List.mem_append_right _ (List.mem_of_getElem? (i := 0) rfl), by decide⟩, fun z hz => absurd hz List.not_mem_nil⟩) (by decide) (by decide) (List.mem_append_right _ (List.mem_of_getElem? (i := 1) rfl)) (by decide) (fun q9 => ?_)
        refine v_astore C (pc := 19) (i := 5) (lv' := [some (va_rf (some y2)), some (.int a1), some (.int a2), some (.int a3), some (va_rf a4), some (va_rf (some q9))]) dL_file_19 rfl rfl ?_
        refine v_iconst C (pc := 21) (v := 2) dL_file_21 (by decide) ?_
        exact v_eret (pc := 22) E rfl (nar_int _) ⟨_, rfl, h⟩ (by decide) (by decide) dL_file_22
      · rw [if_neg hE1] at h
        exact h.elim
  · refine v_i2l C (pc := 10) dL_file_10 ?_
    obtain ⟨M4, e4, h⟩ := h
    refine v_last F (pc := 11) e4 dL_file_11 ?_
    refine v_goto C (pc := 12) (tgt := 23) dL_file_12 (by decide) ?_
    refine v_iconst C (pc := 23) (v := 0) dL_file_23 (by decide) ?_
    exact v_eret (pc := 24) E rfl (nar_int _) ⟨_, rfl, h⟩ (by decide) (by decide) dL_file_24
/-! L_item -/
abbrev rmL_item : Room := { frames := 7, cells := 1, slots := 10, locals := 117 }
def vsL_item : List Cond := wsL_item ++ hL3
def wL_item (M : hM) (a0 : Option Nat) (a1 : Int32) (a2 : Int32) (a3 : Int32) (a4 : Int32) (a5 : Int32) (a6 : Int32) (a7 : Option Nat) (Q : hM → Int32 → Prop) : Prop :=
  ∃ y2, hC M 4 a0 = some y2 ∧
  wX4_item M y2 a1 a2 a3 a4 a5 a6 (fun M3 x1 =>
    ∃ M4, sJ M3 2 a7 0 (Int32.toInt64 x1) = some M4 ∧
    Q M4 0) (fun Ex M9 => if Ex = "java/lang/IndexOutOfBoundsException" then (
      Q M9 1) else if Ex = "java/lang/IllegalArgumentException" then (
        Q M9 2) else if Ex = "java/lang/IllegalStateException" then (
          Q M9 3) else False)
set_option maxRecDepth 100000 in
set_option maxHeartbeats 4000000 in
theorem cL_item_met (l : Launch) (hfl : l.stackTraces = false) (G : hG) (M : hM) {a0 : Option Nat} {a1 : Int32} {a2 : Int32} {a3 : Int32} {a4 : Int32} {a5 : Int32} {a6 : Int32} {a7 : Option Nat} {Q : hM → Int32 → Prop} (h : wL_item M a0 a1 a2 a3 a4 a5 a6 a7 Q) : hEMet l yL_item vsL_item rmL_item [va_rf a0, .int a1, .int a2, .int a3, .int a4, .int a5, .int a6, va_rf a7] G M (hQi Q) (fun _ _ => False) 1 10 := by
  refine he_entryH (hh := [(0, 18, 21, 21), (0, 18, 25, 13), (0, 18, 29, 15)]) (own := RL) (cc := cL_item) (maxL := 9) (ret := (some .int)) (lv := [some (va_rf a0), some (.int a1), some (.int a2), some (.int a3), some (.int a4), some (.int a5), some (.int a6), some (va_rf a7), none]) hfl (by decide) rfl rfl (hcc (rf_cat _) (hcc rfl (hcc rfl (hcc rfl (hcc rfl (hcc rfl (hcc rfl (hcc (rf_cat _) hc0)))))))) (Nat.le_of_ble_eq_true rfl) rfl (fun κ sz hG hl hR E ht => ?_)
  subst hG; subst hl
  unfold wL_item at h
  have F := E.1
  have C := F.1
  refine v_aload C (pc := 0) (i := 7) dL_item_0 rfl ?_
  refine v_iconst C (pc := 2) (v := 0) dL_item_2 (by decide) ?_
  refine v_aload_n C (pc := 3) (i := 0) dL_item_3 rfl ?_
  refine v_iload_n C (pc := 4) (i := 1) dL_item_4 rfl ?_
  refine v_iload_n C (pc := 5) (i := 2) dL_item_5 rfl ?_
  refine v_iload_n C (pc := 6) (i := 3) dL_item_6 rfl ?_
  refine v_iload C (pc := 7) (i := 4) dL_item_7 rfl ?_
  refine v_iload C (pc := 9) (i := 5) dL_item_9 rfl ?_
  refine v_iload C (pc := 11) (i := 6) dL_item_11 rfl ?_
  obtain ⟨y2, hy2, hh⟩ := h
  skip
  obtain ⟨rfl, fsy2, hfy2⟩ := hC_inv hy2
  have h := hh
  clear hh
  refine v_xV F (pc := 13) (ci := 4) [.int a1, .int a2, .int a3, .int a4, .int a5, .int a6] 6 (cX4_item_met (kl κ) F.2.2.2.1 (kG κ) _ h) hfy2 rfl (good_l gL_item_X4_item) rfl hdX4_item rfl rfl rfl (by rw [hR]; exact ⟨Nat.le_of_ble_eq_true rfl, Nat.le_of_ble_eq_true rfl⟩) (by rw [hR]; decide) (Nat.le_of_ble_eq_true rfl) rfl dL_item_13 (fun Ex M9 h => ?_) (hk_i fun M3 x1 h => ?_)
  · by_cases hE0 : Ex = "java/lang/IndexOutOfBoundsException"
    · rw [if_pos hE0] at h
      subst hE0
      refine v_catch F (pc := 13) ht (name := "java/lang/IndexOutOfBoundsException") [] ⟨0, 18, 21, 21⟩ [⟨0, 18, 25, 13⟩, ⟨0, 18, 29, 15⟩] rfl (fun z hz => absurd hz List.not_mem_nil) (by decide) (by decide) (List.mem_append_right _ (List.mem_of_getElem? (i := 2) rfl)) (by decide) (fun q9 => ?_)
      refine v_astore C (pc := 21) (i := 8) (lv' := [some (va_rf (some y2)), some (.int a1), some (.int a2), some (.int a3), some (.int a4), some (.int a5), some (.int a6), some (va_rf a7), some (va_rf (some q9))]) dL_item_21 rfl rfl ?_
      refine v_iconst C (pc := 23) (v := 1) dL_item_23 (by decide) ?_
      exact v_eret (pc := 24) E rfl (nar_int _) ⟨_, rfl, h⟩ (by decide) (by decide) dL_item_24
    · rw [if_neg hE0] at h
      by_cases hE1 : Ex = "java/lang/IllegalArgumentException"
      · rw [if_pos hE1] at h
        subst hE1
        refine v_catch F (pc := 13) ht (name := "java/lang/IllegalArgumentException") [⟨0, 18, 21, 21⟩] ⟨0, 18, 25, 13⟩ [⟨0, 18, 29, 15⟩] rfl (List.forall_mem_cons.mpr ⟨Or.inr ⟨by decide, "java/lang/IndexOutOfBoundsException", List.mem_append_right _ (List.mem_of_getElem? (i := 2) rfl), by decide⟩, fun z hz => absurd hz List.not_mem_nil⟩) (by decide) (by decide) (List.mem_append_right _ (List.mem_of_getElem? (i := 0) rfl)) (by decide) (fun q9 => ?_)
        refine v_astore C (pc := 25) (i := 8) (lv' := [some (va_rf (some y2)), some (.int a1), some (.int a2), some (.int a3), some (.int a4), some (.int a5), some (.int a6), some (va_rf a7), some (va_rf (some q9))]) dL_item_25 rfl rfl ?_
        refine v_iconst C (pc := 27) (v := 2) dL_item_27 (by decide) ?_
        exact v_eret (pc := 28) E rfl (nar_int _) ⟨_, rfl, h⟩ (by decide) (by decide) dL_item_28
      · rw [if_neg hE1] at h
        by_cases hE2 : Ex = "java/lang/IllegalStateException"
        · rw [if_pos hE2] at h
          subst hE2
          refine v_catch F (pc := 13) ht (name := "java/lang/IllegalStateException") [⟨0, 18, 21, 21⟩, ⟨0, 18, 25, 13⟩] ⟨0, 18, 29, 15⟩ [] rfl (List.forall_mem_cons.mpr ⟨Or.inr ⟨by decide, "java/lang/IndexOutOfBoundsException", List.mem_append_right _ (List.mem_of_getElem? (i := 2) rfl), by decide⟩, List.forall_mem_cons.mpr ⟨Or.inr ⟨by decide, "java/lang/IllegalArgumentException", List.mem_append_right _ (List.mem_of_getElem? (i := 0) rfl), by decide⟩, fun z hz => absurd hz List.not_mem_nil⟩⟩) (by decide) (by decide) (List.mem_append_right _ (List.mem_of_getElem? (i := 1) rfl)) (by decide) (fun q9 => ?_)
          refine v_astore C (pc := 29) (i := 8) (lv' := [some (va_rf (some y2)), some (.int a1), some (.int a2), some (.int a3), some (.int a4), some (.int a5), some (.int a6), some (va_rf a7), some (va_rf (some q9))]) dL_item_29 rfl rfl ?_
          refine v_iconst C (pc := 31) (v := 3) dL_item_31 (by decide) ?_
          exact v_eret (pc := 32) E rfl (nar_int _) ⟨_, rfl, h⟩ (by decide) (by decide) dL_item_32
        · rw [if_neg hE2] at h
          exact h.elim
  · refine v_i2l C (pc := 16) dL_item_16 ?_
    obtain ⟨M4, e4, h⟩ := h
    refine v_last F (pc := 17) e4 dL_item_17 ?_
    refine v_goto C (pc := 18) (tgt := 33) dL_item_18 (by decide) ?_
    refine v_iconst C (pc := 33) (v := 0) dL_item_33 (by decide) ?_
    exact v_eret (pc := 34) E rfl (nar_int _) ⟨_, rfl, h⟩ (by decide) (by decide) dL_item_34
/-! L_admit -/
abbrev rmL_admit : Room := { frames := 7, cells := 1, slots := 6, locals := 112 }
def vsL_admit : List Cond := wsL_admit ++ hL3
def wL_admit (M : hM) (a0 : Option Nat) (a1 : Int32) (Q : hM → Int32 → Prop) : Prop :=
  ∃ y2, hC M 4 a0 = some y2 ∧
  wX4_admit M y2 a1 (fun M3 =>
    Q M3 0) (fun Ex M9 => if Ex = "java/lang/IndexOutOfBoundsException" then (
      Q M9 1) else if Ex = "java/lang/IllegalStateException" then (
        Q M9 2) else False)
set_option maxRecDepth 100000 in
set_option maxHeartbeats 4000000 in
theorem cL_admit_met (l : Launch) (hfl : l.stackTraces = false) (G : hG) (M : hM) {a0 : Option Nat} {a1 : Int32} {Q : hM → Int32 → Prop} (h : wL_admit M a0 a1 Q) : hEMet l yL_admit vsL_admit rmL_admit [va_rf a0, .int a1] G M (hQi Q) (fun _ _ => False) 1 6 := by
  refine he_entryH (hh := [(0, 5, 8, 21), (0, 5, 11, 15)]) (own := RL) (cc := cL_admit) (maxL := 3) (ret := (some .int)) (lv := [some (va_rf a0), some (.int a1), none]) hfl (by decide) rfl rfl (hcc (rf_cat _) (hcc rfl hc0)) (Nat.le_of_ble_eq_true rfl) rfl (fun κ sz hG hl hR E ht => ?_)
  subst hG; subst hl
  unfold wL_admit at h
  have F := E.1
  have C := F.1
  refine v_aload_n C (pc := 0) (i := 0) dL_admit_0 rfl ?_
  refine v_iload_n C (pc := 1) (i := 1) dL_admit_1 rfl ?_
  obtain ⟨y2, hy2, hh⟩ := h
  skip
  obtain ⟨rfl, fsy2, hfy2⟩ := hC_inv hy2
  have h := hh
  clear hh
  refine v_xV F (pc := 2) (ci := 4) [.int a1] 1 (cX4_admit_met (kl κ) F.2.2.2.1 (kG κ) _ h) hfy2 rfl (good_l gL_admit_X4_admit) rfl hdX4_admit rfl rfl rfl (by rw [hR]; exact ⟨Nat.le_of_ble_eq_true rfl, Nat.le_of_ble_eq_true rfl⟩) (by rw [hR]; decide) (Nat.le_of_ble_eq_true rfl) rfl dL_admit_2 (fun Ex M9 h => ?_) (hk_v fun M3 h => ?_)
  · by_cases hE0 : Ex = "java/lang/IndexOutOfBoundsException"
    · rw [if_pos hE0] at h
      subst hE0
      refine v_catch F (pc := 2) ht (name := "java/lang/IndexOutOfBoundsException") [] ⟨0, 5, 8, 21⟩ [⟨0, 5, 11, 15⟩] rfl (fun z hz => absurd hz List.not_mem_nil) (by decide) (by decide) (List.mem_append_right _ (List.mem_of_getElem? (i := 2) rfl)) (by decide) (fun q9 => ?_)
      refine v_astore_n C (pc := 8) (i := 2) (lv' := [some (va_rf (some y2)), some (.int a1), some (va_rf (some q9))]) dL_admit_8 rfl rfl ?_
      refine v_iconst C (pc := 9) (v := 1) dL_admit_9 (by decide) ?_
      exact v_eret (pc := 10) E rfl (nar_int _) ⟨_, rfl, h⟩ (by decide) (by decide) dL_admit_10
    · rw [if_neg hE0] at h
      by_cases hE1 : Ex = "java/lang/IllegalStateException"
      · rw [if_pos hE1] at h
        subst hE1
        refine v_catch F (pc := 2) ht (name := "java/lang/IllegalStateException") [⟨0, 5, 8, 21⟩] ⟨0, 5, 11, 15⟩ [] rfl (List.forall_mem_cons.mpr ⟨Or.inr ⟨by decide, "java/lang/IndexOutOfBoundsException", List.mem_append_right _ (List.mem_of_getElem? (i := 2) rfl), by decide⟩, fun z hz => absurd hz List.not_mem_nil⟩) (by decide) (by decide) (List.mem_append_right _ (List.mem_of_getElem? (i := 1) rfl)) (by decide) (fun q9 => ?_)
        refine v_astore_n C (pc := 11) (i := 2) (lv' := [some (va_rf (some y2)), some (.int a1), some (va_rf (some q9))]) dL_admit_11 rfl rfl ?_
        refine v_iconst C (pc := 12) (v := 2) dL_admit_12 (by decide) ?_
        exact v_eret (pc := 13) E rfl (nar_int _) ⟨_, rfl, h⟩ (by decide) (by decide) dL_admit_13
      · rw [if_neg hE1] at h
        exact h.elim
  · refine v_goto C (pc := 5) (tgt := 14) dL_admit_5 (by decide) ?_
    refine v_iconst C (pc := 14) (v := 0) dL_admit_14 (by decide) ?_
    exact v_eret (pc := 15) E rfl (nar_int _) ⟨_, rfl, h⟩ (by decide) (by decide) dL_admit_15
/-! L_show -/
abbrev rmL_show : Room := { frames := 7, cells := 1, slots := 6, locals := 113 }
def vsL_show : List Cond := wsL_show ++ hL3
def wL_show (M : hM) (a0 : Option Nat) (a1 : Int32) (a2 : Int32) (a3 : Option Nat) (Q : hM → Int32 → Prop) : Prop :=
  ∃ y2, hC M 4 a0 = some y2 ∧
  wX4_show M y2 a1 a2 (fun M3 x1 =>
    ∃ M4, sJ M3 2 a3 0 (Int32.toInt64 x1) = some M4 ∧
    Q M4 0) (fun Ex M9 => if Ex = "java/lang/IndexOutOfBoundsException" then (
      Q M9 1) else if Ex = "java/lang/IllegalStateException" then (
        Q M9 2) else False)
set_option maxRecDepth 100000 in
set_option maxHeartbeats 4000000 in
theorem cL_show_met (l : Launch) (hfl : l.stackTraces = false) (G : hG) (M : hM) {a0 : Option Nat} {a1 : Int32} {a2 : Int32} {a3 : Option Nat} {Q : hM → Int32 → Prop} (h : wL_show M a0 a1 a2 a3 Q) : hEMet l yL_show vsL_show rmL_show [va_rf a0, .int a1, .int a2, va_rf a3] G M (hQi Q) (fun _ _ => False) 1 6 := by
  refine he_entryH (hh := [(0, 10, 13, 21), (0, 10, 17, 15)]) (own := RL) (cc := cL_show) (maxL := 5) (ret := (some .int)) (lv := [some (va_rf a0), some (.int a1), some (.int a2), some (va_rf a3), none]) hfl (by decide) rfl rfl (hcc (rf_cat _) (hcc rfl (hcc rfl (hcc (rf_cat _) hc0)))) (Nat.le_of_ble_eq_true rfl) rfl (fun κ sz hG hl hR E ht => ?_)
  subst hG; subst hl
  unfold wL_show at h
  have F := E.1
  have C := F.1
  refine v_aload_n C (pc := 0) (i := 3) dL_show_0 rfl ?_
  refine v_iconst C (pc := 1) (v := 0) dL_show_1 (by decide) ?_
  refine v_aload_n C (pc := 2) (i := 0) dL_show_2 rfl ?_
  refine v_iload_n C (pc := 3) (i := 1) dL_show_3 rfl ?_
  refine v_iload_n C (pc := 4) (i := 2) dL_show_4 rfl ?_
  obtain ⟨y2, hy2, hh⟩ := h
  skip
  obtain ⟨rfl, fsy2, hfy2⟩ := hC_inv hy2
  have h := hh
  clear hh
  refine v_xV F (pc := 5) (ci := 4) [.int a1, .int a2] 2 (cX4_show_met (kl κ) F.2.2.2.1 (kG κ) _ h) hfy2 rfl (good_l gL_show_X4_show) rfl hdX4_show rfl rfl rfl (by rw [hR]; exact ⟨Nat.le_of_ble_eq_true rfl, Nat.le_of_ble_eq_true rfl⟩) (by rw [hR]; decide) (Nat.le_of_ble_eq_true rfl) rfl dL_show_5 (fun Ex M9 h => ?_) (hk_i fun M3 x1 h => ?_)
  · by_cases hE0 : Ex = "java/lang/IndexOutOfBoundsException"
    · rw [if_pos hE0] at h
      subst hE0
      refine v_catch F (pc := 5) ht (name := "java/lang/IndexOutOfBoundsException") [] ⟨0, 10, 13, 21⟩ [⟨0, 10, 17, 15⟩] rfl (fun z hz => absurd hz List.not_mem_nil) (by decide) (by decide) (List.mem_append_right _ (List.mem_of_getElem? (i := 2) rfl)) (by decide) (fun q9 => ?_)
      refine v_astore C (pc := 13) (i := 4) (lv' := [some (va_rf (some y2)), some (.int a1), some (.int a2), some (va_rf a3), some (va_rf (some q9))]) dL_show_13 rfl rfl ?_
      refine v_iconst C (pc := 15) (v := 1) dL_show_15 (by decide) ?_
      exact v_eret (pc := 16) E rfl (nar_int _) ⟨_, rfl, h⟩ (by decide) (by decide) dL_show_16
    · rw [if_neg hE0] at h
      by_cases hE1 : Ex = "java/lang/IllegalStateException"
      · rw [if_pos hE1] at h
        subst hE1
        refine v_catch F (pc := 5) ht (name := "java/lang/IllegalStateException") [⟨0, 10, 13, 21⟩] ⟨0, 10, 17, 15⟩ [] rfl (List.forall_mem_cons.mpr ⟨Or.inr ⟨by decide, "java/lang/IndexOutOfBoundsException", List.mem_append_right _ (List.mem_of_getElem? (i := 2) rfl), by decide⟩, fun z hz => absurd hz List.not_mem_nil⟩) (by decide) (by decide) (List.mem_append_right _ (List.mem_of_getElem? (i := 1) rfl)) (by decide) (fun q9 => ?_)
        refine v_astore C (pc := 17) (i := 4) (lv' := [some (va_rf (some y2)), some (.int a1), some (.int a2), some (va_rf a3), some (va_rf (some q9))]) dL_show_17 rfl rfl ?_
        refine v_iconst C (pc := 19) (v := 2) dL_show_19 (by decide) ?_
        exact v_eret (pc := 20) E rfl (nar_int _) ⟨_, rfl, h⟩ (by decide) (by decide) dL_show_20
      · rw [if_neg hE1] at h
        exact h.elim
  · refine v_i2l C (pc := 8) dL_show_8 ?_
    obtain ⟨M4, e4, h⟩ := h
    refine v_last F (pc := 9) e4 dL_show_9 ?_
    refine v_goto C (pc := 10) (tgt := 21) dL_show_10 (by decide) ?_
    refine v_iconst C (pc := 21) (v := 0) dL_show_21 (by decide) ?_
    exact v_eret (pc := 22) E rfl (nar_int _) ⟨_, rfl, h⟩ (by decide) (by decide) dL_show_22
/-! L_withhold -/
abbrev rmL_withhold : Room := { frames := 7, cells := 1, slots := 6, locals := 112 }
def vsL_withhold : List Cond := wsL_withhold ++ hL3
def wL_withhold (M : hM) (a0 : Option Nat) (a1 : Int32) (Q : hM → Int32 → Prop) : Prop :=
  ∃ y2, hC M 4 a0 = some y2 ∧
  wX4_withhold M y2 a1 (fun M3 =>
    Q M3 0) (fun Ex M9 => if Ex = "java/lang/IndexOutOfBoundsException" then (
      Q M9 1) else if Ex = "java/lang/IllegalStateException" then (
        Q M9 2) else False)
set_option maxRecDepth 100000 in
set_option maxHeartbeats 4000000 in
theorem cL_withhold_met (l : Launch) (hfl : l.stackTraces = false) (G : hG) (M : hM) {a0 : Option Nat} {a1 : Int32} {Q : hM → Int32 → Prop} (h : wL_withhold M a0 a1 Q) : hEMet l yL_withhold vsL_withhold rmL_withhold [va_rf a0, .int a1] G M (hQi Q) (fun _ _ => False) 1 6 := by
  refine he_entryH (hh := [(0, 5, 8, 21), (0, 5, 11, 15)]) (own := RL) (cc := cL_withhold) (maxL := 3) (ret := (some .int)) (lv := [some (va_rf a0), some (.int a1), none]) hfl (by decide) rfl rfl (hcc (rf_cat _) (hcc rfl hc0)) (Nat.le_of_ble_eq_true rfl) rfl (fun κ sz hG hl hR E ht => ?_)
  subst hG; subst hl
  unfold wL_withhold at h
  have F := E.1
  have C := F.1
  refine v_aload_n C (pc := 0) (i := 0) dL_withhold_0 rfl ?_
  refine v_iload_n C (pc := 1) (i := 1) dL_withhold_1 rfl ?_
  obtain ⟨y2, hy2, hh⟩ := h
  skip
  obtain ⟨rfl, fsy2, hfy2⟩ := hC_inv hy2
  have h := hh
  clear hh
  refine v_xV F (pc := 2) (ci := 4) [.int a1] 1 (cX4_withhold_met (kl κ) F.2.2.2.1 (kG κ) _ h) hfy2 rfl (good_l gL_withhold_X4_withhold) rfl hdX4_withhold rfl rfl rfl (by rw [hR]; exact ⟨Nat.le_of_ble_eq_true rfl, Nat.le_of_ble_eq_true rfl⟩) (by rw [hR]; decide) (Nat.le_of_ble_eq_true rfl) rfl dL_withhold_2 (fun Ex M9 h => ?_) (hk_v fun M3 h => ?_)
  · by_cases hE0 : Ex = "java/lang/IndexOutOfBoundsException"
    · rw [if_pos hE0] at h
      subst hE0
      refine v_catch F (pc := 2) ht (name := "java/lang/IndexOutOfBoundsException") [] ⟨0, 5, 8, 21⟩ [⟨0, 5, 11, 15⟩] rfl (fun z hz => absurd hz List.not_mem_nil) (by decide) (by decide) (List.mem_append_right _ (List.mem_of_getElem? (i := 2) rfl)) (by decide) (fun q9 => ?_)
      refine v_astore_n C (pc := 8) (i := 2) (lv' := [some (va_rf (some y2)), some (.int a1), some (va_rf (some q9))]) dL_withhold_8 rfl rfl ?_
      refine v_iconst C (pc := 9) (v := 1) dL_withhold_9 (by decide) ?_
      exact v_eret (pc := 10) E rfl (nar_int _) ⟨_, rfl, h⟩ (by decide) (by decide) dL_withhold_10
    · rw [if_neg hE0] at h
      by_cases hE1 : Ex = "java/lang/IllegalStateException"
      · rw [if_pos hE1] at h
        subst hE1
        refine v_catch F (pc := 2) ht (name := "java/lang/IllegalStateException") [⟨0, 5, 8, 21⟩] ⟨0, 5, 11, 15⟩ [] rfl (List.forall_mem_cons.mpr ⟨Or.inr ⟨by decide, "java/lang/IndexOutOfBoundsException", List.mem_append_right _ (List.mem_of_getElem? (i := 2) rfl), by decide⟩, fun z hz => absurd hz List.not_mem_nil⟩) (by decide) (by decide) (List.mem_append_right _ (List.mem_of_getElem? (i := 1) rfl)) (by decide) (fun q9 => ?_)
        refine v_astore_n C (pc := 11) (i := 2) (lv' := [some (va_rf (some y2)), some (.int a1), some (va_rf (some q9))]) dL_withhold_11 rfl rfl ?_
        refine v_iconst C (pc := 12) (v := 2) dL_withhold_12 (by decide) ?_
        exact v_eret (pc := 13) E rfl (nar_int _) ⟨_, rfl, h⟩ (by decide) (by decide) dL_withhold_13
      · rw [if_neg hE1] at h
        exact h.elim
  · refine v_goto C (pc := 5) (tgt := 14) dL_withhold_5 (by decide) ?_
    refine v_iconst C (pc := 14) (v := 0) dL_withhold_14 (by decide) ?_
    exact v_eret (pc := 15) E rfl (nar_int _) ⟨_, rfl, h⟩ (by decide) (by decide) dL_withhold_15
/-! L_charge -/
abbrev rmL_charge : Room := { frames := 8, cells := 3, slots := 18, locals := 167 }
def vsL_charge : List Cond := wsL_charge ++ hL3
def wL_charge (M : hM) (a0 : Option Nat) (a1 : Int32) (a2 : Int32) (a3 : Int32) (a4 : Option Nat) (Q : hM → Int32 → Prop) : Prop :=
  ∃ y2, hC M 4 a0 = some y2 ∧
  wX4_charge M y2 a1 a2 a3 (fun M3 x1 =>
    ∃ M4, sJ M3 2 a4 0 (Int32.toInt64 x1) = some M4 ∧
    Q M4 0) (fun Ex M9 => if Ex = "java/lang/IndexOutOfBoundsException" then (
      Q M9 1) else if Ex = "java/lang/IllegalArgumentException" then (
        Q M9 2) else if Ex = "java/lang/IllegalStateException" then (
          Q M9 3) else False)
set_option maxRecDepth 100000 in
set_option maxHeartbeats 4000000 in
theorem cL_charge_met (l : Launch) (hfl : l.stackTraces = false) (G : hG) (M : hM) {a0 : Option Nat} {a1 : Int32} {a2 : Int32} {a3 : Int32} {a4 : Option Nat} {Q : hM → Int32 → Prop} (h : wL_charge M a0 a1 a2 a3 a4 Q) : hEMet l yL_charge vsL_charge rmL_charge [va_rf a0, .int a1, .int a2, .int a3, va_rf a4] G M (hQi Q) (fun _ _ => False) 3 18 := by
  refine he_entryH (hh := [(0, 12, 15, 21), (0, 12, 19, 13), (0, 12, 23, 15)]) (own := RL) (cc := cL_charge) (maxL := 6) (ret := (some .int)) (lv := [some (va_rf a0), some (.int a1), some (.int a2), some (.int a3), some (va_rf a4), none]) hfl (by decide) rfl rfl (hcc (rf_cat _) (hcc rfl (hcc rfl (hcc rfl (hcc (rf_cat _) hc0))))) (Nat.le_of_ble_eq_true rfl) rfl (fun κ sz hG hl hR E ht => ?_)
  subst hG; subst hl
  unfold wL_charge at h
  have F := E.1
  have C := F.1
  refine v_aload C (pc := 0) (i := 4) dL_charge_0 rfl ?_
  refine v_iconst C (pc := 2) (v := 0) dL_charge_2 (by decide) ?_
  refine v_aload_n C (pc := 3) (i := 0) dL_charge_3 rfl ?_
  refine v_iload_n C (pc := 4) (i := 1) dL_charge_4 rfl ?_
  refine v_iload_n C (pc := 5) (i := 2) dL_charge_5 rfl ?_
  refine v_iload_n C (pc := 6) (i := 3) dL_charge_6 rfl ?_
  obtain ⟨y2, hy2, hh⟩ := h
  skip
  obtain ⟨rfl, fsy2, hfy2⟩ := hC_inv hy2
  have h := hh
  clear hh
  refine v_xV F (pc := 7) (ci := 4) [.int a1, .int a2, .int a3] 3 (cX4_charge_met (kl κ) F.2.2.2.1 (kG κ) _ h) hfy2 rfl (good_l gL_charge_X4_charge) rfl hdX4_charge rfl rfl rfl (by rw [hR]; exact ⟨Nat.le_of_ble_eq_true rfl, Nat.le_of_ble_eq_true rfl⟩) (by rw [hR]; decide) (Nat.le_of_ble_eq_true rfl) rfl dL_charge_7 (fun Ex M9 h => ?_) (hk_i fun M3 x1 h => ?_)
  · by_cases hE0 : Ex = "java/lang/IndexOutOfBoundsException"
    · rw [if_pos hE0] at h
      subst hE0
      refine v_catch F (pc := 7) ht (name := "java/lang/IndexOutOfBoundsException") [] ⟨0, 12, 15, 21⟩ [⟨0, 12, 19, 13⟩, ⟨0, 12, 23, 15⟩] rfl (fun z hz => absurd hz List.not_mem_nil) (by decide) (by decide) (List.mem_append_right _ (List.mem_of_getElem? (i := 2) rfl)) (by decide) (fun q9 => ?_)
      refine v_astore C (pc := 15) (i := 5) (lv' := [some (va_rf (some y2)), some (.int a1), some (.int a2), some (.int a3), some (va_rf a4), some (va_rf (some q9))]) dL_charge_15 rfl rfl ?_
      refine v_iconst C (pc := 17) (v := 1) dL_charge_17 (by decide) ?_
      exact v_eret (pc := 18) E rfl (nar_int _) ⟨_, rfl, h⟩ (by decide) (by decide) dL_charge_18
    · rw [if_neg hE0] at h
      by_cases hE1 : Ex = "java/lang/IllegalArgumentException"
      · rw [if_pos hE1] at h
        subst hE1
        refine v_catch F (pc := 7) ht (name := "java/lang/IllegalArgumentException") [⟨0, 12, 15, 21⟩] ⟨0, 12, 19, 13⟩ [⟨0, 12, 23, 15⟩] rfl (List.forall_mem_cons.mpr ⟨Or.inr ⟨by decide, "java/lang/IndexOutOfBoundsException", List.mem_append_right _ (List.mem_of_getElem? (i := 2) rfl), by decide⟩, fun z hz => absurd hz List.not_mem_nil⟩) (by decide) (by decide) (List.mem_append_right _ (List.mem_of_getElem? (i := 0) rfl)) (by decide) (fun q9 => ?_)
        refine v_astore C (pc := 19) (i := 5) (lv' := [some (va_rf (some y2)), some (.int a1), some (.int a2), some (.int a3), some (va_rf a4), some (va_rf (some q9))]) dL_charge_19 rfl rfl ?_
        refine v_iconst C (pc := 21) (v := 2) dL_charge_21 (by decide) ?_
        exact v_eret (pc := 22) E rfl (nar_int _) ⟨_, rfl, h⟩ (by decide) (by decide) dL_charge_22
      · rw [if_neg hE1] at h
        by_cases hE2 : Ex = "java/lang/IllegalStateException"
        · rw [if_pos hE2] at h
          subst hE2
          refine v_catch F (pc := 7) ht (name := "java/lang/IllegalStateException") [⟨0, 12, 15, 21⟩, ⟨0, 12, 19, 13⟩] ⟨0, 12, 23, 15⟩ [] rfl (List.forall_mem_cons.mpr ⟨Or.inr ⟨by decide, "java/lang/IndexOutOfBoundsException", List.mem_append_right _ (List.mem_of_getElem? (i := 2) rfl), by decide⟩, List.forall_mem_cons.mpr ⟨Or.inr ⟨by decide, "java/lang/IllegalArgumentException", List.mem_append_right _ (List.mem_of_getElem? (i := 0) rfl), by decide⟩, fun z hz => absurd hz List.not_mem_nil⟩⟩) (by decide) (by decide) (List.mem_append_right _ (List.mem_of_getElem? (i := 1) rfl)) (by decide) (fun q9 => ?_)
          refine v_astore C (pc := 23) (i := 5) (lv' := [some (va_rf (some y2)), some (.int a1), some (.int a2), some (.int a3), some (va_rf a4), some (va_rf (some q9))]) dL_charge_23 rfl rfl ?_
          refine v_iconst C (pc := 25) (v := 3) dL_charge_25 (by decide) ?_
          exact v_eret (pc := 26) E rfl (nar_int _) ⟨_, rfl, h⟩ (by decide) (by decide) dL_charge_26
        · rw [if_neg hE2] at h
          exact h.elim
  · refine v_i2l C (pc := 10) dL_charge_10 ?_
    obtain ⟨M4, e4, h⟩ := h
    refine v_last F (pc := 11) e4 dL_charge_11 ?_
    refine v_goto C (pc := 12) (tgt := 27) dL_charge_12 (by decide) ?_
    refine v_iconst C (pc := 27) (v := 0) dL_charge_27 (by decide) ?_
    exact v_eret (pc := 28) E rfl (nar_int _) ⟨_, rfl, h⟩ (by decide) (by decide) dL_charge_28
/-! L_drop -/
abbrev rmL_drop : Room := { frames := 8, cells := 2, slots := 12, locals := 137 }
def vsL_drop : List Cond := wsL_drop ++ hL3
def wL_drop (M : hM) (a0 : Option Nat) (a1 : Int32) (a2 : Int32) (Q : hM → Int32 → Prop) : Prop :=
  ∃ y2, hC M 4 a0 = some y2 ∧
  wX4_drop M y2 a1 a2 (fun M3 =>
    Q M3 0) (fun Ex M9 => if Ex = "java/lang/IndexOutOfBoundsException" then (
      Q M9 1) else if Ex = "java/lang/IllegalStateException" then (
        Q M9 2) else False)
set_option maxRecDepth 100000 in
set_option maxHeartbeats 4000000 in
theorem cL_drop_met (l : Launch) (hfl : l.stackTraces = false) (G : hG) (M : hM) {a0 : Option Nat} {a1 : Int32} {a2 : Int32} {Q : hM → Int32 → Prop} (h : wL_drop M a0 a1 a2 Q) : hEMet l yL_drop vsL_drop rmL_drop [va_rf a0, .int a1, .int a2] G M (hQi Q) (fun _ _ => False) 2 12 := by
  refine he_entryH (hh := [(0, 6, 9, 21), (0, 6, 12, 15)]) (own := RL) (cc := cL_drop) (maxL := 4) (ret := (some .int)) (lv := [some (va_rf a0), some (.int a1), some (.int a2), none]) hfl (by decide) rfl rfl (hcc (rf_cat _) (hcc rfl (hcc rfl hc0))) (Nat.le_of_ble_eq_true rfl) rfl (fun κ sz hG hl hR E ht => ?_)
  subst hG; subst hl
  unfold wL_drop at h
  have F := E.1
  have C := F.1
  refine v_aload_n C (pc := 0) (i := 0) dL_drop_0 rfl ?_
  refine v_iload_n C (pc := 1) (i := 1) dL_drop_1 rfl ?_
  refine v_iload_n C (pc := 2) (i := 2) dL_drop_2 rfl ?_
  obtain ⟨y2, hy2, hh⟩ := h
  skip
  obtain ⟨rfl, fsy2, hfy2⟩ := hC_inv hy2
  have h := hh
  clear hh
  refine v_xV F (pc := 3) (ci := 4) [.int a1, .int a2] 2 (cX4_drop_met (kl κ) F.2.2.2.1 (kG κ) _ h) hfy2 rfl (good_l gL_drop_X4_drop) rfl hdX4_drop rfl rfl rfl (by rw [hR]; exact ⟨Nat.le_of_ble_eq_true rfl, Nat.le_of_ble_eq_true rfl⟩) (by rw [hR]; decide) (Nat.le_of_ble_eq_true rfl) rfl dL_drop_3 (fun Ex M9 h => ?_) (hk_v fun M3 h => ?_)
  · by_cases hE0 : Ex = "java/lang/IndexOutOfBoundsException"
    · rw [if_pos hE0] at h
      subst hE0
      refine v_catch F (pc := 3) ht (name := "java/lang/IndexOutOfBoundsException") [] ⟨0, 6, 9, 21⟩ [⟨0, 6, 12, 15⟩] rfl (fun z hz => absurd hz List.not_mem_nil) (by decide) (by decide) (List.mem_append_right _ (List.mem_of_getElem? (i := 2) rfl)) (by decide) (fun q9 => ?_)
      refine v_astore_n C (pc := 9) (i := 3) (lv' := [some (va_rf (some y2)), some (.int a1), some (.int a2), some (va_rf (some q9))]) dL_drop_9 rfl rfl ?_
      refine v_iconst C (pc := 10) (v := 1) dL_drop_10 (by decide) ?_
      exact v_eret (pc := 11) E rfl (nar_int _) ⟨_, rfl, h⟩ (by decide) (by decide) dL_drop_11
    · rw [if_neg hE0] at h
      by_cases hE1 : Ex = "java/lang/IllegalStateException"
      · rw [if_pos hE1] at h
        subst hE1
        refine v_catch F (pc := 3) ht (name := "java/lang/IllegalStateException") [⟨0, 6, 9, 21⟩] ⟨0, 6, 12, 15⟩ [] rfl (List.forall_mem_cons.mpr ⟨Or.inr ⟨by decide, "java/lang/IndexOutOfBoundsException", List.mem_append_right _ (List.mem_of_getElem? (i := 2) rfl), by decide⟩, fun z hz => absurd hz List.not_mem_nil⟩) (by decide) (by decide) (List.mem_append_right _ (List.mem_of_getElem? (i := 1) rfl)) (by decide) (fun q9 => ?_)
        refine v_astore_n C (pc := 12) (i := 3) (lv' := [some (va_rf (some y2)), some (.int a1), some (.int a2), some (va_rf (some q9))]) dL_drop_12 rfl rfl ?_
        refine v_iconst C (pc := 13) (v := 2) dL_drop_13 (by decide) ?_
        exact v_eret (pc := 14) E rfl (nar_int _) ⟨_, rfl, h⟩ (by decide) (by decide) dL_drop_14
      · rw [if_neg hE1] at h
        exact h.elim
  · refine v_goto C (pc := 6) (tgt := 15) dL_drop_6 (by decide) ?_
    refine v_iconst C (pc := 15) (v := 0) dL_drop_15 (by decide) ?_
    exact v_eret (pc := 16) E rfl (nar_int _) ⟨_, rfl, h⟩ (by decide) (by decide) dL_drop_16
/-! L_review -/
abbrev rmL_review : Room := { frames := 8, cells := 2, slots := 12, locals := 166 }
def vsL_review : List Cond := wsL_review ++ hL3
def wL_review (M : hM) (a0 : Option Nat) (a1 : Int32) (a2 : Int32) (a3 : Option Nat) (Q : hM → Int32 → Prop) : Prop :=
  ∃ y2, hC M 4 a0 = some y2 ∧
  wX4_review M y2 a1 a2 (fun M3 x1 =>
    if (x1 : Int32) = 0 then (
      ∃ M5, sJ M3 2 a3 0 0 = some M5 ∧
      Q M5 0
    ) else (
      ∃ M6, sJ M3 2 a3 0 1 = some M6 ∧
      Q M6 0
    )) (fun Ex M9 => if Ex = "java/lang/IndexOutOfBoundsException" then (
      Q M9 1) else if Ex = "java/lang/IllegalStateException" then (
        Q M9 2) else False)
set_option maxRecDepth 100000 in
set_option maxHeartbeats 4000000 in
theorem cL_review_met (l : Launch) (hfl : l.stackTraces = false) (G : hG) (M : hM) {a0 : Option Nat} {a1 : Int32} {a2 : Int32} {a3 : Option Nat} {Q : hM → Int32 → Prop} (h : wL_review M a0 a1 a2 a3 Q) : hEMet l yL_review vsL_review rmL_review [va_rf a0, .int a1, .int a2, va_rf a3] G M (hQi Q) (fun _ _ => False) 2 12 := by
  refine he_entryH (hh := [(0, 17, 20, 21), (0, 17, 24, 15)]) (own := RL) (cc := cL_review) (maxL := 5) (ret := (some .int)) (lv := [some (va_rf a0), some (.int a1), some (.int a2), some (va_rf a3), none]) hfl (by decide) rfl rfl (hcc (rf_cat _) (hcc rfl (hcc rfl (hcc (rf_cat _) hc0)))) (Nat.le_of_ble_eq_true rfl) rfl (fun κ sz hG hl hR E ht => ?_)
  subst hG; subst hl
  unfold wL_review at h
  have F := E.1
  have C := F.1
  refine v_aload_n C (pc := 0) (i := 3) dL_review_0 rfl ?_
  refine v_iconst C (pc := 1) (v := 0) dL_review_1 (by decide) ?_
  refine v_aload_n C (pc := 2) (i := 0) dL_review_2 rfl ?_
  refine v_iload_n C (pc := 3) (i := 1) dL_review_3 rfl ?_
  refine v_iload_n C (pc := 4) (i := 2) dL_review_4 rfl ?_
  obtain ⟨y2, hy2, hh⟩ := h
  skip
  obtain ⟨rfl, fsy2, hfy2⟩ := hC_inv hy2
  have h := hh
  clear hh
  refine v_xV F (pc := 5) (ci := 4) [.int a1, .int a2] 2 (cX4_review_met (kl κ) F.2.2.2.1 (kG κ) _ h) hfy2 rfl (good_l gL_review_X4_review) rfl hdX4_review rfl rfl rfl (by rw [hR]; exact ⟨Nat.le_of_ble_eq_true rfl, Nat.le_of_ble_eq_true rfl⟩) (by rw [hR]; decide) (Nat.le_of_ble_eq_true rfl) rfl dL_review_5 (fun Ex M9 h => ?_) (hk_i fun M3 x1 h => ?_)
  · by_cases hE0 : Ex = "java/lang/IndexOutOfBoundsException"
    · rw [if_pos hE0] at h
      subst hE0
      refine v_catch F (pc := 5) ht (name := "java/lang/IndexOutOfBoundsException") [] ⟨0, 17, 20, 21⟩ [⟨0, 17, 24, 15⟩] rfl (fun z hz => absurd hz List.not_mem_nil) (by decide) (by decide) (List.mem_append_right _ (List.mem_of_getElem? (i := 2) rfl)) (by decide) (fun q9 => ?_)
      refine v_astore C (pc := 20) (i := 4) (lv' := [some (va_rf (some y2)), some (.int a1), some (.int a2), some (va_rf a3), some (va_rf (some q9))]) dL_review_20 rfl rfl ?_
      refine v_iconst C (pc := 22) (v := 1) dL_review_22 (by decide) ?_
      exact v_eret (pc := 23) E rfl (nar_int _) ⟨_, rfl, h⟩ (by decide) (by decide) dL_review_23
    · rw [if_neg hE0] at h
      by_cases hE1 : Ex = "java/lang/IllegalStateException"
      · rw [if_pos hE1] at h
        subst hE1
        refine v_catch F (pc := 5) ht (name := "java/lang/IllegalStateException") [⟨0, 17, 20, 21⟩] ⟨0, 17, 24, 15⟩ [] rfl (List.forall_mem_cons.mpr ⟨Or.inr ⟨by decide, "java/lang/IndexOutOfBoundsException", List.mem_append_right _ (List.mem_of_getElem? (i := 2) rfl), by decide⟩, fun z hz => absurd hz List.not_mem_nil⟩) (by decide) (by decide) (List.mem_append_right _ (List.mem_of_getElem? (i := 1) rfl)) (by decide) (fun q9 => ?_)
        refine v_astore C (pc := 24) (i := 4) (lv' := [some (va_rf (some y2)), some (.int a1), some (.int a2), some (va_rf a3), some (va_rf (some q9))]) dL_review_24 rfl rfl ?_
        refine v_iconst C (pc := 26) (v := 2) dL_review_26 (by decide) ?_
        exact v_eret (pc := 27) E rfl (nar_int _) ⟨_, rfl, h⟩ (by decide) (by decide) dL_review_27
      · rw [if_neg hE1] at h
        exact h.elim
  · refine v_if_eq C (pc := 8) (tgt := 15) dL_review_8 (by decide) (fun c4 => ?_) (fun c4 => ?_)
    · rw [if_pos c4] at h
      refine v_lconst C (pc := 15) (v := 0) dL_review_15 (by decide) ?_
      obtain ⟨M5, e5, h⟩ := h
      refine v_last F (pc := 16) e5 dL_review_16 ?_
      refine v_goto C (pc := 17) (tgt := 28) dL_review_17 (by decide) ?_
      refine v_iconst C (pc := 28) (v := 0) dL_review_28 (by decide) ?_
      exact v_eret (pc := 29) E rfl (nar_int _) ⟨_, rfl, h⟩ (by decide) (by decide) dL_review_29
    · rw [if_neg c4] at h
      refine v_lconst C (pc := 11) (v := 1) dL_review_11 (by decide) ?_
      refine v_goto C (pc := 12) (tgt := 16) dL_review_12 (by decide) ?_
      obtain ⟨M6, e6, h⟩ := h
      refine v_last F (pc := 16) e6 dL_review_16 ?_
      refine v_goto C (pc := 17) (tgt := 28) dL_review_17 (by decide) ?_
      refine v_iconst C (pc := 28) (v := 0) dL_review_28 (by decide) ?_
      exact v_eret (pc := 29) E rfl (nar_int _) ⟨_, rfl, h⟩ (by decide) (by decide) dL_review_29
/-! L_trial -/
abbrev rmL_trial : Room := { frames := 8, cells := 2, slots := 12, locals := 143 }
def vsL_trial : List Cond := wsL_trial ++ hL3
def wL_trial (M : hM) (a0 : Option Nat) (a1 : Int32) (a2 : Int32) (a3 : Option Nat) (Q : hM → Int32 → Prop) : Prop :=
  ∃ y2, hC M 4 a0 = some y2 ∧
  wX4_trial M y2 a1 a2 (fun M3 x1 =>
    ∃ M4, sJ M3 2 a3 0 (Int32.toInt64 x1) = some M4 ∧
    Q M4 0) (fun Ex M9 => if Ex = "java/lang/IndexOutOfBoundsException" then (
      Q M9 1) else if Ex = "java/lang/IllegalStateException" then (
        Q M9 2) else False)
set_option maxRecDepth 100000 in
set_option maxHeartbeats 4000000 in
theorem cL_trial_met (l : Launch) (hfl : l.stackTraces = false) (G : hG) (M : hM) {a0 : Option Nat} {a1 : Int32} {a2 : Int32} {a3 : Option Nat} {Q : hM → Int32 → Prop} (h : wL_trial M a0 a1 a2 a3 Q) : hEMet l yL_trial vsL_trial rmL_trial [va_rf a0, .int a1, .int a2, va_rf a3] G M (hQi Q) (fun _ _ => False) 2 12 := by
  refine he_entryH (hh := [(0, 10, 13, 21), (0, 10, 17, 15)]) (own := RL) (cc := cL_trial) (maxL := 5) (ret := (some .int)) (lv := [some (va_rf a0), some (.int a1), some (.int a2), some (va_rf a3), none]) hfl (by decide) rfl rfl (hcc (rf_cat _) (hcc rfl (hcc rfl (hcc (rf_cat _) hc0)))) (Nat.le_of_ble_eq_true rfl) rfl (fun κ sz hG hl hR E ht => ?_)
  subst hG; subst hl
  unfold wL_trial at h
  have F := E.1
  have C := F.1
  refine v_aload_n C (pc := 0) (i := 3) dL_trial_0 rfl ?_
  refine v_iconst C (pc := 1) (v := 0) dL_trial_1 (by decide) ?_
  refine v_aload_n C (pc := 2) (i := 0) dL_trial_2 rfl ?_
  refine v_iload_n C (pc := 3) (i := 1) dL_trial_3 rfl ?_
  refine v_iload_n C (pc := 4) (i := 2) dL_trial_4 rfl ?_
  obtain ⟨y2, hy2, hh⟩ := h
  skip
  obtain ⟨rfl, fsy2, hfy2⟩ := hC_inv hy2
  have h := hh
  clear hh
  refine v_xV F (pc := 5) (ci := 4) [.int a1, .int a2] 2 (cX4_trial_met (kl κ) F.2.2.2.1 (kG κ) _ h) hfy2 rfl (good_l gL_trial_X4_trial) rfl hdX4_trial rfl rfl rfl (by rw [hR]; exact ⟨Nat.le_of_ble_eq_true rfl, Nat.le_of_ble_eq_true rfl⟩) (by rw [hR]; decide) (Nat.le_of_ble_eq_true rfl) rfl dL_trial_5 (fun Ex M9 h => ?_) (hk_i fun M3 x1 h => ?_)
  · by_cases hE0 : Ex = "java/lang/IndexOutOfBoundsException"
    · rw [if_pos hE0] at h
      subst hE0
      refine v_catch F (pc := 5) ht (name := "java/lang/IndexOutOfBoundsException") [] ⟨0, 10, 13, 21⟩ [⟨0, 10, 17, 15⟩] rfl (fun z hz => absurd hz List.not_mem_nil) (by decide) (by decide) (List.mem_append_right _ (List.mem_of_getElem? (i := 2) rfl)) (by decide) (fun q9 => ?_)
      refine v_astore C (pc := 13) (i := 4) (lv' := [some (va_rf (some y2)), some (.int a1), some (.int a2), some (va_rf a3), some (va_rf (some q9))]) dL_trial_13 rfl rfl ?_
      refine v_iconst C (pc := 15) (v := 1) dL_trial_15 (by decide) ?_
      exact v_eret (pc := 16) E rfl (nar_int _) ⟨_, rfl, h⟩ (by decide) (by decide) dL_trial_16
    · rw [if_neg hE0] at h
      by_cases hE1 : Ex = "java/lang/IllegalStateException"
      · rw [if_pos hE1] at h
        subst hE1
        refine v_catch F (pc := 5) ht (name := "java/lang/IllegalStateException") [⟨0, 10, 13, 21⟩] ⟨0, 10, 17, 15⟩ [] rfl (List.forall_mem_cons.mpr ⟨Or.inr ⟨by decide, "java/lang/IndexOutOfBoundsException", List.mem_append_right _ (List.mem_of_getElem? (i := 2) rfl), by decide⟩, fun z hz => absurd hz List.not_mem_nil⟩) (by decide) (by decide) (List.mem_append_right _ (List.mem_of_getElem? (i := 1) rfl)) (by decide) (fun q9 => ?_)
        refine v_astore C (pc := 17) (i := 4) (lv' := [some (va_rf (some y2)), some (.int a1), some (.int a2), some (va_rf a3), some (va_rf (some q9))]) dL_trial_17 rfl rfl ?_
        refine v_iconst C (pc := 19) (v := 2) dL_trial_19 (by decide) ?_
        exact v_eret (pc := 20) E rfl (nar_int _) ⟨_, rfl, h⟩ (by decide) (by decide) dL_trial_20
      · rw [if_neg hE1] at h
        exact h.elim
  · refine v_i2l C (pc := 8) dL_trial_8 ?_
    obtain ⟨M4, e4, h⟩ := h
    refine v_last F (pc := 9) e4 dL_trial_9 ?_
    refine v_goto C (pc := 10) (tgt := 21) dL_trial_10 (by decide) ?_
    refine v_iconst C (pc := 21) (v := 0) dL_trial_21 (by decide) ?_
    exact v_eret (pc := 22) E rfl (nar_int _) ⟨_, rfl, h⟩ (by decide) (by decide) dL_trial_22
/-! L_plea -/
abbrev rmL_plea : Room := { frames := 8, cells := 3, slots := 18, locals := 140 }
def vsL_plea : List Cond := wsL_plea ++ hL3
def wL_plea (M : hM) (a0 : Option Nat) (a1 : Int32) (a2 : Int32) (a3 : Int32) (a4 : Option Nat) (Q : hM → Int32 → Prop) : Prop :=
  ∃ y2, hC M 4 a0 = some y2 ∧
  wX4_plea M y2 a1 a2 a3 (fun M3 x1 =>
    ∃ M4, sJ M3 2 a4 0 (Int32.toInt64 x1) = some M4 ∧
    Q M4 0) (fun Ex M9 => if Ex = "java/lang/IndexOutOfBoundsException" then (
      Q M9 1) else if Ex = "java/lang/IllegalArgumentException" then (
        Q M9 2) else if Ex = "java/lang/IllegalStateException" then (
          Q M9 3) else False)
set_option maxRecDepth 100000 in
set_option maxHeartbeats 4000000 in
theorem cL_plea_met (l : Launch) (hfl : l.stackTraces = false) (G : hG) (M : hM) {a0 : Option Nat} {a1 : Int32} {a2 : Int32} {a3 : Int32} {a4 : Option Nat} {Q : hM → Int32 → Prop} (h : wL_plea M a0 a1 a2 a3 a4 Q) : hEMet l yL_plea vsL_plea rmL_plea [va_rf a0, .int a1, .int a2, .int a3, va_rf a4] G M (hQi Q) (fun _ _ => False) 3 18 := by
  refine he_entryH (hh := [(0, 12, 15, 21), (0, 12, 19, 13), (0, 12, 23, 15)]) (own := RL) (cc := cL_plea) (maxL := 6) (ret := (some .int)) (lv := [some (va_rf a0), some (.int a1), some (.int a2), some (.int a3), some (va_rf a4), none]) hfl (by decide) rfl rfl (hcc (rf_cat _) (hcc rfl (hcc rfl (hcc rfl (hcc (rf_cat _) hc0))))) (Nat.le_of_ble_eq_true rfl) rfl (fun κ sz hG hl hR E ht => ?_)
  subst hG; subst hl
  unfold wL_plea at h
  have F := E.1
  have C := F.1
  refine v_aload C (pc := 0) (i := 4) dL_plea_0 rfl ?_
  refine v_iconst C (pc := 2) (v := 0) dL_plea_2 (by decide) ?_
  refine v_aload_n C (pc := 3) (i := 0) dL_plea_3 rfl ?_
  refine v_iload_n C (pc := 4) (i := 1) dL_plea_4 rfl ?_
  refine v_iload_n C (pc := 5) (i := 2) dL_plea_5 rfl ?_
  refine v_iload_n C (pc := 6) (i := 3) dL_plea_6 rfl ?_
  obtain ⟨y2, hy2, hh⟩ := h
  skip
  obtain ⟨rfl, fsy2, hfy2⟩ := hC_inv hy2
  have h := hh
  clear hh
  refine v_xV F (pc := 7) (ci := 4) [.int a1, .int a2, .int a3] 3 (cX4_plea_met (kl κ) F.2.2.2.1 (kG κ) _ h) hfy2 rfl (good_l gL_plea_X4_plea) rfl hdX4_plea rfl rfl rfl (by rw [hR]; exact ⟨Nat.le_of_ble_eq_true rfl, Nat.le_of_ble_eq_true rfl⟩) (by rw [hR]; decide) (Nat.le_of_ble_eq_true rfl) rfl dL_plea_7 (fun Ex M9 h => ?_) (hk_i fun M3 x1 h => ?_)
  · by_cases hE0 : Ex = "java/lang/IndexOutOfBoundsException"
    · rw [if_pos hE0] at h
      subst hE0
      refine v_catch F (pc := 7) ht (name := "java/lang/IndexOutOfBoundsException") [] ⟨0, 12, 15, 21⟩ [⟨0, 12, 19, 13⟩, ⟨0, 12, 23, 15⟩] rfl (fun z hz => absurd hz List.not_mem_nil) (by decide) (by decide) (List.mem_append_right _ (List.mem_of_getElem? (i := 2) rfl)) (by decide) (fun q9 => ?_)
      refine v_astore C (pc := 15) (i := 5) (lv' := [some (va_rf (some y2)), some (.int a1), some (.int a2), some (.int a3), some (va_rf a4), some (va_rf (some q9))]) dL_plea_15 rfl rfl ?_
      refine v_iconst C (pc := 17) (v := 1) dL_plea_17 (by decide) ?_
      exact v_eret (pc := 18) E rfl (nar_int _) ⟨_, rfl, h⟩ (by decide) (by decide) dL_plea_18
    · rw [if_neg hE0] at h
      by_cases hE1 : Ex = "java/lang/IllegalArgumentException"
      · rw [if_pos hE1] at h
        subst hE1
        refine v_catch F (pc := 7) ht (name := "java/lang/IllegalArgumentException") [⟨0, 12, 15, 21⟩] ⟨0, 12, 19, 13⟩ [⟨0, 12, 23, 15⟩] rfl (List.forall_mem_cons.mpr ⟨Or.inr ⟨by decide, "java/lang/IndexOutOfBoundsException", List.mem_append_right _ (List.mem_of_getElem? (i := 2) rfl), by decide⟩, fun z hz => absurd hz List.not_mem_nil⟩) (by decide) (by decide) (List.mem_append_right _ (List.mem_of_getElem? (i := 0) rfl)) (by decide) (fun q9 => ?_)
        refine v_astore C (pc := 19) (i := 5) (lv' := [some (va_rf (some y2)), some (.int a1), some (.int a2), some (.int a3), some (va_rf a4), some (va_rf (some q9))]) dL_plea_19 rfl rfl ?_
        refine v_iconst C (pc := 21) (v := 2) dL_plea_21 (by decide) ?_
        exact v_eret (pc := 22) E rfl (nar_int _) ⟨_, rfl, h⟩ (by decide) (by decide) dL_plea_22
      · rw [if_neg hE1] at h
        by_cases hE2 : Ex = "java/lang/IllegalStateException"
        · rw [if_pos hE2] at h
          subst hE2
          refine v_catch F (pc := 7) ht (name := "java/lang/IllegalStateException") [⟨0, 12, 15, 21⟩, ⟨0, 12, 19, 13⟩] ⟨0, 12, 23, 15⟩ [] rfl (List.forall_mem_cons.mpr ⟨Or.inr ⟨by decide, "java/lang/IndexOutOfBoundsException", List.mem_append_right _ (List.mem_of_getElem? (i := 2) rfl), by decide⟩, List.forall_mem_cons.mpr ⟨Or.inr ⟨by decide, "java/lang/IllegalArgumentException", List.mem_append_right _ (List.mem_of_getElem? (i := 0) rfl), by decide⟩, fun z hz => absurd hz List.not_mem_nil⟩⟩) (by decide) (by decide) (List.mem_append_right _ (List.mem_of_getElem? (i := 1) rfl)) (by decide) (fun q9 => ?_)
          refine v_astore C (pc := 23) (i := 5) (lv' := [some (va_rf (some y2)), some (.int a1), some (.int a2), some (.int a3), some (va_rf a4), some (va_rf (some q9))]) dL_plea_23 rfl rfl ?_
          refine v_iconst C (pc := 25) (v := 3) dL_plea_25 (by decide) ?_
          exact v_eret (pc := 26) E rfl (nar_int _) ⟨_, rfl, h⟩ (by decide) (by decide) dL_plea_26
        · rw [if_neg hE2] at h
          exact h.elim
  · refine v_i2l C (pc := 10) dL_plea_10 ?_
    obtain ⟨M4, e4, h⟩ := h
    refine v_last F (pc := 11) e4 dL_plea_11 ?_
    refine v_goto C (pc := 12) (tgt := 27) dL_plea_12 (by decide) ?_
    refine v_iconst C (pc := 27) (v := 0) dL_plea_27 (by decide) ?_
    exact v_eret (pc := 28) E rfl (nar_int _) ⟨_, rfl, h⟩ (by decide) (by decide) dL_plea_28
/-! L_arrest -/
abbrev rmL_arrest : Room := { frames := 8, cells := 2, slots := 12, locals := 138 }
def vsL_arrest : List Cond := wsL_arrest ++ hL3
def wL_arrest (M : hM) (a0 : Option Nat) (a1 : Int32) (a2 : Int32) (a3 : Option Nat) (Q : hM → Int32 → Prop) : Prop :=
  ∃ y2, hC M 4 a0 = some y2 ∧
  wX4_arrest M y2 a1 a2 (fun M3 x1 =>
    ∃ M4, sJ M3 2 a3 0 (Int32.toInt64 x1) = some M4 ∧
    Q M4 0) (fun Ex M9 => if Ex = "java/lang/IndexOutOfBoundsException" then (
      Q M9 1) else if Ex = "java/lang/IllegalStateException" then (
        Q M9 2) else False)
set_option maxRecDepth 100000 in
set_option maxHeartbeats 4000000 in
theorem cL_arrest_met (l : Launch) (hfl : l.stackTraces = false) (G : hG) (M : hM) {a0 : Option Nat} {a1 : Int32} {a2 : Int32} {a3 : Option Nat} {Q : hM → Int32 → Prop} (h : wL_arrest M a0 a1 a2 a3 Q) : hEMet l yL_arrest vsL_arrest rmL_arrest [va_rf a0, .int a1, .int a2, va_rf a3] G M (hQi Q) (fun _ _ => False) 2 12 := by
  refine he_entryH (hh := [(0, 10, 13, 21), (0, 10, 17, 15)]) (own := RL) (cc := cL_arrest) (maxL := 5) (ret := (some .int)) (lv := [some (va_rf a0), some (.int a1), some (.int a2), some (va_rf a3), none]) hfl (by decide) rfl rfl (hcc (rf_cat _) (hcc rfl (hcc rfl (hcc (rf_cat _) hc0)))) (Nat.le_of_ble_eq_true rfl) rfl (fun κ sz hG hl hR E ht => ?_)
  subst hG; subst hl
  unfold wL_arrest at h
  have F := E.1
  have C := F.1
  refine v_aload_n C (pc := 0) (i := 3) dL_arrest_0 rfl ?_
  refine v_iconst C (pc := 1) (v := 0) dL_arrest_1 (by decide) ?_
  refine v_aload_n C (pc := 2) (i := 0) dL_arrest_2 rfl ?_
  refine v_iload_n C (pc := 3) (i := 1) dL_arrest_3 rfl ?_
  refine v_iload_n C (pc := 4) (i := 2) dL_arrest_4 rfl ?_
  obtain ⟨y2, hy2, hh⟩ := h
  skip
  obtain ⟨rfl, fsy2, hfy2⟩ := hC_inv hy2
  have h := hh
  clear hh
  refine v_xV F (pc := 5) (ci := 4) [.int a1, .int a2] 2 (cX4_arrest_met (kl κ) F.2.2.2.1 (kG κ) _ h) hfy2 rfl (good_l gL_arrest_X4_arrest) rfl hdX4_arrest rfl rfl rfl (by rw [hR]; exact ⟨Nat.le_of_ble_eq_true rfl, Nat.le_of_ble_eq_true rfl⟩) (by rw [hR]; decide) (Nat.le_of_ble_eq_true rfl) rfl dL_arrest_5 (fun Ex M9 h => ?_) (hk_i fun M3 x1 h => ?_)
  · by_cases hE0 : Ex = "java/lang/IndexOutOfBoundsException"
    · rw [if_pos hE0] at h
      subst hE0
      refine v_catch F (pc := 5) ht (name := "java/lang/IndexOutOfBoundsException") [] ⟨0, 10, 13, 21⟩ [⟨0, 10, 17, 15⟩] rfl (fun z hz => absurd hz List.not_mem_nil) (by decide) (by decide) (List.mem_append_right _ (List.mem_of_getElem? (i := 2) rfl)) (by decide) (fun q9 => ?_)
      refine v_astore C (pc := 13) (i := 4) (lv' := [some (va_rf (some y2)), some (.int a1), some (.int a2), some (va_rf a3), some (va_rf (some q9))]) dL_arrest_13 rfl rfl ?_
      refine v_iconst C (pc := 15) (v := 1) dL_arrest_15 (by decide) ?_
      exact v_eret (pc := 16) E rfl (nar_int _) ⟨_, rfl, h⟩ (by decide) (by decide) dL_arrest_16
    · rw [if_neg hE0] at h
      by_cases hE1 : Ex = "java/lang/IllegalStateException"
      · rw [if_pos hE1] at h
        subst hE1
        refine v_catch F (pc := 5) ht (name := "java/lang/IllegalStateException") [⟨0, 10, 13, 21⟩] ⟨0, 10, 17, 15⟩ [] rfl (List.forall_mem_cons.mpr ⟨Or.inr ⟨by decide, "java/lang/IndexOutOfBoundsException", List.mem_append_right _ (List.mem_of_getElem? (i := 2) rfl), by decide⟩, fun z hz => absurd hz List.not_mem_nil⟩) (by decide) (by decide) (List.mem_append_right _ (List.mem_of_getElem? (i := 1) rfl)) (by decide) (fun q9 => ?_)
        refine v_astore C (pc := 17) (i := 4) (lv' := [some (va_rf (some y2)), some (.int a1), some (.int a2), some (va_rf a3), some (va_rf (some q9))]) dL_arrest_17 rfl rfl ?_
        refine v_iconst C (pc := 19) (v := 2) dL_arrest_19 (by decide) ?_
        exact v_eret (pc := 20) E rfl (nar_int _) ⟨_, rfl, h⟩ (by decide) (by decide) dL_arrest_20
      · rw [if_neg hE1] at h
        exact h.elim
  · refine v_i2l C (pc := 8) dL_arrest_8 ?_
    obtain ⟨M4, e4, h⟩ := h
    refine v_last F (pc := 9) e4 dL_arrest_9 ?_
    refine v_goto C (pc := 10) (tgt := 21) dL_arrest_10 (by decide) ?_
    refine v_iconst C (pc := 21) (v := 0) dL_arrest_21 (by decide) ?_
    exact v_eret (pc := 22) E rfl (nar_int _) ⟨_, rfl, h⟩ (by decide) (by decide) dL_arrest_22
/-! L_extend -/
abbrev rmL_extend : Room := { frames := 8, cells := 2, slots := 12, locals := 138 }
def vsL_extend : List Cond := wsL_extend ++ hL3
def wL_extend (M : hM) (a0 : Option Nat) (a1 : Int32) (a2 : Int32) (a3 : Int32) (a4 : Option Nat) (Q : hM → Int32 → Prop) : Prop :=
  ∃ y2, hC M 4 a0 = some y2 ∧
  wX4_extend M y2 a1 a2 a3 (fun M3 x1 =>
    ∃ M4, sJ M3 2 a4 0 (Int32.toInt64 x1) = some M4 ∧
    Q M4 0) (fun Ex M9 => if Ex = "java/lang/IndexOutOfBoundsException" then (
      Q M9 1) else if Ex = "java/lang/IllegalArgumentException" then (
        Q M9 2) else if Ex = "java/lang/IllegalStateException" then (
          Q M9 3) else False)
set_option maxRecDepth 100000 in
set_option maxHeartbeats 4000000 in
theorem cL_extend_met (l : Launch) (hfl : l.stackTraces = false) (G : hG) (M : hM) {a0 : Option Nat} {a1 : Int32} {a2 : Int32} {a3 : Int32} {a4 : Option Nat} {Q : hM → Int32 → Prop} (h : wL_extend M a0 a1 a2 a3 a4 Q) : hEMet l yL_extend vsL_extend rmL_extend [va_rf a0, .int a1, .int a2, .int a3, va_rf a4] G M (hQi Q) (fun _ _ => False) 2 12 := by
  refine he_entryH (hh := [(0, 12, 15, 21), (0, 12, 19, 13), (0, 12, 23, 15)]) (own := RL) (cc := cL_extend) (maxL := 6) (ret := (some .int)) (lv := [some (va_rf a0), some (.int a1), some (.int a2), some (.int a3), some (va_rf a4), none]) hfl (by decide) rfl rfl (hcc (rf_cat _) (hcc rfl (hcc rfl (hcc rfl (hcc (rf_cat _) hc0))))) (Nat.le_of_ble_eq_true rfl) rfl (fun κ sz hG hl hR E ht => ?_)
  subst hG; subst hl
  unfold wL_extend at h
  have F := E.1
  have C := F.1
  refine v_aload C (pc := 0) (i := 4) dL_extend_0 rfl ?_
  refine v_iconst C (pc := 2) (v := 0) dL_extend_2 (by decide) ?_
  refine v_aload_n C (pc := 3) (i := 0) dL_extend_3 rfl ?_
  refine v_iload_n C (pc := 4) (i := 1) dL_extend_4 rfl ?_
  refine v_iload_n C (pc := 5) (i := 2) dL_extend_5 rfl ?_
  refine v_iload_n C (pc := 6) (i := 3) dL_extend_6 rfl ?_
  obtain ⟨y2, hy2, hh⟩ := h
  skip
  obtain ⟨rfl, fsy2, hfy2⟩ := hC_inv hy2
  have h := hh
  clear hh
  refine v_xV F (pc := 7) (ci := 4) [.int a1, .int a2, .int a3] 3 (cX4_extend_met (kl κ) F.2.2.2.1 (kG κ) _ h) hfy2 rfl (good_l gL_extend_X4_extend) rfl hdX4_extend rfl rfl rfl (by rw [hR]; exact ⟨Nat.le_of_ble_eq_true rfl, Nat.le_of_ble_eq_true rfl⟩) (by rw [hR]; decide) (Nat.le_of_ble_eq_true rfl) rfl dL_extend_7 (fun Ex M9 h => ?_) (hk_i fun M3 x1 h => ?_)
  · by_cases hE0 : Ex = "java/lang/IndexOutOfBoundsException"
    · rw [if_pos hE0] at h
      subst hE0
      refine v_catch F (pc := 7) ht (name := "java/lang/IndexOutOfBoundsException") [] ⟨0, 12, 15, 21⟩ [⟨0, 12, 19, 13⟩, ⟨0, 12, 23, 15⟩] rfl (fun z hz => absurd hz List.not_mem_nil) (by decide) (by decide) (List.mem_append_right _ (List.mem_of_getElem? (i := 2) rfl)) (by decide) (fun q9 => ?_)
      refine v_astore C (pc := 15) (i := 5) (lv' := [some (va_rf (some y2)), some (.int a1), some (.int a2), some (.int a3), some (va_rf a4), some (va_rf (some q9))]) dL_extend_15 rfl rfl ?_
      refine v_iconst C (pc := 17) (v := 1) dL_extend_17 (by decide) ?_
      exact v_eret (pc := 18) E rfl (nar_int _) ⟨_, rfl, h⟩ (by decide) (by decide) dL_extend_18
    · rw [if_neg hE0] at h
      by_cases hE1 : Ex = "java/lang/IllegalArgumentException"
      · rw [if_pos hE1] at h
        subst hE1
        refine v_catch F (pc := 7) ht (name := "java/lang/IllegalArgumentException") [⟨0, 12, 15, 21⟩] ⟨0, 12, 19, 13⟩ [⟨0, 12, 23, 15⟩] rfl (List.forall_mem_cons.mpr ⟨Or.inr ⟨by decide, "java/lang/IndexOutOfBoundsException", List.mem_append_right _ (List.mem_of_getElem? (i := 2) rfl), by decide⟩, fun z hz => absurd hz List.not_mem_nil⟩) (by decide) (by decide) (List.mem_append_right _ (List.mem_of_getElem? (i := 0) rfl)) (by decide) (fun q9 => ?_)
        refine v_astore C (pc := 19) (i := 5) (lv' := [some (va_rf (some y2)), some (.int a1), some (.int a2), some (.int a3), some (va_rf a4), some (va_rf (some q9))]) dL_extend_19 rfl rfl ?_
        refine v_iconst C (pc := 21) (v := 2) dL_extend_21 (by decide) ?_
        exact v_eret (pc := 22) E rfl (nar_int _) ⟨_, rfl, h⟩ (by decide) (by decide) dL_extend_22
      · rw [if_neg hE1] at h
        by_cases hE2 : Ex = "java/lang/IllegalStateException"
        · rw [if_pos hE2] at h
          subst hE2
          refine v_catch F (pc := 7) ht (name := "java/lang/IllegalStateException") [⟨0, 12, 15, 21⟩, ⟨0, 12, 19, 13⟩] ⟨0, 12, 23, 15⟩ [] rfl (List.forall_mem_cons.mpr ⟨Or.inr ⟨by decide, "java/lang/IndexOutOfBoundsException", List.mem_append_right _ (List.mem_of_getElem? (i := 2) rfl), by decide⟩, List.forall_mem_cons.mpr ⟨Or.inr ⟨by decide, "java/lang/IllegalArgumentException", List.mem_append_right _ (List.mem_of_getElem? (i := 0) rfl), by decide⟩, fun z hz => absurd hz List.not_mem_nil⟩⟩) (by decide) (by decide) (List.mem_append_right _ (List.mem_of_getElem? (i := 1) rfl)) (by decide) (fun q9 => ?_)
          refine v_astore C (pc := 23) (i := 5) (lv' := [some (va_rf (some y2)), some (.int a1), some (.int a2), some (.int a3), some (va_rf a4), some (va_rf (some q9))]) dL_extend_23 rfl rfl ?_
          refine v_iconst C (pc := 25) (v := 3) dL_extend_25 (by decide) ?_
          exact v_eret (pc := 26) E rfl (nar_int _) ⟨_, rfl, h⟩ (by decide) (by decide) dL_extend_26
        · rw [if_neg hE2] at h
          exact h.elim
  · refine v_i2l C (pc := 10) dL_extend_10 ?_
    obtain ⟨M4, e4, h⟩ := h
    refine v_last F (pc := 11) e4 dL_extend_11 ?_
    refine v_goto C (pc := 12) (tgt := 27) dL_extend_12 (by decide) ?_
    refine v_iconst C (pc := 27) (v := 0) dL_extend_27 (by decide) ?_
    exact v_eret (pc := 28) E rfl (nar_int _) ⟨_, rfl, h⟩ (by decide) (by decide) dL_extend_28
/-! L_release -/
abbrev rmL_release : Room := { frames := 8, cells := 2, slots := 12, locals := 137 }
def vsL_release : List Cond := wsL_release ++ hL3
def wL_release (M : hM) (a0 : Option Nat) (a1 : Int32) (a2 : Int32) (Q : hM → Int32 → Prop) : Prop :=
  ∃ y2, hC M 4 a0 = some y2 ∧
  wX4_release M y2 a1 a2 (fun M3 =>
    Q M3 0) (fun Ex M9 => if Ex = "java/lang/IndexOutOfBoundsException" then (
      Q M9 1) else if Ex = "java/lang/IllegalStateException" then (
        Q M9 2) else False)
set_option maxRecDepth 100000 in
set_option maxHeartbeats 4000000 in
theorem cL_release_met (l : Launch) (hfl : l.stackTraces = false) (G : hG) (M : hM) {a0 : Option Nat} {a1 : Int32} {a2 : Int32} {Q : hM → Int32 → Prop} (h : wL_release M a0 a1 a2 Q) : hEMet l yL_release vsL_release rmL_release [va_rf a0, .int a1, .int a2] G M (hQi Q) (fun _ _ => False) 2 12 := by
  refine he_entryH (hh := [(0, 6, 9, 21), (0, 6, 12, 15)]) (own := RL) (cc := cL_release) (maxL := 4) (ret := (some .int)) (lv := [some (va_rf a0), some (.int a1), some (.int a2), none]) hfl (by decide) rfl rfl (hcc (rf_cat _) (hcc rfl (hcc rfl hc0))) (Nat.le_of_ble_eq_true rfl) rfl (fun κ sz hG hl hR E ht => ?_)
  subst hG; subst hl
  unfold wL_release at h
  have F := E.1
  have C := F.1
  refine v_aload_n C (pc := 0) (i := 0) dL_release_0 rfl ?_
  refine v_iload_n C (pc := 1) (i := 1) dL_release_1 rfl ?_
  refine v_iload_n C (pc := 2) (i := 2) dL_release_2 rfl ?_
  obtain ⟨y2, hy2, hh⟩ := h
  skip
  obtain ⟨rfl, fsy2, hfy2⟩ := hC_inv hy2
  have h := hh
  clear hh
  refine v_xV F (pc := 3) (ci := 4) [.int a1, .int a2] 2 (cX4_release_met (kl κ) F.2.2.2.1 (kG κ) _ h) hfy2 rfl (good_l gL_release_X4_release) rfl hdX4_release rfl rfl rfl (by rw [hR]; exact ⟨Nat.le_of_ble_eq_true rfl, Nat.le_of_ble_eq_true rfl⟩) (by rw [hR]; decide) (Nat.le_of_ble_eq_true rfl) rfl dL_release_3 (fun Ex M9 h => ?_) (hk_v fun M3 h => ?_)
  · by_cases hE0 : Ex = "java/lang/IndexOutOfBoundsException"
    · rw [if_pos hE0] at h
      subst hE0
      refine v_catch F (pc := 3) ht (name := "java/lang/IndexOutOfBoundsException") [] ⟨0, 6, 9, 21⟩ [⟨0, 6, 12, 15⟩] rfl (fun z hz => absurd hz List.not_mem_nil) (by decide) (by decide) (List.mem_append_right _ (List.mem_of_getElem? (i := 2) rfl)) (by decide) (fun q9 => ?_)
      refine v_astore_n C (pc := 9) (i := 3) (lv' := [some (va_rf (some y2)), some (.int a1), some (.int a2), some (va_rf (some q9))]) dL_release_9 rfl rfl ?_
      refine v_iconst C (pc := 10) (v := 1) dL_release_10 (by decide) ?_
      exact v_eret (pc := 11) E rfl (nar_int _) ⟨_, rfl, h⟩ (by decide) (by decide) dL_release_11
    · rw [if_neg hE0] at h
      by_cases hE1 : Ex = "java/lang/IllegalStateException"
      · rw [if_pos hE1] at h
        subst hE1
        refine v_catch F (pc := 3) ht (name := "java/lang/IllegalStateException") [⟨0, 6, 9, 21⟩] ⟨0, 6, 12, 15⟩ [] rfl (List.forall_mem_cons.mpr ⟨Or.inr ⟨by decide, "java/lang/IndexOutOfBoundsException", List.mem_append_right _ (List.mem_of_getElem? (i := 2) rfl), by decide⟩, fun z hz => absurd hz List.not_mem_nil⟩) (by decide) (by decide) (List.mem_append_right _ (List.mem_of_getElem? (i := 1) rfl)) (by decide) (fun q9 => ?_)
        refine v_astore_n C (pc := 12) (i := 3) (lv' := [some (va_rf (some y2)), some (.int a1), some (.int a2), some (va_rf (some q9))]) dL_release_12 rfl rfl ?_
        refine v_iconst C (pc := 13) (v := 2) dL_release_13 (by decide) ?_
        exact v_eret (pc := 14) E rfl (nar_int _) ⟨_, rfl, h⟩ (by decide) (by decide) dL_release_14
      · rw [if_neg hE1] at h
        exact h.elim
  · refine v_goto C (pc := 6) (tgt := 15) dL_release_6 (by decide) ?_
    refine v_iconst C (pc := 15) (v := 0) dL_release_15 (by decide) ?_
    exact v_eret (pc := 16) E rfl (nar_int _) ⟨_, rfl, h⟩ (by decide) (by decide) dL_release_16
/-! L_nests -/
abbrev rmL_nests : Room := { frames := 7, cells := 1, slots := 6, locals := 114 }
def vsL_nests : List Cond := wsL_nests ++ hL3
def wL_nests (M : hM) (a0 : Option Nat) (a1 : Int32) (a2 : Int32) (a3 : Option Nat) (Q : hM → Int32 → Prop) : Prop :=
  ∃ y2, hC M 4 a0 = some y2 ∧
  wX4_nests M y2 a1 a2 (fun M3 x1 =>
    if (x1 : Int32) = 0 then (
      ∃ M5, sJ M3 2 a3 0 0 = some M5 ∧
      Q M5 0
    ) else (
      ∃ M6, sJ M3 2 a3 0 1 = some M6 ∧
      Q M6 0
    )) (fun Ex M9 => if Ex = "java/lang/IndexOutOfBoundsException" then (
      Q M9 1) else False)
set_option maxRecDepth 100000 in
set_option maxHeartbeats 4000000 in
theorem cL_nests_met (l : Launch) (hfl : l.stackTraces = false) (G : hG) (M : hM) {a0 : Option Nat} {a1 : Int32} {a2 : Int32} {a3 : Option Nat} {Q : hM → Int32 → Prop} (h : wL_nests M a0 a1 a2 a3 Q) : hEMet l yL_nests vsL_nests rmL_nests [va_rf a0, .int a1, .int a2, va_rf a3] G M (hQi Q) (fun _ _ => False) 1 6 := by
  refine he_entryH (hh := [(0, 17, 20, 21)]) (own := RL) (cc := cL_nests) (maxL := 5) (ret := (some .int)) (lv := [some (va_rf a0), some (.int a1), some (.int a2), some (va_rf a3), none]) hfl (by decide) rfl rfl (hcc (rf_cat _) (hcc rfl (hcc rfl (hcc (rf_cat _) hc0)))) (Nat.le_of_ble_eq_true rfl) rfl (fun κ sz hG hl hR E ht => ?_)
  subst hG; subst hl
  unfold wL_nests at h
  have F := E.1
  have C := F.1
  refine v_aload_n C (pc := 0) (i := 3) dL_nests_0 rfl ?_
  refine v_iconst C (pc := 1) (v := 0) dL_nests_1 (by decide) ?_
  refine v_aload_n C (pc := 2) (i := 0) dL_nests_2 rfl ?_
  refine v_iload_n C (pc := 3) (i := 1) dL_nests_3 rfl ?_
  refine v_iload_n C (pc := 4) (i := 2) dL_nests_4 rfl ?_
  obtain ⟨y2, hy2, hh⟩ := h
  skip
  obtain ⟨rfl, fsy2, hfy2⟩ := hC_inv hy2
  have h := hh
  clear hh
  refine v_xV F (pc := 5) (ci := 4) [.int a1, .int a2] 2 (cX4_nests_met (kl κ) F.2.2.2.1 (kG κ) _ h) hfy2 rfl (good_l gL_nests_X4_nests) rfl hdX4_nests rfl rfl rfl (by rw [hR]; exact ⟨Nat.le_of_ble_eq_true rfl, Nat.le_of_ble_eq_true rfl⟩) (by rw [hR]; decide) (Nat.le_of_ble_eq_true rfl) rfl dL_nests_5 (fun Ex M9 h => ?_) (hk_i fun M3 x1 h => ?_)
  · by_cases hE0 : Ex = "java/lang/IndexOutOfBoundsException"
    · rw [if_pos hE0] at h
      subst hE0
      refine v_catch F (pc := 5) ht (name := "java/lang/IndexOutOfBoundsException") [] ⟨0, 17, 20, 21⟩ [] rfl (fun z hz => absurd hz List.not_mem_nil) (by decide) (by decide) (List.mem_append_right _ (List.mem_of_getElem? (i := 2) rfl)) (by decide) (fun q9 => ?_)
      refine v_astore C (pc := 20) (i := 4) (lv' := [some (va_rf (some y2)), some (.int a1), some (.int a2), some (va_rf a3), some (va_rf (some q9))]) dL_nests_20 rfl rfl ?_
      refine v_iconst C (pc := 22) (v := 1) dL_nests_22 (by decide) ?_
      exact v_eret (pc := 23) E rfl (nar_int _) ⟨_, rfl, h⟩ (by decide) (by decide) dL_nests_23
    · rw [if_neg hE0] at h
      exact h.elim
  · refine v_if_eq C (pc := 8) (tgt := 15) dL_nests_8 (by decide) (fun c4 => ?_) (fun c4 => ?_)
    · rw [if_pos c4] at h
      refine v_lconst C (pc := 15) (v := 0) dL_nests_15 (by decide) ?_
      obtain ⟨M5, e5, h⟩ := h
      refine v_last F (pc := 16) e5 dL_nests_16 ?_
      refine v_goto C (pc := 17) (tgt := 24) dL_nests_17 (by decide) ?_
      refine v_iconst C (pc := 24) (v := 0) dL_nests_24 (by decide) ?_
      exact v_eret (pc := 25) E rfl (nar_int _) ⟨_, rfl, h⟩ (by decide) (by decide) dL_nests_25
    · rw [if_neg c4] at h
      refine v_lconst C (pc := 11) (v := 1) dL_nests_11 (by decide) ?_
      refine v_goto C (pc := 12) (tgt := 16) dL_nests_12 (by decide) ?_
      obtain ⟨M6, e6, h⟩ := h
      refine v_last F (pc := 16) e6 dL_nests_16 ?_
      refine v_goto C (pc := 17) (tgt := 24) dL_nests_17 (by decide) ?_
      refine v_iconst C (pc := 24) (v := 0) dL_nests_24 (by decide) ?_
      exact v_eret (pc := 25) E rfl (nar_int _) ⟨_, rfl, h⟩ (by decide) (by decide) dL_nests_25
/-! L_strength -/
abbrev rmL_strength : Room := { frames := 8, cells := 2, slots := 12, locals := 139 }
def vsL_strength : List Cond := wsL_strength ++ hL3
def wL_strength (M : hM) (a0 : Option Nat) (a1 : Int32) (a2 : Int32) (a3 : Int32) (a4 : Int32) (a5 : Option Nat) (Q : hM → Int32 → Prop) : Prop :=
  ∃ y2, hC M 4 a0 = some y2 ∧
  wX4_strength M y2 a1 a2 a3 a4 (fun M3 x1 =>
    ∃ M4, sJ M3 2 a5 0 (Int32.toInt64 x1) = some M4 ∧
    Q M4 0) (fun Ex M9 => if Ex = "java/lang/IndexOutOfBoundsException" then (
      Q M9 1) else if Ex = "java/lang/IllegalArgumentException" then (
        Q M9 2) else False)
set_option maxRecDepth 100000 in
set_option maxHeartbeats 4000000 in
theorem cL_strength_met (l : Launch) (hfl : l.stackTraces = false) (G : hG) (M : hM) {a0 : Option Nat} {a1 : Int32} {a2 : Int32} {a3 : Int32} {a4 : Int32} {a5 : Option Nat} {Q : hM → Int32 → Prop} (h : wL_strength M a0 a1 a2 a3 a4 a5 Q) : hEMet l yL_strength vsL_strength rmL_strength [va_rf a0, .int a1, .int a2, .int a3, .int a4, va_rf a5] G M (hQi Q) (fun _ _ => False) 2 12 := by
  refine he_entryH (hh := [(0, 14, 17, 21), (0, 14, 21, 13)]) (own := RL) (cc := cL_strength) (maxL := 7) (ret := (some .int)) (lv := [some (va_rf a0), some (.int a1), some (.int a2), some (.int a3), some (.int a4), some (va_rf a5), none]) hfl (by decide) rfl rfl (hcc (rf_cat _) (hcc rfl (hcc rfl (hcc rfl (hcc rfl (hcc (rf_cat _) hc0)))))) (Nat.le_of_ble_eq_true rfl) rfl (fun κ sz hG hl hR E ht => ?_)
  subst hG; subst hl
  unfold wL_strength at h
  have F := E.1
  have C := F.1
  refine v_aload C (pc := 0) (i := 5) dL_strength_0 rfl ?_
  refine v_iconst C (pc := 2) (v := 0) dL_strength_2 (by decide) ?_
  refine v_aload_n C (pc := 3) (i := 0) dL_strength_3 rfl ?_
  refine v_iload_n C (pc := 4) (i := 1) dL_strength_4 rfl ?_
  refine v_iload_n C (pc := 5) (i := 2) dL_strength_5 rfl ?_
  refine v_iload_n C (pc := 6) (i := 3) dL_strength_6 rfl ?_
  refine v_iload C (pc := 7) (i := 4) dL_strength_7 rfl ?_
  obtain ⟨y2, hy2, hh⟩ := h
  skip
  obtain ⟨rfl, fsy2, hfy2⟩ := hC_inv hy2
  have h := hh
  clear hh
  refine v_xV F (pc := 9) (ci := 4) [.int a1, .int a2, .int a3, .int a4] 4 (cX4_strength_met (kl κ) F.2.2.2.1 (kG κ) _ h) hfy2 rfl (good_l gL_strength_X4_strength) rfl hdX4_strength rfl rfl rfl (by rw [hR]; exact ⟨Nat.le_of_ble_eq_true rfl, Nat.le_of_ble_eq_true rfl⟩) (by rw [hR]; decide) (Nat.le_of_ble_eq_true rfl) rfl dL_strength_9 (fun Ex M9 h => ?_) (hk_i fun M3 x1 h => ?_)
  · by_cases hE0 : Ex = "java/lang/IndexOutOfBoundsException"
    · rw [if_pos hE0] at h
      subst hE0
      refine v_catch F (pc := 9) ht (name := "java/lang/IndexOutOfBoundsException") [] ⟨0, 14, 17, 21⟩ [⟨0, 14, 21, 13⟩] rfl (fun z hz => absurd hz List.not_mem_nil) (by decide) (by decide) (List.mem_append_right _ (List.mem_of_getElem? (i := 2) rfl)) (by decide) (fun q9 => ?_)
      refine v_astore C (pc := 17) (i := 6) (lv' := [some (va_rf (some y2)), some (.int a1), some (.int a2), some (.int a3), some (.int a4), some (va_rf a5), some (va_rf (some q9))]) dL_strength_17 rfl rfl ?_
      refine v_iconst C (pc := 19) (v := 1) dL_strength_19 (by decide) ?_
      exact v_eret (pc := 20) E rfl (nar_int _) ⟨_, rfl, h⟩ (by decide) (by decide) dL_strength_20
    · rw [if_neg hE0] at h
      by_cases hE1 : Ex = "java/lang/IllegalArgumentException"
      · rw [if_pos hE1] at h
        subst hE1
        refine v_catch F (pc := 9) ht (name := "java/lang/IllegalArgumentException") [⟨0, 14, 17, 21⟩] ⟨0, 14, 21, 13⟩ [] rfl (List.forall_mem_cons.mpr ⟨Or.inr ⟨by decide, "java/lang/IndexOutOfBoundsException", List.mem_append_right _ (List.mem_of_getElem? (i := 2) rfl), by decide⟩, fun z hz => absurd hz List.not_mem_nil⟩) (by decide) (by decide) (List.mem_append_right _ (List.mem_of_getElem? (i := 0) rfl)) (by decide) (fun q9 => ?_)
        refine v_astore C (pc := 21) (i := 6) (lv' := [some (va_rf (some y2)), some (.int a1), some (.int a2), some (.int a3), some (.int a4), some (va_rf a5), some (va_rf (some q9))]) dL_strength_21 rfl rfl ?_
        refine v_iconst C (pc := 23) (v := 2) dL_strength_23 (by decide) ?_
        exact v_eret (pc := 24) E rfl (nar_int _) ⟨_, rfl, h⟩ (by decide) (by decide) dL_strength_24
      · rw [if_neg hE1] at h
        exact h.elim
  · refine v_i2l C (pc := 12) dL_strength_12 ?_
    obtain ⟨M4, e4, h⟩ := h
    refine v_last F (pc := 13) e4 dL_strength_13 ?_
    refine v_goto C (pc := 14) (tgt := 25) dL_strength_14 (by decide) ?_
    refine v_iconst C (pc := 25) (v := 0) dL_strength_25 (by decide) ?_
    exact v_eret (pc := 26) E rfl (nar_int _) ⟨_, rfl, h⟩ (by decide) (by decide) dL_strength_26
/-! L_whyNot -/
abbrev rmL_whyNot : Room := { frames := 8, cells := 2, slots := 12, locals := 144 }
def vsL_whyNot : List Cond := wsL_whyNot ++ hL3
def wL_whyNot (M : hM) (a0 : Option Nat) (a1 : Int32) (a2 : Int32) (a3 : Int32) (a4 : Int32) (a5 : Option Nat) (Q : hM → Int32 → Prop) : Prop :=
  ∃ y2, hC M 4 a0 = some y2 ∧
  wX4_whyNot M y2 a1 a2 a3 a4 (fun M3 x1 =>
    ∃ M4, sJ M3 2 a5 0 (Int32.toInt64 x1) = some M4 ∧
    Q M4 0) (fun Ex M9 => if Ex = "java/lang/IndexOutOfBoundsException" then (
      Q M9 1) else if Ex = "java/lang/IllegalArgumentException" then (
        Q M9 2) else False)
set_option maxRecDepth 100000 in
set_option maxHeartbeats 4000000 in
theorem cL_whyNot_met (l : Launch) (hfl : l.stackTraces = false) (G : hG) (M : hM) {a0 : Option Nat} {a1 : Int32} {a2 : Int32} {a3 : Int32} {a4 : Int32} {a5 : Option Nat} {Q : hM → Int32 → Prop} (h : wL_whyNot M a0 a1 a2 a3 a4 a5 Q) : hEMet l yL_whyNot vsL_whyNot rmL_whyNot [va_rf a0, .int a1, .int a2, .int a3, .int a4, va_rf a5] G M (hQi Q) (fun _ _ => False) 2 12 := by
  refine he_entryH (hh := [(0, 14, 17, 21), (0, 14, 21, 13)]) (own := RL) (cc := cL_whyNot) (maxL := 7) (ret := (some .int)) (lv := [some (va_rf a0), some (.int a1), some (.int a2), some (.int a3), some (.int a4), some (va_rf a5), none]) hfl (by decide) rfl rfl (hcc (rf_cat _) (hcc rfl (hcc rfl (hcc rfl (hcc rfl (hcc (rf_cat _) hc0)))))) (Nat.le_of_ble_eq_true rfl) rfl (fun κ sz hG hl hR E ht => ?_)
  subst hG; subst hl
  unfold wL_whyNot at h
  have F := E.1
  have C := F.1
  refine v_aload C (pc := 0) (i := 5) dL_whyNot_0 rfl ?_
  refine v_iconst C (pc := 2) (v := 0) dL_whyNot_2 (by decide) ?_
  refine v_aload_n C (pc := 3) (i := 0) dL_whyNot_3 rfl ?_
  refine v_iload_n C (pc := 4) (i := 1) dL_whyNot_4 rfl ?_
  refine v_iload_n C (pc := 5) (i := 2) dL_whyNot_5 rfl ?_
  refine v_iload_n C (pc := 6) (i := 3) dL_whyNot_6 rfl ?_
  refine v_iload C (pc := 7) (i := 4) dL_whyNot_7 rfl ?_
  obtain ⟨y2, hy2, hh⟩ := h
  skip
  obtain ⟨rfl, fsy2, hfy2⟩ := hC_inv hy2
  have h := hh
  clear hh
  refine v_xV F (pc := 9) (ci := 4) [.int a1, .int a2, .int a3, .int a4] 4 (cX4_whyNot_met (kl κ) F.2.2.2.1 (kG κ) _ h) hfy2 rfl (good_l gL_whyNot_X4_whyNot) rfl hdX4_whyNot rfl rfl rfl (by rw [hR]; exact ⟨Nat.le_of_ble_eq_true rfl, Nat.le_of_ble_eq_true rfl⟩) (by rw [hR]; decide) (Nat.le_of_ble_eq_true rfl) rfl dL_whyNot_9 (fun Ex M9 h => ?_) (hk_i fun M3 x1 h => ?_)
  · by_cases hE0 : Ex = "java/lang/IndexOutOfBoundsException"
    · rw [if_pos hE0] at h
      subst hE0
      refine v_catch F (pc := 9) ht (name := "java/lang/IndexOutOfBoundsException") [] ⟨0, 14, 17, 21⟩ [⟨0, 14, 21, 13⟩] rfl (fun z hz => absurd hz List.not_mem_nil) (by decide) (by decide) (List.mem_append_right _ (List.mem_of_getElem? (i := 2) rfl)) (by decide) (fun q9 => ?_)
      refine v_astore C (pc := 17) (i := 6) (lv' := [some (va_rf (some y2)), some (.int a1), some (.int a2), some (.int a3), some (.int a4), some (va_rf a5), some (va_rf (some q9))]) dL_whyNot_17 rfl rfl ?_
      refine v_iconst C (pc := 19) (v := 1) dL_whyNot_19 (by decide) ?_
      exact v_eret (pc := 20) E rfl (nar_int _) ⟨_, rfl, h⟩ (by decide) (by decide) dL_whyNot_20
    · rw [if_neg hE0] at h
      by_cases hE1 : Ex = "java/lang/IllegalArgumentException"
      · rw [if_pos hE1] at h
        subst hE1
        refine v_catch F (pc := 9) ht (name := "java/lang/IllegalArgumentException") [⟨0, 14, 17, 21⟩] ⟨0, 14, 21, 13⟩ [] rfl (List.forall_mem_cons.mpr ⟨Or.inr ⟨by decide, "java/lang/IndexOutOfBoundsException", List.mem_append_right _ (List.mem_of_getElem? (i := 2) rfl), by decide⟩, fun z hz => absurd hz List.not_mem_nil⟩) (by decide) (by decide) (List.mem_append_right _ (List.mem_of_getElem? (i := 0) rfl)) (by decide) (fun q9 => ?_)
        refine v_astore C (pc := 21) (i := 6) (lv' := [some (va_rf (some y2)), some (.int a1), some (.int a2), some (.int a3), some (.int a4), some (va_rf a5), some (va_rf (some q9))]) dL_whyNot_21 rfl rfl ?_
        refine v_iconst C (pc := 23) (v := 2) dL_whyNot_23 (by decide) ?_
        exact v_eret (pc := 24) E rfl (nar_int _) ⟨_, rfl, h⟩ (by decide) (by decide) dL_whyNot_24
      · rw [if_neg hE1] at h
        exact h.elim
  · refine v_i2l C (pc := 12) dL_whyNot_12 ?_
    obtain ⟨M4, e4, h⟩ := h
    refine v_last F (pc := 13) e4 dL_whyNot_13 ?_
    refine v_goto C (pc := 14) (tgt := 25) dL_whyNot_14 (by decide) ?_
    refine v_iconst C (pc := 25) (v := 0) dL_whyNot_25 (by decide) ?_
    exact v_eret (pc := 26) E rfl (nar_int _) ⟨_, rfl, h⟩ (by decide) (by decide) dL_whyNot_26
/-! L_best -/
abbrev rmL_best : Room := { frames := 8, cells := 2, slots := 12, locals := 168 }
def vsL_best : List Cond := wsL_best ++ hL3
def wL_best (M : hM) (a0 : Option Nat) (a1 : Int32) (a2 : Int32) (a3 : Int32) (a4 : Option Nat) (Q : hM → Int32 → Prop) : Prop :=
  ∃ y2, hC M 4 a0 = some y2 ∧
  wX4_best M y2 a1 a2 a3 (fun M3 x1 =>
    ∃ M4, sJ M3 2 a4 0 (Int32.toInt64 x1) = some M4 ∧
    Q M4 0) (fun Ex M9 => if Ex = "java/lang/IndexOutOfBoundsException" then (
      Q M9 1) else if Ex = "java/lang/IllegalArgumentException" then (
        Q M9 2) else False)
set_option maxRecDepth 100000 in
set_option maxHeartbeats 4000000 in
theorem cL_best_met (l : Launch) (hfl : l.stackTraces = false) (G : hG) (M : hM) {a0 : Option Nat} {a1 : Int32} {a2 : Int32} {a3 : Int32} {a4 : Option Nat} {Q : hM → Int32 → Prop} (h : wL_best M a0 a1 a2 a3 a4 Q) : hEMet l yL_best vsL_best rmL_best [va_rf a0, .int a1, .int a2, .int a3, va_rf a4] G M (hQi Q) (fun _ _ => False) 2 12 := by
  refine he_entryH (hh := [(0, 12, 15, 21), (0, 12, 19, 13)]) (own := RL) (cc := cL_best) (maxL := 6) (ret := (some .int)) (lv := [some (va_rf a0), some (.int a1), some (.int a2), some (.int a3), some (va_rf a4), none]) hfl (by decide) rfl rfl (hcc (rf_cat _) (hcc rfl (hcc rfl (hcc rfl (hcc (rf_cat _) hc0))))) (Nat.le_of_ble_eq_true rfl) rfl (fun κ sz hG hl hR E ht => ?_)
  subst hG; subst hl
  unfold wL_best at h
  have F := E.1
  have C := F.1
  refine v_aload C (pc := 0) (i := 4) dL_best_0 rfl ?_
  refine v_iconst C (pc := 2) (v := 0) dL_best_2 (by decide) ?_
  refine v_aload_n C (pc := 3) (i := 0) dL_best_3 rfl ?_
  refine v_iload_n C (pc := 4) (i := 1) dL_best_4 rfl ?_
  refine v_iload_n C (pc := 5) (i := 2) dL_best_5 rfl ?_
  refine v_iload_n C (pc := 6) (i := 3) dL_best_6 rfl ?_
  obtain ⟨y2, hy2, hh⟩ := h
  skip
  obtain ⟨rfl, fsy2, hfy2⟩ := hC_inv hy2
  have h := hh
  clear hh
  refine v_xV F (pc := 7) (ci := 4) [.int a1, .int a2, .int a3] 3 (cX4_best_met (kl κ) F.2.2.2.1 (kG κ) _ h) hfy2 rfl (good_l gL_best_X4_best) rfl hdX4_best rfl rfl rfl (by rw [hR]; exact ⟨Nat.le_of_ble_eq_true rfl, Nat.le_of_ble_eq_true rfl⟩) (by rw [hR]; decide) (Nat.le_of_ble_eq_true rfl) rfl dL_best_7 (fun Ex M9 h => ?_) (hk_i fun M3 x1 h => ?_)
  · by_cases hE0 : Ex = "java/lang/IndexOutOfBoundsException"
    · rw [if_pos hE0] at h
      subst hE0
      refine v_catch F (pc := 7) ht (name := "java/lang/IndexOutOfBoundsException") [] ⟨0, 12, 15, 21⟩ [⟨0, 12, 19, 13⟩] rfl (fun z hz => absurd hz List.not_mem_nil) (by decide) (by decide) (List.mem_append_right _ (List.mem_of_getElem? (i := 2) rfl)) (by decide) (fun q9 => ?_)
      refine v_astore C (pc := 15) (i := 5) (lv' := [some (va_rf (some y2)), some (.int a1), some (.int a2), some (.int a3), some (va_rf a4), some (va_rf (some q9))]) dL_best_15 rfl rfl ?_
      refine v_iconst C (pc := 17) (v := 1) dL_best_17 (by decide) ?_
      exact v_eret (pc := 18) E rfl (nar_int _) ⟨_, rfl, h⟩ (by decide) (by decide) dL_best_18
    · rw [if_neg hE0] at h
      by_cases hE1 : Ex = "java/lang/IllegalArgumentException"
      · rw [if_pos hE1] at h
        subst hE1
        refine v_catch F (pc := 7) ht (name := "java/lang/IllegalArgumentException") [⟨0, 12, 15, 21⟩] ⟨0, 12, 19, 13⟩ [] rfl (List.forall_mem_cons.mpr ⟨Or.inr ⟨by decide, "java/lang/IndexOutOfBoundsException", List.mem_append_right _ (List.mem_of_getElem? (i := 2) rfl), by decide⟩, fun z hz => absurd hz List.not_mem_nil⟩) (by decide) (by decide) (List.mem_append_right _ (List.mem_of_getElem? (i := 0) rfl)) (by decide) (fun q9 => ?_)
        refine v_astore C (pc := 19) (i := 5) (lv' := [some (va_rf (some y2)), some (.int a1), some (.int a2), some (.int a3), some (va_rf a4), some (va_rf (some q9))]) dL_best_19 rfl rfl ?_
        refine v_iconst C (pc := 21) (v := 2) dL_best_21 (by decide) ?_
        exact v_eret (pc := 22) E rfl (nar_int _) ⟨_, rfl, h⟩ (by decide) (by decide) dL_best_22
      · rw [if_neg hE1] at h
        exact h.elim
  · refine v_i2l C (pc := 10) dL_best_10 ?_
    obtain ⟨M4, e4, h⟩ := h
    refine v_last F (pc := 11) e4 dL_best_11 ?_
    refine v_goto C (pc := 12) (tgt := 23) dL_best_12 (by decide) ?_
    refine v_iconst C (pc := 23) (v := 0) dL_best_23 (by decide) ?_
    exact v_eret (pc := 24) E rfl (nar_int _) ⟨_, rfl, h⟩ (by decide) (by decide) dL_best_24
/-! L_bestAnew -/
abbrev rmL_bestAnew : Room := { frames := 8, cells := 2, slots := 12, locals := 167 }
def vsL_bestAnew : List Cond := wsL_bestAnew ++ hL3
def wL_bestAnew (M : hM) (a0 : Option Nat) (a1 : Int32) (a2 : Int32) (a3 : Int32) (a4 : Option Nat) (Q : hM → Int32 → Prop) : Prop :=
  ∃ y2, hC M 4 a0 = some y2 ∧
  wX4_bestAnew M y2 a1 a2 a3 (fun M3 x1 =>
    ∃ M4, sJ M3 2 a4 0 (Int32.toInt64 x1) = some M4 ∧
    Q M4 0) (fun Ex M9 => if Ex = "java/lang/IndexOutOfBoundsException" then (
      Q M9 1) else if Ex = "java/lang/IllegalArgumentException" then (
        Q M9 2) else False)
set_option maxRecDepth 100000 in
set_option maxHeartbeats 4000000 in
theorem cL_bestAnew_met (l : Launch) (hfl : l.stackTraces = false) (G : hG) (M : hM) {a0 : Option Nat} {a1 : Int32} {a2 : Int32} {a3 : Int32} {a4 : Option Nat} {Q : hM → Int32 → Prop} (h : wL_bestAnew M a0 a1 a2 a3 a4 Q) : hEMet l yL_bestAnew vsL_bestAnew rmL_bestAnew [va_rf a0, .int a1, .int a2, .int a3, va_rf a4] G M (hQi Q) (fun _ _ => False) 2 12 := by
  refine he_entryH (hh := [(0, 12, 15, 21), (0, 12, 19, 13)]) (own := RL) (cc := cL_bestAnew) (maxL := 6) (ret := (some .int)) (lv := [some (va_rf a0), some (.int a1), some (.int a2), some (.int a3), some (va_rf a4), none]) hfl (by decide) rfl rfl (hcc (rf_cat _) (hcc rfl (hcc rfl (hcc rfl (hcc (rf_cat _) hc0))))) (Nat.le_of_ble_eq_true rfl) rfl (fun κ sz hG hl hR E ht => ?_)
  subst hG; subst hl
  unfold wL_bestAnew at h
  have F := E.1
  have C := F.1
  refine v_aload C (pc := 0) (i := 4) dL_bestAnew_0 rfl ?_
  refine v_iconst C (pc := 2) (v := 0) dL_bestAnew_2 (by decide) ?_
  refine v_aload_n C (pc := 3) (i := 0) dL_bestAnew_3 rfl ?_
  refine v_iload_n C (pc := 4) (i := 1) dL_bestAnew_4 rfl ?_
  refine v_iload_n C (pc := 5) (i := 2) dL_bestAnew_5 rfl ?_
  refine v_iload_n C (pc := 6) (i := 3) dL_bestAnew_6 rfl ?_
  obtain ⟨y2, hy2, hh⟩ := h
  skip
  obtain ⟨rfl, fsy2, hfy2⟩ := hC_inv hy2
  have h := hh
  clear hh
  refine v_xV F (pc := 7) (ci := 4) [.int a1, .int a2, .int a3] 3 (cX4_bestAnew_met (kl κ) F.2.2.2.1 (kG κ) _ h) hfy2 rfl (good_l gL_bestAnew_X4_bestAnew) rfl hdX4_bestAnew rfl rfl rfl (by rw [hR]; exact ⟨Nat.le_of_ble_eq_true rfl, Nat.le_of_ble_eq_true rfl⟩) (by rw [hR]; decide) (Nat.le_of_ble_eq_true rfl) rfl dL_bestAnew_7 (fun Ex M9 h => ?_) (hk_i fun M3 x1 h => ?_)
  · by_cases hE0 : Ex = "java/lang/IndexOutOfBoundsException"
    · rw [if_pos hE0] at h
      subst hE0
      refine v_catch F (pc := 7) ht (name := "java/lang/IndexOutOfBoundsException") [] ⟨0, 12, 15, 21⟩ [⟨0, 12, 19, 13⟩] rfl (fun z hz => absurd hz List.not_mem_nil) (by decide) (by decide) (List.mem_append_right _ (List.mem_of_getElem? (i := 2) rfl)) (by decide) (fun q9 => ?_)
      refine v_astore C (pc := 15) (i := 5) (lv' := [some (va_rf (some y2)), some (.int a1), some (.int a2), some (.int a3), some (va_rf a4), some (va_rf (some q9))]) dL_bestAnew_15 rfl rfl ?_
      refine v_iconst C (pc := 17) (v := 1) dL_bestAnew_17 (by decide) ?_
      exact v_eret (pc := 18) E rfl (nar_int _) ⟨_, rfl, h⟩ (by decide) (by decide) dL_bestAnew_18
    · rw [if_neg hE0] at h
      by_cases hE1 : Ex = "java/lang/IllegalArgumentException"
      · rw [if_pos hE1] at h
        subst hE1
        refine v_catch F (pc := 7) ht (name := "java/lang/IllegalArgumentException") [⟨0, 12, 15, 21⟩] ⟨0, 12, 19, 13⟩ [] rfl (List.forall_mem_cons.mpr ⟨Or.inr ⟨by decide, "java/lang/IndexOutOfBoundsException", List.mem_append_right _ (List.mem_of_getElem? (i := 2) rfl), by decide⟩, fun z hz => absurd hz List.not_mem_nil⟩) (by decide) (by decide) (List.mem_append_right _ (List.mem_of_getElem? (i := 0) rfl)) (by decide) (fun q9 => ?_)
        refine v_astore C (pc := 19) (i := 5) (lv' := [some (va_rf (some y2)), some (.int a1), some (.int a2), some (.int a3), some (va_rf a4), some (va_rf (some q9))]) dL_bestAnew_19 rfl rfl ?_
        refine v_iconst C (pc := 21) (v := 2) dL_bestAnew_21 (by decide) ?_
        exact v_eret (pc := 22) E rfl (nar_int _) ⟨_, rfl, h⟩ (by decide) (by decide) dL_bestAnew_22
      · rw [if_neg hE1] at h
        exact h.elim
  · refine v_i2l C (pc := 10) dL_bestAnew_10 ?_
    obtain ⟨M4, e4, h⟩ := h
    refine v_last F (pc := 11) e4 dL_bestAnew_11 ?_
    refine v_goto C (pc := 12) (tgt := 23) dL_bestAnew_12 (by decide) ?_
    refine v_iconst C (pc := 23) (v := 0) dL_bestAnew_23 (by decide) ?_
    exact v_eret (pc := 24) E rfl (nar_int _) ⟨_, rfl, h⟩ (by decide) (by decide) dL_bestAnew_24
/-! L_lacks -/
abbrev rmL_lacks : Room := { frames := 8, cells := 1, slots := 6, locals := 137 }
def vsL_lacks : List Cond := wsL_lacks ++ hL3
def wL_lacks (M : hM) (a0 : Option Nat) (a1 : Int32) (a2 : Int32) (a3 : Option Nat) (Q : hM → Int32 → Prop) : Prop :=
  ∃ y2, hC M 4 a0 = some y2 ∧
  wX4_lacks M y2 a1 a2 (fun M3 x1 =>
    ∃ M4, sJ M3 2 a3 0 (Int32.toInt64 x1) = some M4 ∧
    Q M4 0) (fun Ex M9 => if Ex = "java/lang/IndexOutOfBoundsException" then (
      Q M9 1) else False)
set_option maxRecDepth 100000 in
set_option maxHeartbeats 4000000 in
theorem cL_lacks_met (l : Launch) (hfl : l.stackTraces = false) (G : hG) (M : hM) {a0 : Option Nat} {a1 : Int32} {a2 : Int32} {a3 : Option Nat} {Q : hM → Int32 → Prop} (h : wL_lacks M a0 a1 a2 a3 Q) : hEMet l yL_lacks vsL_lacks rmL_lacks [va_rf a0, .int a1, .int a2, va_rf a3] G M (hQi Q) (fun _ _ => False) 1 6 := by
  refine he_entryH (hh := [(0, 10, 13, 21)]) (own := RL) (cc := cL_lacks) (maxL := 5) (ret := (some .int)) (lv := [some (va_rf a0), some (.int a1), some (.int a2), some (va_rf a3), none]) hfl (by decide) rfl rfl (hcc (rf_cat _) (hcc rfl (hcc rfl (hcc (rf_cat _) hc0)))) (Nat.le_of_ble_eq_true rfl) rfl (fun κ sz hG hl hR E ht => ?_)
  subst hG; subst hl
  unfold wL_lacks at h
  have F := E.1
  have C := F.1
  refine v_aload_n C (pc := 0) (i := 3) dL_lacks_0 rfl ?_
  refine v_iconst C (pc := 1) (v := 0) dL_lacks_1 (by decide) ?_
  refine v_aload_n C (pc := 2) (i := 0) dL_lacks_2 rfl ?_
  refine v_iload_n C (pc := 3) (i := 1) dL_lacks_3 rfl ?_
  refine v_iload_n C (pc := 4) (i := 2) dL_lacks_4 rfl ?_
  obtain ⟨y2, hy2, hh⟩ := h
  skip
  obtain ⟨rfl, fsy2, hfy2⟩ := hC_inv hy2
  have h := hh
  clear hh
  refine v_xV F (pc := 5) (ci := 4) [.int a1, .int a2] 2 (cX4_lacks_met (kl κ) F.2.2.2.1 (kG κ) _ h) hfy2 rfl (good_l gL_lacks_X4_lacks) rfl hdX4_lacks rfl rfl rfl (by rw [hR]; exact ⟨Nat.le_of_ble_eq_true rfl, Nat.le_of_ble_eq_true rfl⟩) (by rw [hR]; decide) (Nat.le_of_ble_eq_true rfl) rfl dL_lacks_5 (fun Ex M9 h => ?_) (hk_i fun M3 x1 h => ?_)
  · by_cases hE0 : Ex = "java/lang/IndexOutOfBoundsException"
    · rw [if_pos hE0] at h
      subst hE0
      refine v_catch F (pc := 5) ht (name := "java/lang/IndexOutOfBoundsException") [] ⟨0, 10, 13, 21⟩ [] rfl (fun z hz => absurd hz List.not_mem_nil) (by decide) (by decide) (List.mem_append_right _ (List.mem_of_getElem? (i := 2) rfl)) (by decide) (fun q9 => ?_)
      refine v_astore C (pc := 13) (i := 4) (lv' := [some (va_rf (some y2)), some (.int a1), some (.int a2), some (va_rf a3), some (va_rf (some q9))]) dL_lacks_13 rfl rfl ?_
      refine v_iconst C (pc := 15) (v := 1) dL_lacks_15 (by decide) ?_
      exact v_eret (pc := 16) E rfl (nar_int _) ⟨_, rfl, h⟩ (by decide) (by decide) dL_lacks_16
    · rw [if_neg hE0] at h
      exact h.elim
  · refine v_i2l C (pc := 8) dL_lacks_8 ?_
    obtain ⟨M4, e4, h⟩ := h
    refine v_last F (pc := 9) e4 dL_lacks_9 ?_
    refine v_goto C (pc := 10) (tgt := 17) dL_lacks_10 (by decide) ?_
    refine v_iconst C (pc := 17) (v := 0) dL_lacks_17 (by decide) ?_
    exact v_eret (pc := 18) E rfl (nar_int _) ⟨_, rfl, h⟩ (by decide) (by decide) dL_lacks_18
/-! L_ofItem -/
abbrev rmL_ofItem : Room := { frames := 7, cells := 1, slots := 6, locals := 113 }
def vsL_ofItem : List Cond := wsL_ofItem ++ hL3
def wL_ofItem (M : hM) (a0 : Option Nat) (a1 : Int32) (a2 : Int32) (a3 : Option Nat) (Q : hM → Int32 → Prop) : Prop :=
  ∃ y2, hC M 4 a0 = some y2 ∧
  wX4_ofItem M y2 a1 a2 (fun M3 x1 =>
    ∃ M4, sJ M3 2 a3 0 (Int32.toInt64 x1) = some M4 ∧
    Q M4 0) (fun Ex M9 => if Ex = "java/lang/IndexOutOfBoundsException" then (
      Q M9 1) else if Ex = "java/lang/IllegalArgumentException" then (
        Q M9 2) else False)
set_option maxRecDepth 100000 in
set_option maxHeartbeats 4000000 in
theorem cL_ofItem_met (l : Launch) (hfl : l.stackTraces = false) (G : hG) (M : hM) {a0 : Option Nat} {a1 : Int32} {a2 : Int32} {a3 : Option Nat} {Q : hM → Int32 → Prop} (h : wL_ofItem M a0 a1 a2 a3 Q) : hEMet l yL_ofItem vsL_ofItem rmL_ofItem [va_rf a0, .int a1, .int a2, va_rf a3] G M (hQi Q) (fun _ _ => False) 1 6 := by
  refine he_entryH (hh := [(0, 10, 13, 21), (0, 10, 17, 13)]) (own := RL) (cc := cL_ofItem) (maxL := 5) (ret := (some .int)) (lv := [some (va_rf a0), some (.int a1), some (.int a2), some (va_rf a3), none]) hfl (by decide) rfl rfl (hcc (rf_cat _) (hcc rfl (hcc rfl (hcc (rf_cat _) hc0)))) (Nat.le_of_ble_eq_true rfl) rfl (fun κ sz hG hl hR E ht => ?_)
  subst hG; subst hl
  unfold wL_ofItem at h
  have F := E.1
  have C := F.1
  refine v_aload_n C (pc := 0) (i := 3) dL_ofItem_0 rfl ?_
  refine v_iconst C (pc := 1) (v := 0) dL_ofItem_1 (by decide) ?_
  refine v_aload_n C (pc := 2) (i := 0) dL_ofItem_2 rfl ?_
  refine v_iload_n C (pc := 3) (i := 1) dL_ofItem_3 rfl ?_
  refine v_iload_n C (pc := 4) (i := 2) dL_ofItem_4 rfl ?_
  obtain ⟨y2, hy2, hh⟩ := h
  skip
  obtain ⟨rfl, fsy2, hfy2⟩ := hC_inv hy2
  have h := hh
  clear hh
  refine v_xV F (pc := 5) (ci := 4) [.int a1, .int a2] 2 (cX4_ofItem_met (kl κ) F.2.2.2.1 (kG κ) _ h) hfy2 rfl (good_l gL_ofItem_X4_ofItem) rfl hdX4_ofItem rfl rfl rfl (by rw [hR]; exact ⟨Nat.le_of_ble_eq_true rfl, Nat.le_of_ble_eq_true rfl⟩) (by rw [hR]; decide) (Nat.le_of_ble_eq_true rfl) rfl dL_ofItem_5 (fun Ex M9 h => ?_) (hk_i fun M3 x1 h => ?_)
  · by_cases hE0 : Ex = "java/lang/IndexOutOfBoundsException"
    · rw [if_pos hE0] at h
      subst hE0
      refine v_catch F (pc := 5) ht (name := "java/lang/IndexOutOfBoundsException") [] ⟨0, 10, 13, 21⟩ [⟨0, 10, 17, 13⟩] rfl (fun z hz => absurd hz List.not_mem_nil) (by decide) (by decide) (List.mem_append_right _ (List.mem_of_getElem? (i := 2) rfl)) (by decide) (fun q9 => ?_)
      refine v_astore C (pc := 13) (i := 4) (lv' := [some (va_rf (some y2)), some (.int a1), some (.int a2), some (va_rf a3), some (va_rf (some q9))]) dL_ofItem_13 rfl rfl ?_
      refine v_iconst C (pc := 15) (v := 1) dL_ofItem_15 (by decide) ?_
      exact v_eret (pc := 16) E rfl (nar_int _) ⟨_, rfl, h⟩ (by decide) (by decide) dL_ofItem_16
    · rw [if_neg hE0] at h
      by_cases hE1 : Ex = "java/lang/IllegalArgumentException"
      · rw [if_pos hE1] at h
        subst hE1
        refine v_catch F (pc := 5) ht (name := "java/lang/IllegalArgumentException") [⟨0, 10, 13, 21⟩] ⟨0, 10, 17, 13⟩ [] rfl (List.forall_mem_cons.mpr ⟨Or.inr ⟨by decide, "java/lang/IndexOutOfBoundsException", List.mem_append_right _ (List.mem_of_getElem? (i := 2) rfl), by decide⟩, fun z hz => absurd hz List.not_mem_nil⟩) (by decide) (by decide) (List.mem_append_right _ (List.mem_of_getElem? (i := 0) rfl)) (by decide) (fun q9 => ?_)
        refine v_astore C (pc := 17) (i := 4) (lv' := [some (va_rf (some y2)), some (.int a1), some (.int a2), some (va_rf a3), some (va_rf (some q9))]) dL_ofItem_17 rfl rfl ?_
        refine v_iconst C (pc := 19) (v := 2) dL_ofItem_19 (by decide) ?_
        exact v_eret (pc := 20) E rfl (nar_int _) ⟨_, rfl, h⟩ (by decide) (by decide) dL_ofItem_20
      · rw [if_neg hE1] at h
        exact h.elim
  · refine v_i2l C (pc := 8) dL_ofItem_8 ?_
    obtain ⟨M4, e4, h⟩ := h
    refine v_last F (pc := 9) e4 dL_ofItem_9 ?_
    refine v_goto C (pc := 10) (tgt := 21) dL_ofItem_10 (by decide) ?_
    refine v_iconst C (pc := 21) (v := 0) dL_ofItem_21 (by decide) ?_
    exact v_eret (pc := 22) E rfl (nar_int _) ⟨_, rfl, h⟩ (by decide) (by decide) dL_ofItem_22
/-! L_ofAccused -/
abbrev rmL_ofAccused : Room := { frames := 8, cells := 2, slots := 12, locals := 138 }
def vsL_ofAccused : List Cond := wsL_ofAccused ++ hL3
def wL_ofAccused (M : hM) (a0 : Option Nat) (a1 : Int32) (a2 : Int32) (a3 : Int32) (a4 : Option Nat) (Q : hM → Int32 → Prop) : Prop :=
  ∃ y2, hC M 4 a0 = some y2 ∧
  wX4_ofAccused M y2 a1 a2 a3 (fun M3 x1 =>
    ∃ M4, sJ M3 2 a4 0 (Int32.toInt64 x1) = some M4 ∧
    Q M4 0) (fun Ex M9 => if Ex = "java/lang/IndexOutOfBoundsException" then (
      Q M9 1) else if Ex = "java/lang/IllegalArgumentException" then (
        Q M9 2) else False)
set_option maxRecDepth 100000 in
set_option maxHeartbeats 4000000 in
theorem cL_ofAccused_met (l : Launch) (hfl : l.stackTraces = false) (G : hG) (M : hM) {a0 : Option Nat} {a1 : Int32} {a2 : Int32} {a3 : Int32} {a4 : Option Nat} {Q : hM → Int32 → Prop} (h : wL_ofAccused M a0 a1 a2 a3 a4 Q) : hEMet l yL_ofAccused vsL_ofAccused rmL_ofAccused [va_rf a0, .int a1, .int a2, .int a3, va_rf a4] G M (hQi Q) (fun _ _ => False) 2 12 := by
  refine he_entryH (hh := [(0, 12, 15, 21), (0, 12, 19, 13)]) (own := RL) (cc := cL_ofAccused) (maxL := 6) (ret := (some .int)) (lv := [some (va_rf a0), some (.int a1), some (.int a2), some (.int a3), some (va_rf a4), none]) hfl (by decide) rfl rfl (hcc (rf_cat _) (hcc rfl (hcc rfl (hcc rfl (hcc (rf_cat _) hc0))))) (Nat.le_of_ble_eq_true rfl) rfl (fun κ sz hG hl hR E ht => ?_)
  subst hG; subst hl
  unfold wL_ofAccused at h
  have F := E.1
  have C := F.1
  refine v_aload C (pc := 0) (i := 4) dL_ofAccused_0 rfl ?_
  refine v_iconst C (pc := 2) (v := 0) dL_ofAccused_2 (by decide) ?_
  refine v_aload_n C (pc := 3) (i := 0) dL_ofAccused_3 rfl ?_
  refine v_iload_n C (pc := 4) (i := 1) dL_ofAccused_4 rfl ?_
  refine v_iload_n C (pc := 5) (i := 2) dL_ofAccused_5 rfl ?_
  refine v_iload_n C (pc := 6) (i := 3) dL_ofAccused_6 rfl ?_
  obtain ⟨y2, hy2, hh⟩ := h
  skip
  obtain ⟨rfl, fsy2, hfy2⟩ := hC_inv hy2
  have h := hh
  clear hh
  refine v_xV F (pc := 7) (ci := 4) [.int a1, .int a2, .int a3] 3 (cX4_ofAccused_met (kl κ) F.2.2.2.1 (kG κ) _ h) hfy2 rfl (good_l gL_ofAccused_X4_ofAccused) rfl hdX4_ofAccused rfl rfl rfl (by rw [hR]; exact ⟨Nat.le_of_ble_eq_true rfl, Nat.le_of_ble_eq_true rfl⟩) (by rw [hR]; decide) (Nat.le_of_ble_eq_true rfl) rfl dL_ofAccused_7 (fun Ex M9 h => ?_) (hk_i fun M3 x1 h => ?_)
  · by_cases hE0 : Ex = "java/lang/IndexOutOfBoundsException"
    · rw [if_pos hE0] at h
      subst hE0
      refine v_catch F (pc := 7) ht (name := "java/lang/IndexOutOfBoundsException") [] ⟨0, 12, 15, 21⟩ [⟨0, 12, 19, 13⟩] rfl (fun z hz => absurd hz List.not_mem_nil) (by decide) (by decide) (List.mem_append_right _ (List.mem_of_getElem? (i := 2) rfl)) (by decide) (fun q9 => ?_)
      refine v_astore C (pc := 15) (i := 5) (lv' := [some (va_rf (some y2)), some (.int a1), some (.int a2), some (.int a3), some (va_rf a4), some (va_rf (some q9))]) dL_ofAccused_15 rfl rfl ?_
      refine v_iconst C (pc := 17) (v := 1) dL_ofAccused_17 (by decide) ?_
      exact v_eret (pc := 18) E rfl (nar_int _) ⟨_, rfl, h⟩ (by decide) (by decide) dL_ofAccused_18
    · rw [if_neg hE0] at h
      by_cases hE1 : Ex = "java/lang/IllegalArgumentException"
      · rw [if_pos hE1] at h
        subst hE1
        refine v_catch F (pc := 7) ht (name := "java/lang/IllegalArgumentException") [⟨0, 12, 15, 21⟩] ⟨0, 12, 19, 13⟩ [] rfl (List.forall_mem_cons.mpr ⟨Or.inr ⟨by decide, "java/lang/IndexOutOfBoundsException", List.mem_append_right _ (List.mem_of_getElem? (i := 2) rfl), by decide⟩, fun z hz => absurd hz List.not_mem_nil⟩) (by decide) (by decide) (List.mem_append_right _ (List.mem_of_getElem? (i := 0) rfl)) (by decide) (fun q9 => ?_)
        refine v_astore C (pc := 19) (i := 5) (lv' := [some (va_rf (some y2)), some (.int a1), some (.int a2), some (.int a3), some (va_rf a4), some (va_rf (some q9))]) dL_ofAccused_19 rfl rfl ?_
        refine v_iconst C (pc := 21) (v := 2) dL_ofAccused_21 (by decide) ?_
        exact v_eret (pc := 22) E rfl (nar_int _) ⟨_, rfl, h⟩ (by decide) (by decide) dL_ofAccused_22
      · rw [if_neg hE1] at h
        exact h.elim
  · refine v_i2l C (pc := 10) dL_ofAccused_10 ?_
    obtain ⟨M4, e4, h⟩ := h
    refine v_last F (pc := 11) e4 dL_ofAccused_11 ?_
    refine v_goto C (pc := 12) (tgt := 23) dL_ofAccused_12 (by decide) ?_
    refine v_iconst C (pc := 23) (v := 0) dL_ofAccused_23 (by decide) ?_
    exact v_eret (pc := 24) E rfl (nar_int _) ⟨_, rfl, h⟩ (by decide) (by decide) dL_ofAccused_24
/-! L_count -/
abbrev rmL_count : Room := { frames := 7, cells := 1, slots := 6, locals := 111 }
def vsL_count : List Cond := wsL_count ++ hL3
def wL_count (M : hM) (a0 : Option Nat) (a1 : Int32) (a2 : Option Nat) (Q : hM → Int32 → Prop) : Prop :=
  ∃ y2, hC M 4 a0 = some y2 ∧
  wX4_count M y2 a1 (fun M3 x1 =>
    ∃ M4, sJ M3 2 a2 0 (Int32.toInt64 x1) = some M4 ∧
    Q M4 0) (fun Ex M9 => if Ex = "java/lang/IllegalArgumentException" then (
      Q M9 1) else False)
set_option maxRecDepth 100000 in
set_option maxHeartbeats 4000000 in
theorem cL_count_met (l : Launch) (hfl : l.stackTraces = false) (G : hG) (M : hM) {a0 : Option Nat} {a1 : Int32} {a2 : Option Nat} {Q : hM → Int32 → Prop} (h : wL_count M a0 a1 a2 Q) : hEMet l yL_count vsL_count rmL_count [va_rf a0, .int a1, va_rf a2] G M (hQi Q) (fun _ _ => False) 1 6 := by
  refine he_entryH (hh := [(0, 9, 12, 13)]) (own := RL) (cc := cL_count) (maxL := 4) (ret := (some .int)) (lv := [some (va_rf a0), some (.int a1), some (va_rf a2), none]) hfl (by decide) rfl rfl (hcc (rf_cat _) (hcc rfl (hcc (rf_cat _) hc0))) (Nat.le_of_ble_eq_true rfl) rfl (fun κ sz hG hl hR E ht => ?_)
  subst hG; subst hl
  unfold wL_count at h
  have F := E.1
  have C := F.1
  refine v_aload_n C (pc := 0) (i := 2) dL_count_0 rfl ?_
  refine v_iconst C (pc := 1) (v := 0) dL_count_1 (by decide) ?_
  refine v_aload_n C (pc := 2) (i := 0) dL_count_2 rfl ?_
  refine v_iload_n C (pc := 3) (i := 1) dL_count_3 rfl ?_
  obtain ⟨y2, hy2, hh⟩ := h
  skip
  obtain ⟨rfl, fsy2, hfy2⟩ := hC_inv hy2
  have h := hh
  clear hh
  refine v_xV F (pc := 4) (ci := 4) [.int a1] 1 (cX4_count_met (kl κ) F.2.2.2.1 (kG κ) _ h) hfy2 rfl (good_l gL_count_X4_count) rfl hdX4_count rfl rfl rfl (by rw [hR]; exact ⟨Nat.le_of_ble_eq_true rfl, Nat.le_of_ble_eq_true rfl⟩) (by rw [hR]; decide) (Nat.le_of_ble_eq_true rfl) rfl dL_count_4 (fun Ex M9 h => ?_) (hk_i fun M3 x1 h => ?_)
  · by_cases hE0 : Ex = "java/lang/IllegalArgumentException"
    · rw [if_pos hE0] at h
      subst hE0
      refine v_catch F (pc := 4) ht (name := "java/lang/IllegalArgumentException") [] ⟨0, 9, 12, 13⟩ [] rfl (fun z hz => absurd hz List.not_mem_nil) (by decide) (by decide) (List.mem_append_right _ (List.mem_of_getElem? (i := 0) rfl)) (by decide) (fun q9 => ?_)
      refine v_astore_n C (pc := 12) (i := 3) (lv' := [some (va_rf (some y2)), some (.int a1), some (va_rf a2), some (va_rf (some q9))]) dL_count_12 rfl rfl ?_
      refine v_iconst C (pc := 13) (v := 1) dL_count_13 (by decide) ?_
      exact v_eret (pc := 14) E rfl (nar_int _) ⟨_, rfl, h⟩ (by decide) (by decide) dL_count_14
    · rw [if_neg hE0] at h
      exact h.elim
  · refine v_i2l C (pc := 7) dL_count_7 ?_
    obtain ⟨M4, e4, h⟩ := h
    refine v_last F (pc := 8) e4 dL_count_8 ?_
    refine v_goto C (pc := 9) (tgt := 15) dL_count_9 (by decide) ?_
    refine v_iconst C (pc := 15) (v := 0) dL_count_15 (by decide) ?_
    exact v_eret (pc := 16) E rfl (nar_int _) ⟨_, rfl, h⟩ (by decide) (by decide) dL_count_16
