/-! L_offence -/
abbrev rmL_offence : Room := { frames := 7, cells := 1, slots := 6, locals := 113 }
def vsL_offence : List Cond := wsL_offence ++ hL3
def wL_offence (M : hM) (a0 : Option Nat) (a1 : Int32) (a2 : Int32) (a3 : Int32) (Q : hM → Int32 → Prop) : Prop :=
  ∃ y2, hC M 4 a0 = some y2 ∧
  wX4_offence M y2 a1 a2 a3 (fun M3 x1 =>
    Q M3 x1) (fun Ex M9 => if Ex = "java/lang/IllegalArgumentException" then (
      Q M9 (-2000000002)) else if Ex = "java/lang/IllegalStateException" then (
        Q M9 (-2000000003)) else False)
set_option maxRecDepth 100000 in
set_option maxHeartbeats 4000000 in
theorem cL_offence_met (l : Launch) (hfl : l.stackTraces = false) (G : hG) (M : hM) {a0 : Option Nat} {a1 : Int32} {a2 : Int32} {a3 : Int32} {Q : hM → Int32 → Prop} (h : wL_offence M a0 a1 a2 a3 Q) : hEMet l yL_offence vsL_offence rmL_offence [va_rf a0, .int a1, .int a2, .int a3] G M (hQi Q) (fun _ _ => False) 1 6 := by
  refine he_entryH (hh := [(0, 7, 8, 13), (0, 7, 13, 16)]) (own := RL) (cc := cL_offence) (maxL := 5) (ret := (some .int)) (lv := [some (va_rf a0), some (.int a1), some (.int a2), some (.int a3), none]) hfl (by decide) rfl rfl (hcc (rf_cat _) (hcc rfl (hcc rfl (hcc rfl hc0)))) (Nat.le_of_ble_eq_true rfl) rfl (fun κ sz hG hl hR E ht => ?_)
  subst hG; subst hl
  unfold wL_offence at h
  have F := E.1
  have C := F.1
  refine v_aload_n C (pc := 0) (i := 0) dL_offence_0 rfl ?_
  refine v_iload_n C (pc := 1) (i := 1) dL_offence_1 rfl ?_
  refine v_iload_n C (pc := 2) (i := 2) dL_offence_2 rfl ?_
  refine v_iload_n C (pc := 3) (i := 3) dL_offence_3 rfl ?_
  obtain ⟨y2, hy2, hh⟩ := h
  skip
  obtain ⟨rfl, fsy2, hfy2⟩ := hC_inv hy2
  have h := hh
  clear hh
  refine v_xV F (pc := 4) (ci := 4) [.int a1, .int a2, .int a3] 3 (cX4_offence_met (kl κ) F.2.2.2.1 (kG κ) _ h) hfy2 rfl (good_l gL_offence_X4_offence) rfl hdX4_offence rfl rfl rfl (by rw [hR]; exact ⟨Nat.le_of_ble_eq_true rfl, Nat.le_of_ble_eq_true rfl⟩) (by rw [hR]; decide) (Nat.le_of_ble_eq_true rfl) rfl dL_offence_4 (fun Ex M9 h => ?_) (hk_i fun M3 x1 h => ?_)
  · by_cases hE0 : Ex = "java/lang/IllegalArgumentException"
    · rw [if_pos hE0] at h
      subst hE0
      refine v_catch F (pc := 4) ht (name := "java/lang/IllegalArgumentException") [] ⟨0, 7, 8, 13⟩ [⟨0, 7, 13, 16⟩] rfl (fun z hz => absurd hz List.not_mem_nil) (by decide) (by decide) (List.mem_append_right _ (List.mem_of_getElem? (i := 0) rfl)) (by decide) (fun q9 => ?_)
      refine v_astore C (pc := 8) (i := 4) (lv' := [some (va_rf (some y2)), some (.int a1), some (.int a2), some (.int a3), some (va_rf (some q9))]) dL_offence_8 rfl (lw_bi (j := 3) rfl) rfl ?_
      refine v_ldc C (pc := 10) (v := -2000000002) (List.mem_append_left _ (List.mem_cons_of_mem _ (List.mem_append_left _ (List.mem_append_left _ (List.mem_append_left _ (List.mem_append_left _ (List.mem_append_left _ (List.mem_of_getElem? (i := 1) rfl)))))))) dL_offence_10 ?_
      exact v_eret (pc := 12) E rfl (nar_int _) ⟨_, rfl, h⟩ (by decide) (by decide) dL_offence_12
    · rw [if_neg hE0] at h
      by_cases hE1 : Ex = "java/lang/IllegalStateException"
      · rw [if_pos hE1] at h
        subst hE1
        refine v_catch F (pc := 4) ht (name := "java/lang/IllegalStateException") [⟨0, 7, 8, 13⟩] ⟨0, 7, 13, 16⟩ [] rfl (List.forall_mem_cons.mpr ⟨Or.inr ⟨by decide, "java/lang/IllegalArgumentException", List.mem_append_right _ (List.mem_of_getElem? (i := 0) rfl), by decide⟩, fun z hz => absurd hz List.not_mem_nil⟩) (by decide) (by decide) (List.mem_append_right _ (List.mem_of_getElem? (i := 1) rfl)) (by decide) (fun q9 => ?_)
        refine v_astore C (pc := 13) (i := 4) (lv' := [some (va_rf (some y2)), some (.int a1), some (.int a2), some (.int a3), some (va_rf (some q9))]) dL_offence_13 rfl (lw_bi (j := 3) rfl) rfl ?_
        refine v_ldc C (pc := 15) (v := -2000000003) (List.mem_append_left _ (List.mem_cons_of_mem _ (List.mem_append_left _ (List.mem_append_left _ (List.mem_append_left _ (List.mem_append_left _ (List.mem_append_left _ (List.mem_of_getElem? (i := 2) rfl)))))))) dL_offence_15 ?_
        exact v_eret (pc := 17) E rfl (nar_int _) ⟨_, rfl, h⟩ (by decide) (by decide) dL_offence_17
      · rw [if_neg hE1] at h
        exact h.elim
  · exact v_eret (pc := 7) E rfl (nar_int _) ⟨_, rfl, h⟩ (by decide) (by decide) dL_offence_7
/-! L_exclude -/
abbrev rmL_exclude : Room := { frames := 7, cells := 1, slots := 6, locals := 115 }
def vsL_exclude : List Cond := wsL_exclude ++ hL3
def wL_exclude (M : hM) (a0 : Option Nat) (a1 : Int32) (a2 : Int32) (Q : hM → Int32 → Prop) : Prop :=
  ∃ y2, hC M 4 a0 = some y2 ∧
  wX4_exclude M y2 a1 a2 (fun M3 x1 =>
    if (x1 : Int32) = 0 then (
      Q M3 0
    ) else (
      Q M3 1
    )) (fun Ex M9 => if Ex = "java/lang/IndexOutOfBoundsException" then (
      Q M9 (-2000000001)) else if Ex = "java/lang/IllegalArgumentException" then (
        Q M9 (-2000000002)) else False)
set_option maxRecDepth 100000 in
set_option maxHeartbeats 4000000 in
theorem cL_exclude_met (l : Launch) (hfl : l.stackTraces = false) (G : hG) (M : hM) {a0 : Option Nat} {a1 : Int32} {a2 : Int32} {Q : hM → Int32 → Prop} (h : wL_exclude M a0 a1 a2 Q) : hEMet l yL_exclude vsL_exclude rmL_exclude [va_rf a0, .int a1, .int a2] G M (hQi Q) (fun _ _ => False) 1 6 := by
  refine he_entryH (hh := [(0, 14, 15, 23), (0, 14, 19, 13)]) (own := RL) (cc := cL_exclude) (maxL := 4) (ret := (some .int)) (lv := [some (va_rf a0), some (.int a1), some (.int a2), none]) hfl (by decide) rfl rfl (hcc (rf_cat _) (hcc rfl (hcc rfl hc0))) (Nat.le_of_ble_eq_true rfl) rfl (fun κ sz hG hl hR E ht => ?_)
  subst hG; subst hl
  unfold wL_exclude at h
  have F := E.1
  have C := F.1
  refine v_aload_n C (pc := 0) (i := 0) dL_exclude_0 rfl ?_
  refine v_iload_n C (pc := 1) (i := 1) dL_exclude_1 rfl ?_
  refine v_iload_n C (pc := 2) (i := 2) dL_exclude_2 rfl ?_
  obtain ⟨y2, hy2, hh⟩ := h
  skip
  obtain ⟨rfl, fsy2, hfy2⟩ := hC_inv hy2
  have h := hh
  clear hh
  refine v_xV F (pc := 3) (ci := 4) [.int a1, .int a2] 2 (cX4_exclude_met (kl κ) F.2.2.2.1 (kG κ) _ h) hfy2 rfl (good_l gL_exclude_X4_exclude) rfl hdX4_exclude rfl rfl rfl (by rw [hR]; exact ⟨Nat.le_of_ble_eq_true rfl, Nat.le_of_ble_eq_true rfl⟩) (by rw [hR]; decide) (Nat.le_of_ble_eq_true rfl) rfl dL_exclude_3 (fun Ex M9 h => ?_) (hk_i fun M3 x1 h => ?_)
  · by_cases hE0 : Ex = "java/lang/IndexOutOfBoundsException"
    · rw [if_pos hE0] at h
      subst hE0
      refine v_catch F (pc := 3) ht (name := "java/lang/IndexOutOfBoundsException") [] ⟨0, 14, 15, 23⟩ [⟨0, 14, 19, 13⟩] rfl (fun z hz => absurd hz List.not_mem_nil) (by decide) (by decide) (List.mem_append_right _ (List.mem_of_getElem? (i := 2) rfl)) (by decide) (fun q9 => ?_)
      refine v_astore_n C (pc := 15) (i := 3) (lv' := [some (va_rf (some y2)), some (.int a1), some (.int a2), some (va_rf (some q9))]) dL_exclude_15 rfl (lw_bi (j := 2) rfl) rfl ?_
      refine v_ldc C (pc := 16) (v := -2000000001) (List.mem_append_left _ (List.mem_cons_of_mem _ (List.mem_append_left _ (List.mem_append_left _ (List.mem_append_left _ (List.mem_append_left _ (List.mem_append_left _ (List.mem_of_getElem? (i := 1) rfl)))))))) dL_exclude_16 ?_
      exact v_eret (pc := 18) E rfl (nar_int _) ⟨_, rfl, h⟩ (by decide) (by decide) dL_exclude_18
    · rw [if_neg hE0] at h
      by_cases hE1 : Ex = "java/lang/IllegalArgumentException"
      · rw [if_pos hE1] at h
        subst hE1
        refine v_catch F (pc := 3) ht (name := "java/lang/IllegalArgumentException") [⟨0, 14, 15, 23⟩] ⟨0, 14, 19, 13⟩ [] rfl (List.forall_mem_cons.mpr ⟨Or.inr ⟨by decide, "java/lang/IndexOutOfBoundsException", List.mem_append_right _ (List.mem_of_getElem? (i := 2) rfl), by decide⟩, fun z hz => absurd hz List.not_mem_nil⟩) (by decide) (by decide) (List.mem_append_right _ (List.mem_of_getElem? (i := 0) rfl)) (by decide) (fun q9 => ?_)
        refine v_astore_n C (pc := 19) (i := 3) (lv' := [some (va_rf (some y2)), some (.int a1), some (.int a2), some (va_rf (some q9))]) dL_exclude_19 rfl (lw_bi (j := 2) rfl) rfl ?_
        refine v_ldc C (pc := 20) (v := -2000000002) (List.mem_append_left _ (List.mem_cons_of_mem _ (List.mem_append_left _ (List.mem_append_left _ (List.mem_append_left _ (List.mem_append_left _ (List.mem_append_left _ (List.mem_of_getElem? (i := 2) rfl)))))))) dL_exclude_20 ?_
        exact v_eret (pc := 22) E rfl (nar_int _) ⟨_, rfl, h⟩ (by decide) (by decide) dL_exclude_22
      · rw [if_neg hE1] at h
        exact h.elim
  · refine v_if_eq C (pc := 6) (tgt := 13) dL_exclude_6 (by decide) (fun c4 => ?_) (fun c4 => ?_)
    · rw [if_pos c4] at h
      refine v_iconst C (pc := 13) (v := 0) dL_exclude_13 (by decide) ?_
      exact v_eret (pc := 14) E rfl (nar_int _) ⟨_, rfl, h⟩ (by decide) (by decide) dL_exclude_14
    · rw [if_neg c4] at h
      refine v_iconst C (pc := 9) (v := 1) dL_exclude_9 (by decide) ?_
      refine v_goto C (pc := 10) (tgt := 14) dL_exclude_10 (by decide) ?_
      exact v_eret (pc := 14) E rfl (nar_int _) ⟨_, rfl, h⟩ (by decide) (by decide) dL_exclude_14
/-! L_pass -/
abbrev rmL_pass : Room := { frames := 7, cells := 1, slots := 6, locals := 135 }
def vsL_pass : List Cond := wsL_pass ++ hL3
def wL_pass (M : hM) (a0 : Option Nat) (a1 : Int32) (Q : hM → Int32 → Prop) : Prop :=
  ∃ y2, hC M 4 a0 = some y2 ∧
  wX4_pass M y2 a1 (fun M3 x1 =>
    Q M3 x1) (fun Ex M9 => if Ex = "java/lang/IllegalArgumentException" then (
      Q M9 (-2000000002)) else if Ex = "java/lang/IllegalStateException" then (
        Q M9 (-2000000003)) else False)
set_option maxRecDepth 100000 in
set_option maxHeartbeats 4000000 in
theorem cL_pass_met (l : Launch) (hfl : l.stackTraces = false) (G : hG) (M : hM) {a0 : Option Nat} {a1 : Int32} {Q : hM → Int32 → Prop} (h : wL_pass M a0 a1 Q) : hEMet l yL_pass vsL_pass rmL_pass [va_rf a0, .int a1] G M (hQi Q) (fun _ _ => False) 1 6 := by
  refine he_entryH (hh := [(0, 5, 6, 13), (0, 5, 10, 16)]) (own := RL) (cc := cL_pass) (maxL := 3) (ret := (some .int)) (lv := [some (va_rf a0), some (.int a1), none]) hfl (by decide) rfl rfl (hcc (rf_cat _) (hcc rfl hc0)) (Nat.le_of_ble_eq_true rfl) rfl (fun κ sz hG hl hR E ht => ?_)
  subst hG; subst hl
  unfold wL_pass at h
  have F := E.1
  have C := F.1
  refine v_aload_n C (pc := 0) (i := 0) dL_pass_0 rfl ?_
  refine v_iload_n C (pc := 1) (i := 1) dL_pass_1 rfl ?_
  obtain ⟨y2, hy2, hh⟩ := h
  skip
  obtain ⟨rfl, fsy2, hfy2⟩ := hC_inv hy2
  have h := hh
  clear hh
  refine v_xV F (pc := 2) (ci := 4) [.int a1] 1 (cX4_pass_met (kl κ) F.2.2.2.1 (kG κ) _ h) hfy2 rfl (good_l gL_pass_X4_pass) rfl hdX4_pass rfl rfl rfl (by rw [hR]; exact ⟨Nat.le_of_ble_eq_true rfl, Nat.le_of_ble_eq_true rfl⟩) (by rw [hR]; decide) (Nat.le_of_ble_eq_true rfl) rfl dL_pass_2 (fun Ex M9 h => ?_) (hk_i fun M3 x1 h => ?_)
  · by_cases hE0 : Ex = "java/lang/IllegalArgumentException"
    · rw [if_pos hE0] at h
      subst hE0
      refine v_catch F (pc := 2) ht (name := "java/lang/IllegalArgumentException") [] ⟨0, 5, 6, 13⟩ [⟨0, 5, 10, 16⟩] rfl (fun z hz => absurd hz List.not_mem_nil) (by decide) (by decide) (List.mem_append_right _ (List.mem_of_getElem? (i := 0) rfl)) (by decide) (fun q9 => ?_)
      refine v_astore_n C (pc := 6) (i := 2) (lv' := [some (va_rf (some y2)), some (.int a1), some (va_rf (some q9))]) dL_pass_6 rfl (lw_bi (j := 1) rfl) rfl ?_
      refine v_ldc C (pc := 7) (v := -2000000002) (List.mem_append_left _ (List.mem_cons_of_mem _ (List.mem_append_left _ (List.mem_append_left _ (List.mem_append_left _ (List.mem_append_left _ (List.mem_append_left _ (List.mem_append_left _ (List.mem_of_getElem? (i := 1) rfl))))))))) dL_pass_7 ?_
      exact v_eret (pc := 9) E rfl (nar_int _) ⟨_, rfl, h⟩ (by decide) (by decide) dL_pass_9
    · rw [if_neg hE0] at h
      by_cases hE1 : Ex = "java/lang/IllegalStateException"
      · rw [if_pos hE1] at h
        subst hE1
        refine v_catch F (pc := 2) ht (name := "java/lang/IllegalStateException") [⟨0, 5, 6, 13⟩] ⟨0, 5, 10, 16⟩ [] rfl (List.forall_mem_cons.mpr ⟨Or.inr ⟨by decide, "java/lang/IllegalArgumentException", List.mem_append_right _ (List.mem_of_getElem? (i := 0) rfl), by decide⟩, fun z hz => absurd hz List.not_mem_nil⟩) (by decide) (by decide) (List.mem_append_right _ (List.mem_of_getElem? (i := 1) rfl)) (by decide) (fun q9 => ?_)
        refine v_astore_n C (pc := 10) (i := 2) (lv' := [some (va_rf (some y2)), some (.int a1), some (va_rf (some q9))]) dL_pass_10 rfl (lw_bi (j := 1) rfl) rfl ?_
        refine v_ldc C (pc := 11) (v := -2000000003) (List.mem_append_left _ (List.mem_cons_of_mem _ (List.mem_append_left _ (List.mem_append_left _ (List.mem_append_left _ (List.mem_append_left _ (List.mem_append_left _ (List.mem_append_left _ (List.mem_of_getElem? (i := 2) rfl))))))))) dL_pass_11 ?_
        exact v_eret (pc := 13) E rfl (nar_int _) ⟨_, rfl, h⟩ (by decide) (by decide) dL_pass_13
      · rw [if_neg hE1] at h
        exact h.elim
  · exact v_eret (pc := 5) E rfl (nar_int _) ⟨_, rfl, h⟩ (by decide) (by decide) dL_pass_5
/-! L_file -/
abbrev rmL_file : Room := { frames := 7, cells := 20, slots := 211, locals := 115 }
def vsL_file : List Cond := wsL_file ++ hL3
def wL_file (M : hM) (a0 : Option Nat) (a1 : Int32) (a2 : Int32) (a3 : Int32) (Q : hM → Int32 → Prop) : Prop :=
  ∃ y2, hC M 4 a0 = some y2 ∧
  wX4_file M y2 a1 a2 a3 (fun M3 x1 =>
    Q M3 x1) (fun Ex M9 => if Ex = "java/lang/IllegalArgumentException" then (
      Q M9 (-2000000002)) else if Ex = "java/lang/IllegalStateException" then (
        Q M9 (-2000000003)) else False)
set_option maxRecDepth 100000 in
set_option maxHeartbeats 4000000 in
theorem cL_file_met (l : Launch) (hfl : l.stackTraces = false) (G : hG) (M : hM) {a0 : Option Nat} {a1 : Int32} {a2 : Int32} {a3 : Int32} {Q : hM → Int32 → Prop} (h : wL_file M a0 a1 a2 a3 Q) : hEMet l yL_file vsL_file rmL_file [va_rf a0, .int a1, .int a2, .int a3] G M (hQi Q) (fun _ _ => False) 20 211 := by
  refine he_entryH (hh := [(0, 7, 8, 13), (0, 7, 13, 16)]) (own := RL) (cc := cL_file) (maxL := 5) (ret := (some .int)) (lv := [some (va_rf a0), some (.int a1), some (.int a2), some (.int a3), none]) hfl (by decide) rfl rfl (hcc (rf_cat _) (hcc rfl (hcc rfl (hcc rfl hc0)))) (Nat.le_of_ble_eq_true rfl) rfl (fun κ sz hG hl hR E ht => ?_)
  subst hG; subst hl
  unfold wL_file at h
  have F := E.1
  have C := F.1
  refine v_aload_n C (pc := 0) (i := 0) dL_file_0 rfl ?_
  refine v_iload_n C (pc := 1) (i := 1) dL_file_1 rfl ?_
  refine v_iload_n C (pc := 2) (i := 2) dL_file_2 rfl ?_
  refine v_iload_n C (pc := 3) (i := 3) dL_file_3 rfl ?_
  obtain ⟨y2, hy2, hh⟩ := h
  skip
  obtain ⟨rfl, fsy2, hfy2⟩ := hC_inv hy2
  have h := hh
  clear hh
  refine v_xV F (pc := 4) (ci := 4) [.int a1, .int a2, .int a3] 3 (cX4_file_met (kl κ) F.2.2.2.1 (kG κ) _ h) hfy2 rfl (good_l gL_file_X4_file) rfl hdX4_file rfl rfl rfl (by rw [hR]; exact ⟨Nat.le_of_ble_eq_true rfl, Nat.le_of_ble_eq_true rfl⟩) (by rw [hR]; decide) (Nat.le_of_ble_eq_true rfl) rfl dL_file_4 (fun Ex M9 h => ?_) (hk_i fun M3 x1 h => ?_)
  · by_cases hE0 : Ex = "java/lang/IllegalArgumentException"
    · rw [if_pos hE0] at h
      subst hE0
      refine v_catch F (pc := 4) ht (name := "java/lang/IllegalArgumentException") [] ⟨0, 7, 8, 13⟩ [⟨0, 7, 13, 16⟩] rfl (fun z hz => absurd hz List.not_mem_nil) (by decide) (by decide) (List.mem_append_right _ (List.mem_of_getElem? (i := 0) rfl)) (by decide) (fun q9 => ?_)
      refine v_astore C (pc := 8) (i := 4) (lv' := [some (va_rf (some y2)), some (.int a1), some (.int a2), some (.int a3), some (va_rf (some q9))]) dL_file_8 rfl (lw_bi (j := 3) rfl) rfl ?_
      refine v_ldc C (pc := 10) (v := -2000000002) (List.mem_append_left _ (List.mem_cons_of_mem _ (List.mem_append_left _ (List.mem_append_left _ (List.mem_append_left _ (List.mem_append_left _ (List.mem_append_left _ (List.mem_append_left _ (List.mem_of_getElem? (i := 1) rfl))))))))) dL_file_10 ?_
      exact v_eret (pc := 12) E rfl (nar_int _) ⟨_, rfl, h⟩ (by decide) (by decide) dL_file_12
    · rw [if_neg hE0] at h
      by_cases hE1 : Ex = "java/lang/IllegalStateException"
      · rw [if_pos hE1] at h
        subst hE1
        refine v_catch F (pc := 4) ht (name := "java/lang/IllegalStateException") [⟨0, 7, 8, 13⟩] ⟨0, 7, 13, 16⟩ [] rfl (List.forall_mem_cons.mpr ⟨Or.inr ⟨by decide, "java/lang/IllegalArgumentException", List.mem_append_right _ (List.mem_of_getElem? (i := 0) rfl), by decide⟩, fun z hz => absurd hz List.not_mem_nil⟩) (by decide) (by decide) (List.mem_append_right _ (List.mem_of_getElem? (i := 1) rfl)) (by decide) (fun q9 => ?_)
        refine v_astore C (pc := 13) (i := 4) (lv' := [some (va_rf (some y2)), some (.int a1), some (.int a2), some (.int a3), some (va_rf (some q9))]) dL_file_13 rfl (lw_bi (j := 3) rfl) rfl ?_
        refine v_ldc C (pc := 15) (v := -2000000003) (List.mem_append_left _ (List.mem_cons_of_mem _ (List.mem_append_left _ (List.mem_append_left _ (List.mem_append_left _ (List.mem_append_left _ (List.mem_append_left _ (List.mem_append_left _ (List.mem_of_getElem? (i := 2) rfl))))))))) dL_file_15 ?_
        exact v_eret (pc := 17) E rfl (nar_int _) ⟨_, rfl, h⟩ (by decide) (by decide) dL_file_17
      · rw [if_neg hE1] at h
        exact h.elim
  · exact v_eret (pc := 7) E rfl (nar_int _) ⟨_, rfl, h⟩ (by decide) (by decide) dL_file_7
/-! L_item -/
abbrev rmL_item : Room := { frames := 7, cells := 1, slots := 10, locals := 117 }
def vsL_item : List Cond := wsL_item ++ hL3
def wL_item (M : hM) (a0 : Option Nat) (a1 : Int32) (a2 : Int32) (a3 : Int32) (a4 : Int32) (a5 : Int32) (a6 : Int32) (Q : hM → Int32 → Prop) : Prop :=
  ∃ y2, hC M 4 a0 = some y2 ∧
  wX4_item M y2 a1 a2 a3 a4 a5 a6 (fun M3 x1 =>
    Q M3 x1) (fun Ex M9 => if Ex = "java/lang/IndexOutOfBoundsException" then (
      Q M9 (-2000000001)) else if Ex = "java/lang/IllegalArgumentException" then (
        Q M9 (-2000000002)) else if Ex = "java/lang/IllegalStateException" then (
          Q M9 (-2000000003)) else False)
set_option maxRecDepth 100000 in
set_option maxHeartbeats 4000000 in
theorem cL_item_met (l : Launch) (hfl : l.stackTraces = false) (G : hG) (M : hM) {a0 : Option Nat} {a1 : Int32} {a2 : Int32} {a3 : Int32} {a4 : Int32} {a5 : Int32} {a6 : Int32} {Q : hM → Int32 → Prop} (h : wL_item M a0 a1 a2 a3 a4 a5 a6 Q) : hEMet l yL_item vsL_item rmL_item [va_rf a0, .int a1, .int a2, .int a3, .int a4, .int a5, .int a6] G M (hQi Q) (fun _ _ => False) 1 10 := by
  refine he_entryH (hh := [(0, 13, 14, 23), (0, 13, 19, 13), (0, 13, 24, 16)]) (own := RL) (cc := cL_item) (maxL := 8) (ret := (some .int)) (lv := [some (va_rf a0), some (.int a1), some (.int a2), some (.int a3), some (.int a4), some (.int a5), some (.int a6), none]) hfl (by decide) rfl rfl (hcc (rf_cat _) (hcc rfl (hcc rfl (hcc rfl (hcc rfl (hcc rfl (hcc rfl hc0))))))) (Nat.le_of_ble_eq_true rfl) rfl (fun κ sz hG hl hR E ht => ?_)
  subst hG; subst hl
  unfold wL_item at h
  have F := E.1
  have C := F.1
  refine v_aload_n C (pc := 0) (i := 0) dL_item_0 rfl ?_
  refine v_iload_n C (pc := 1) (i := 1) dL_item_1 rfl ?_
  refine v_iload_n C (pc := 2) (i := 2) dL_item_2 rfl ?_
  refine v_iload_n C (pc := 3) (i := 3) dL_item_3 rfl ?_
  refine v_iload C (pc := 4) (i := 4) dL_item_4 rfl ?_
  refine v_iload C (pc := 6) (i := 5) dL_item_6 rfl ?_
  refine v_iload C (pc := 8) (i := 6) dL_item_8 rfl ?_
  obtain ⟨y2, hy2, hh⟩ := h
  skip
  obtain ⟨rfl, fsy2, hfy2⟩ := hC_inv hy2
  have h := hh
  clear hh
  refine v_xV F (pc := 10) (ci := 4) [.int a1, .int a2, .int a3, .int a4, .int a5, .int a6] 6 (cX4_item_met (kl κ) F.2.2.2.1 (kG κ) _ h) hfy2 rfl (good_l gL_item_X4_item) rfl hdX4_item rfl rfl rfl (by rw [hR]; exact ⟨Nat.le_of_ble_eq_true rfl, Nat.le_of_ble_eq_true rfl⟩) (by rw [hR]; decide) (Nat.le_of_ble_eq_true rfl) rfl dL_item_10 (fun Ex M9 h => ?_) (hk_i fun M3 x1 h => ?_)
  · by_cases hE0 : Ex = "java/lang/IndexOutOfBoundsException"
    · rw [if_pos hE0] at h
      subst hE0
      refine v_catch F (pc := 10) ht (name := "java/lang/IndexOutOfBoundsException") [] ⟨0, 13, 14, 23⟩ [⟨0, 13, 19, 13⟩, ⟨0, 13, 24, 16⟩] rfl (fun z hz => absurd hz List.not_mem_nil) (by decide) (by decide) (List.mem_append_right _ (List.mem_of_getElem? (i := 2) rfl)) (by decide) (fun q9 => ?_)
      refine v_astore C (pc := 14) (i := 7) (lv' := [some (va_rf (some y2)), some (.int a1), some (.int a2), some (.int a3), some (.int a4), some (.int a5), some (.int a6), some (va_rf (some q9))]) dL_item_14 rfl (lw_bi (j := 6) rfl) rfl ?_
      refine v_ldc C (pc := 16) (v := -2000000001) (List.mem_append_left _ (List.mem_cons_of_mem _ (List.mem_append_left _ (List.mem_append_left _ (List.mem_append_left _ (List.mem_append_left _ (List.mem_append_left _ (List.mem_append_left _ (List.mem_append_left _ (List.mem_of_getElem? (i := 1) rfl)))))))))) dL_item_16 ?_
      exact v_eret (pc := 18) E rfl (nar_int _) ⟨_, rfl, h⟩ (by decide) (by decide) dL_item_18
    · rw [if_neg hE0] at h
      by_cases hE1 : Ex = "java/lang/IllegalArgumentException"
      · rw [if_pos hE1] at h
        subst hE1
        refine v_catch F (pc := 10) ht (name := "java/lang/IllegalArgumentException") [⟨0, 13, 14, 23⟩] ⟨0, 13, 19, 13⟩ [⟨0, 13, 24, 16⟩] rfl (List.forall_mem_cons.mpr ⟨Or.inr ⟨by decide, "java/lang/IndexOutOfBoundsException", List.mem_append_right _ (List.mem_of_getElem? (i := 2) rfl), by decide⟩, fun z hz => absurd hz List.not_mem_nil⟩) (by decide) (by decide) (List.mem_append_right _ (List.mem_of_getElem? (i := 0) rfl)) (by decide) (fun q9 => ?_)
        refine v_astore C (pc := 19) (i := 7) (lv' := [some (va_rf (some y2)), some (.int a1), some (.int a2), some (.int a3), some (.int a4), some (.int a5), some (.int a6), some (va_rf (some q9))]) dL_item_19 rfl (lw_bi (j := 6) rfl) rfl ?_
        refine v_ldc C (pc := 21) (v := -2000000002) (List.mem_append_left _ (List.mem_cons_of_mem _ (List.mem_append_left _ (List.mem_append_left _ (List.mem_append_left _ (List.mem_append_left _ (List.mem_append_left _ (List.mem_append_left _ (List.mem_append_left _ (List.mem_of_getElem? (i := 2) rfl)))))))))) dL_item_21 ?_
        exact v_eret (pc := 23) E rfl (nar_int _) ⟨_, rfl, h⟩ (by decide) (by decide) dL_item_23
      · rw [if_neg hE1] at h
        by_cases hE2 : Ex = "java/lang/IllegalStateException"
        · rw [if_pos hE2] at h
          subst hE2
          refine v_catch F (pc := 10) ht (name := "java/lang/IllegalStateException") [⟨0, 13, 14, 23⟩, ⟨0, 13, 19, 13⟩] ⟨0, 13, 24, 16⟩ [] rfl (List.forall_mem_cons.mpr ⟨Or.inr ⟨by decide, "java/lang/IndexOutOfBoundsException", List.mem_append_right _ (List.mem_of_getElem? (i := 2) rfl), by decide⟩, List.forall_mem_cons.mpr ⟨Or.inr ⟨by decide, "java/lang/IllegalArgumentException", List.mem_append_right _ (List.mem_of_getElem? (i := 0) rfl), by decide⟩, fun z hz => absurd hz List.not_mem_nil⟩⟩) (by decide) (by decide) (List.mem_append_right _ (List.mem_of_getElem? (i := 1) rfl)) (by decide) (fun q9 => ?_)
          refine v_astore C (pc := 24) (i := 7) (lv' := [some (va_rf (some y2)), some (.int a1), some (.int a2), some (.int a3), some (.int a4), some (.int a5), some (.int a6), some (va_rf (some q9))]) dL_item_24 rfl (lw_bi (j := 6) rfl) rfl ?_
          refine v_ldc C (pc := 26) (v := -2000000003) (List.mem_append_left _ (List.mem_cons_of_mem _ (List.mem_append_left _ (List.mem_append_left _ (List.mem_append_left _ (List.mem_append_left _ (List.mem_append_left _ (List.mem_append_left _ (List.mem_append_left _ (List.mem_of_getElem? (i := 3) rfl)))))))))) dL_item_26 ?_
          exact v_eret (pc := 28) E rfl (nar_int _) ⟨_, rfl, h⟩ (by decide) (by decide) dL_item_28
        · rw [if_neg hE2] at h
          exact h.elim
  · exact v_eret (pc := 13) E rfl (nar_int _) ⟨_, rfl, h⟩ (by decide) (by decide) dL_item_13
/-! L_admit -/
abbrev rmL_admit : Room := { frames := 7, cells := 1, slots := 6, locals := 112 }
def vsL_admit : List Cond := wsL_admit ++ hL3
def wL_admit (M : hM) (a0 : Option Nat) (a1 : Int32) (Q : hM → Int32 → Prop) : Prop :=
  ∃ y2, hC M 4 a0 = some y2 ∧
  wX4_admit M y2 a1 (fun M3 =>
    Q M3 0) (fun Ex M9 => if Ex = "java/lang/IndexOutOfBoundsException" then (
      Q M9 (-2000000001)) else if Ex = "java/lang/IllegalStateException" then (
        Q M9 (-2000000003)) else False)
set_option maxRecDepth 100000 in
set_option maxHeartbeats 4000000 in
theorem cL_admit_met (l : Launch) (hfl : l.stackTraces = false) (G : hG) (M : hM) {a0 : Option Nat} {a1 : Int32} {Q : hM → Int32 → Prop} (h : wL_admit M a0 a1 Q) : hEMet l yL_admit vsL_admit rmL_admit [va_rf a0, .int a1] G M (hQi Q) (fun _ _ => False) 1 6 := by
  refine he_entryH (hh := [(0, 6, 7, 23), (0, 6, 11, 16)]) (own := RL) (cc := cL_admit) (maxL := 3) (ret := (some .int)) (lv := [some (va_rf a0), some (.int a1), none]) hfl (by decide) rfl rfl (hcc (rf_cat _) (hcc rfl hc0)) (Nat.le_of_ble_eq_true rfl) rfl (fun κ sz hG hl hR E ht => ?_)
  subst hG; subst hl
  unfold wL_admit at h
  have F := E.1
  have C := F.1
  refine v_aload_n C (pc := 0) (i := 0) dL_admit_0 rfl ?_
  refine v_iload_n C (pc := 1) (i := 1) dL_admit_1 rfl ?_
  obtain ⟨y2, hy2, hh⟩ := h
  skip
  obtain ⟨rfl, fsy2, hfy2⟩ := hC_inv hy2
  have h := hh
  clear hh
  refine v_xV F (pc := 2) (ci := 4) [.int a1] 1 (cX4_admit_met (kl κ) F.2.2.2.1 (kG κ) _ h) hfy2 rfl (good_l gL_admit_X4_admit) rfl hdX4_admit rfl rfl rfl (by rw [hR]; exact ⟨Nat.le_of_ble_eq_true rfl, Nat.le_of_ble_eq_true rfl⟩) (by rw [hR]; decide) (Nat.le_of_ble_eq_true rfl) rfl dL_admit_2 (fun Ex M9 h => ?_) (hk_v fun M3 h => ?_)
  · by_cases hE0 : Ex = "java/lang/IndexOutOfBoundsException"
    · rw [if_pos hE0] at h
      subst hE0
      refine v_catch F (pc := 2) ht (name := "java/lang/IndexOutOfBoundsException") [] ⟨0, 6, 7, 23⟩ [⟨0, 6, 11, 16⟩] rfl (fun z hz => absurd hz List.not_mem_nil) (by decide) (by decide) (List.mem_append_right _ (List.mem_of_getElem? (i := 2) rfl)) (by decide) (fun q9 => ?_)
      refine v_astore_n C (pc := 7) (i := 2) (lv' := [some (va_rf (some y2)), some (.int a1), some (va_rf (some q9))]) dL_admit_7 rfl (lw_bi (j := 1) rfl) rfl ?_
      refine v_ldc C (pc := 8) (v := -2000000001) (List.mem_append_left _ (List.mem_cons_of_mem _ (List.mem_append_left _ (List.mem_append_left _ (List.mem_append_left _ (List.mem_append_left _ (List.mem_of_getElem? (i := 1) rfl))))))) dL_admit_8 ?_
      exact v_eret (pc := 10) E rfl (nar_int _) ⟨_, rfl, h⟩ (by decide) (by decide) dL_admit_10
    · rw [if_neg hE0] at h
      by_cases hE1 : Ex = "java/lang/IllegalStateException"
      · rw [if_pos hE1] at h
        subst hE1
        refine v_catch F (pc := 2) ht (name := "java/lang/IllegalStateException") [⟨0, 6, 7, 23⟩] ⟨0, 6, 11, 16⟩ [] rfl (List.forall_mem_cons.mpr ⟨Or.inr ⟨by decide, "java/lang/IndexOutOfBoundsException", List.mem_append_right _ (List.mem_of_getElem? (i := 2) rfl), by decide⟩, fun z hz => absurd hz List.not_mem_nil⟩) (by decide) (by decide) (List.mem_append_right _ (List.mem_of_getElem? (i := 1) rfl)) (by decide) (fun q9 => ?_)
        refine v_astore_n C (pc := 11) (i := 2) (lv' := [some (va_rf (some y2)), some (.int a1), some (va_rf (some q9))]) dL_admit_11 rfl (lw_bi (j := 1) rfl) rfl ?_
        refine v_ldc C (pc := 12) (v := -2000000003) (List.mem_append_left _ (List.mem_cons_of_mem _ (List.mem_append_left _ (List.mem_append_left _ (List.mem_append_left _ (List.mem_append_left _ (List.mem_of_getElem? (i := 2) rfl))))))) dL_admit_12 ?_
        exact v_eret (pc := 14) E rfl (nar_int _) ⟨_, rfl, h⟩ (by decide) (by decide) dL_admit_14
      · rw [if_neg hE1] at h
        exact h.elim
  · refine v_iconst C (pc := 5) (v := 0) dL_admit_5 (by decide) ?_
    exact v_eret (pc := 6) E rfl (nar_int _) ⟨_, rfl, h⟩ (by decide) (by decide) dL_admit_6
/-! L_show -/
abbrev rmL_show : Room := { frames := 7, cells := 1, slots := 6, locals := 113 }
def vsL_show : List Cond := wsL_show ++ hL3
def wL_show (M : hM) (a0 : Option Nat) (a1 : Int32) (a2 : Int32) (Q : hM → Int32 → Prop) : Prop :=
  ∃ y2, hC M 4 a0 = some y2 ∧
  wX4_show M y2 a1 a2 (fun M3 x1 =>
    Q M3 x1) (fun Ex M9 => if Ex = "java/lang/IndexOutOfBoundsException" then (
      Q M9 (-2000000001)) else if Ex = "java/lang/IllegalStateException" then (
        Q M9 (-2000000003)) else False)
set_option maxRecDepth 100000 in
set_option maxHeartbeats 4000000 in
theorem cL_show_met (l : Launch) (hfl : l.stackTraces = false) (G : hG) (M : hM) {a0 : Option Nat} {a1 : Int32} {a2 : Int32} {Q : hM → Int32 → Prop} (h : wL_show M a0 a1 a2 Q) : hEMet l yL_show vsL_show rmL_show [va_rf a0, .int a1, .int a2] G M (hQi Q) (fun _ _ => False) 1 6 := by
  refine he_entryH (hh := [(0, 6, 7, 23), (0, 6, 11, 16)]) (own := RL) (cc := cL_show) (maxL := 4) (ret := (some .int)) (lv := [some (va_rf a0), some (.int a1), some (.int a2), none]) hfl (by decide) rfl rfl (hcc (rf_cat _) (hcc rfl (hcc rfl hc0))) (Nat.le_of_ble_eq_true rfl) rfl (fun κ sz hG hl hR E ht => ?_)
  subst hG; subst hl
  unfold wL_show at h
  have F := E.1
  have C := F.1
  refine v_aload_n C (pc := 0) (i := 0) dL_show_0 rfl ?_
  refine v_iload_n C (pc := 1) (i := 1) dL_show_1 rfl ?_
  refine v_iload_n C (pc := 2) (i := 2) dL_show_2 rfl ?_
  obtain ⟨y2, hy2, hh⟩ := h
  skip
  obtain ⟨rfl, fsy2, hfy2⟩ := hC_inv hy2
  have h := hh
  clear hh
  refine v_xV F (pc := 3) (ci := 4) [.int a1, .int a2] 2 (cX4_show_met (kl κ) F.2.2.2.1 (kG κ) _ h) hfy2 rfl (good_l gL_show_X4_show) rfl hdX4_show rfl rfl rfl (by rw [hR]; exact ⟨Nat.le_of_ble_eq_true rfl, Nat.le_of_ble_eq_true rfl⟩) (by rw [hR]; decide) (Nat.le_of_ble_eq_true rfl) rfl dL_show_3 (fun Ex M9 h => ?_) (hk_i fun M3 x1 h => ?_)
  · by_cases hE0 : Ex = "java/lang/IndexOutOfBoundsException"
    · rw [if_pos hE0] at h
      subst hE0
      refine v_catch F (pc := 3) ht (name := "java/lang/IndexOutOfBoundsException") [] ⟨0, 6, 7, 23⟩ [⟨0, 6, 11, 16⟩] rfl (fun z hz => absurd hz List.not_mem_nil) (by decide) (by decide) (List.mem_append_right _ (List.mem_of_getElem? (i := 2) rfl)) (by decide) (fun q9 => ?_)
      refine v_astore_n C (pc := 7) (i := 3) (lv' := [some (va_rf (some y2)), some (.int a1), some (.int a2), some (va_rf (some q9))]) dL_show_7 rfl (lw_bi (j := 2) rfl) rfl ?_
      refine v_ldc C (pc := 8) (v := -2000000001) (List.mem_append_left _ (List.mem_cons_of_mem _ (List.mem_append_left _ (List.mem_append_left _ (List.mem_append_left _ (List.mem_append_left _ (List.mem_append_left _ (List.mem_of_getElem? (i := 1) rfl)))))))) dL_show_8 ?_
      exact v_eret (pc := 10) E rfl (nar_int _) ⟨_, rfl, h⟩ (by decide) (by decide) dL_show_10
    · rw [if_neg hE0] at h
      by_cases hE1 : Ex = "java/lang/IllegalStateException"
      · rw [if_pos hE1] at h
        subst hE1
        refine v_catch F (pc := 3) ht (name := "java/lang/IllegalStateException") [⟨0, 6, 7, 23⟩] ⟨0, 6, 11, 16⟩ [] rfl (List.forall_mem_cons.mpr ⟨Or.inr ⟨by decide, "java/lang/IndexOutOfBoundsException", List.mem_append_right _ (List.mem_of_getElem? (i := 2) rfl), by decide⟩, fun z hz => absurd hz List.not_mem_nil⟩) (by decide) (by decide) (List.mem_append_right _ (List.mem_of_getElem? (i := 1) rfl)) (by decide) (fun q9 => ?_)
        refine v_astore_n C (pc := 11) (i := 3) (lv' := [some (va_rf (some y2)), some (.int a1), some (.int a2), some (va_rf (some q9))]) dL_show_11 rfl (lw_bi (j := 2) rfl) rfl ?_
        refine v_ldc C (pc := 12) (v := -2000000003) (List.mem_append_left _ (List.mem_cons_of_mem _ (List.mem_append_left _ (List.mem_append_left _ (List.mem_append_left _ (List.mem_append_left _ (List.mem_append_left _ (List.mem_of_getElem? (i := 2) rfl)))))))) dL_show_12 ?_
        exact v_eret (pc := 14) E rfl (nar_int _) ⟨_, rfl, h⟩ (by decide) (by decide) dL_show_14
      · rw [if_neg hE1] at h
        exact h.elim
  · exact v_eret (pc := 6) E rfl (nar_int _) ⟨_, rfl, h⟩ (by decide) (by decide) dL_show_6
/-! L_withhold -/
abbrev rmL_withhold : Room := { frames := 7, cells := 1, slots := 6, locals := 112 }
def vsL_withhold : List Cond := wsL_withhold ++ hL3
def wL_withhold (M : hM) (a0 : Option Nat) (a1 : Int32) (Q : hM → Int32 → Prop) : Prop :=
  ∃ y2, hC M 4 a0 = some y2 ∧
  wX4_withhold M y2 a1 (fun M3 =>
    Q M3 0) (fun Ex M9 => if Ex = "java/lang/IndexOutOfBoundsException" then (
      Q M9 (-2000000001)) else if Ex = "java/lang/IllegalStateException" then (
        Q M9 (-2000000003)) else False)
set_option maxRecDepth 100000 in
set_option maxHeartbeats 4000000 in
theorem cL_withhold_met (l : Launch) (hfl : l.stackTraces = false) (G : hG) (M : hM) {a0 : Option Nat} {a1 : Int32} {Q : hM → Int32 → Prop} (h : wL_withhold M a0 a1 Q) : hEMet l yL_withhold vsL_withhold rmL_withhold [va_rf a0, .int a1] G M (hQi Q) (fun _ _ => False) 1 6 := by
  refine he_entryH (hh := [(0, 6, 7, 23), (0, 6, 11, 16)]) (own := RL) (cc := cL_withhold) (maxL := 3) (ret := (some .int)) (lv := [some (va_rf a0), some (.int a1), none]) hfl (by decide) rfl rfl (hcc (rf_cat _) (hcc rfl hc0)) (Nat.le_of_ble_eq_true rfl) rfl (fun κ sz hG hl hR E ht => ?_)
  subst hG; subst hl
  unfold wL_withhold at h
  have F := E.1
  have C := F.1
  refine v_aload_n C (pc := 0) (i := 0) dL_withhold_0 rfl ?_
  refine v_iload_n C (pc := 1) (i := 1) dL_withhold_1 rfl ?_
  obtain ⟨y2, hy2, hh⟩ := h
  skip
  obtain ⟨rfl, fsy2, hfy2⟩ := hC_inv hy2
  have h := hh
  clear hh
  refine v_xV F (pc := 2) (ci := 4) [.int a1] 1 (cX4_withhold_met (kl κ) F.2.2.2.1 (kG κ) _ h) hfy2 rfl (good_l gL_withhold_X4_withhold) rfl hdX4_withhold rfl rfl rfl (by rw [hR]; exact ⟨Nat.le_of_ble_eq_true rfl, Nat.le_of_ble_eq_true rfl⟩) (by rw [hR]; decide) (Nat.le_of_ble_eq_true rfl) rfl dL_withhold_2 (fun Ex M9 h => ?_) (hk_v fun M3 h => ?_)
  · by_cases hE0 : Ex = "java/lang/IndexOutOfBoundsException"
    · rw [if_pos hE0] at h
      subst hE0
      refine v_catch F (pc := 2) ht (name := "java/lang/IndexOutOfBoundsException") [] ⟨0, 6, 7, 23⟩ [⟨0, 6, 11, 16⟩] rfl (fun z hz => absurd hz List.not_mem_nil) (by decide) (by decide) (List.mem_append_right _ (List.mem_of_getElem? (i := 2) rfl)) (by decide) (fun q9 => ?_)
      refine v_astore_n C (pc := 7) (i := 2) (lv' := [some (va_rf (some y2)), some (.int a1), some (va_rf (some q9))]) dL_withhold_7 rfl (lw_bi (j := 1) rfl) rfl ?_
      refine v_ldc C (pc := 8) (v := -2000000001) (List.mem_append_left _ (List.mem_cons_of_mem _ (List.mem_append_left _ (List.mem_append_left _ (List.mem_append_left _ (List.mem_append_left _ (List.mem_of_getElem? (i := 1) rfl))))))) dL_withhold_8 ?_
      exact v_eret (pc := 10) E rfl (nar_int _) ⟨_, rfl, h⟩ (by decide) (by decide) dL_withhold_10
    · rw [if_neg hE0] at h
      by_cases hE1 : Ex = "java/lang/IllegalStateException"
      · rw [if_pos hE1] at h
        subst hE1
        refine v_catch F (pc := 2) ht (name := "java/lang/IllegalStateException") [⟨0, 6, 7, 23⟩] ⟨0, 6, 11, 16⟩ [] rfl (List.forall_mem_cons.mpr ⟨Or.inr ⟨by decide, "java/lang/IndexOutOfBoundsException", List.mem_append_right _ (List.mem_of_getElem? (i := 2) rfl), by decide⟩, fun z hz => absurd hz List.not_mem_nil⟩) (by decide) (by decide) (List.mem_append_right _ (List.mem_of_getElem? (i := 1) rfl)) (by decide) (fun q9 => ?_)
        refine v_astore_n C (pc := 11) (i := 2) (lv' := [some (va_rf (some y2)), some (.int a1), some (va_rf (some q9))]) dL_withhold_11 rfl (lw_bi (j := 1) rfl) rfl ?_
        refine v_ldc C (pc := 12) (v := -2000000003) (List.mem_append_left _ (List.mem_cons_of_mem _ (List.mem_append_left _ (List.mem_append_left _ (List.mem_append_left _ (List.mem_append_left _ (List.mem_of_getElem? (i := 2) rfl))))))) dL_withhold_12 ?_
        exact v_eret (pc := 14) E rfl (nar_int _) ⟨_, rfl, h⟩ (by decide) (by decide) dL_withhold_14
      · rw [if_neg hE1] at h
        exact h.elim
  · refine v_iconst C (pc := 5) (v := 0) dL_withhold_5 (by decide) ?_
    exact v_eret (pc := 6) E rfl (nar_int _) ⟨_, rfl, h⟩ (by decide) (by decide) dL_withhold_6
/-! L_charge -/
abbrev rmL_charge : Room := { frames := 8, cells := 3, slots := 18, locals := 167 }
def vsL_charge : List Cond := wsL_charge ++ hL3
def wL_charge (M : hM) (a0 : Option Nat) (a1 : Int32) (a2 : Int32) (a3 : Int32) (Q : hM → Int32 → Prop) : Prop :=
  ∃ y2, hC M 4 a0 = some y2 ∧
  wX4_charge M y2 a1 a2 a3 (fun M3 x1 =>
    Q M3 x1) (fun Ex M9 => if Ex = "java/lang/IndexOutOfBoundsException" then (
      Q M9 (-2000000001)) else if Ex = "java/lang/IllegalArgumentException" then (
        Q M9 (-2000000002)) else if Ex = "java/lang/IllegalStateException" then (
          Q M9 (-2000000003)) else False)
set_option maxRecDepth 100000 in
set_option maxHeartbeats 4000000 in
theorem cL_charge_met (l : Launch) (hfl : l.stackTraces = false) (G : hG) (M : hM) {a0 : Option Nat} {a1 : Int32} {a2 : Int32} {a3 : Int32} {Q : hM → Int32 → Prop} (h : wL_charge M a0 a1 a2 a3 Q) : hEMet l yL_charge vsL_charge rmL_charge [va_rf a0, .int a1, .int a2, .int a3] G M (hQi Q) (fun _ _ => False) 3 18 := by
  refine he_entryH (hh := [(0, 7, 8, 23), (0, 7, 13, 13), (0, 7, 18, 16)]) (own := RL) (cc := cL_charge) (maxL := 5) (ret := (some .int)) (lv := [some (va_rf a0), some (.int a1), some (.int a2), some (.int a3), none]) hfl (by decide) rfl rfl (hcc (rf_cat _) (hcc rfl (hcc rfl (hcc rfl hc0)))) (Nat.le_of_ble_eq_true rfl) rfl (fun κ sz hG hl hR E ht => ?_)
  subst hG; subst hl
  unfold wL_charge at h
  have F := E.1
  have C := F.1
  refine v_aload_n C (pc := 0) (i := 0) dL_charge_0 rfl ?_
  refine v_iload_n C (pc := 1) (i := 1) dL_charge_1 rfl ?_
  refine v_iload_n C (pc := 2) (i := 2) dL_charge_2 rfl ?_
  refine v_iload_n C (pc := 3) (i := 3) dL_charge_3 rfl ?_
  obtain ⟨y2, hy2, hh⟩ := h
  skip
  obtain ⟨rfl, fsy2, hfy2⟩ := hC_inv hy2
  have h := hh
  clear hh
  refine v_xV F (pc := 4) (ci := 4) [.int a1, .int a2, .int a3] 3 (cX4_charge_met (kl κ) F.2.2.2.1 (kG κ) _ h) hfy2 rfl (good_l gL_charge_X4_charge) rfl hdX4_charge rfl rfl rfl (by rw [hR]; exact ⟨Nat.le_of_ble_eq_true rfl, Nat.le_of_ble_eq_true rfl⟩) (by rw [hR]; decide) (Nat.le_of_ble_eq_true rfl) rfl dL_charge_4 (fun Ex M9 h => ?_) (hk_i fun M3 x1 h => ?_)
  · by_cases hE0 : Ex = "java/lang/IndexOutOfBoundsException"
    · rw [if_pos hE0] at h
      subst hE0
      refine v_catch F (pc := 4) ht (name := "java/lang/IndexOutOfBoundsException") [] ⟨0, 7, 8, 23⟩ [⟨0, 7, 13, 13⟩, ⟨0, 7, 18, 16⟩] rfl (fun z hz => absurd hz List.not_mem_nil) (by decide) (by decide) (List.mem_append_right _ (List.mem_of_getElem? (i := 2) rfl)) (by decide) (fun q9 => ?_)
      refine v_astore C (pc := 8) (i := 4) (lv' := [some (va_rf (some y2)), some (.int a1), some (.int a2), some (.int a3), some (va_rf (some q9))]) dL_charge_8 rfl (lw_bi (j := 3) rfl) rfl ?_
      refine v_ldc C (pc := 10) (v := -2000000001) (List.mem_append_left _ (List.mem_cons_of_mem _ (List.mem_append_left _ (List.mem_append_left _ (List.mem_append_left _ (List.mem_append_left _ (List.mem_append_left _ (List.mem_append_left _ (List.mem_append_left _ (List.mem_append_left _ (List.mem_append_left _ (List.mem_of_getElem? (i := 1) rfl)))))))))))) dL_charge_10 ?_
      exact v_eret (pc := 12) E rfl (nar_int _) ⟨_, rfl, h⟩ (by decide) (by decide) dL_charge_12
    · rw [if_neg hE0] at h
      by_cases hE1 : Ex = "java/lang/IllegalArgumentException"
      · rw [if_pos hE1] at h
        subst hE1
        refine v_catch F (pc := 4) ht (name := "java/lang/IllegalArgumentException") [⟨0, 7, 8, 23⟩] ⟨0, 7, 13, 13⟩ [⟨0, 7, 18, 16⟩] rfl (List.forall_mem_cons.mpr ⟨Or.inr ⟨by decide, "java/lang/IndexOutOfBoundsException", List.mem_append_right _ (List.mem_of_getElem? (i := 2) rfl), by decide⟩, fun z hz => absurd hz List.not_mem_nil⟩) (by decide) (by decide) (List.mem_append_right _ (List.mem_of_getElem? (i := 0) rfl)) (by decide) (fun q9 => ?_)
        refine v_astore C (pc := 13) (i := 4) (lv' := [some (va_rf (some y2)), some (.int a1), some (.int a2), some (.int a3), some (va_rf (some q9))]) dL_charge_13 rfl (lw_bi (j := 3) rfl) rfl ?_
        refine v_ldc C (pc := 15) (v := -2000000002) (List.mem_append_left _ (List.mem_cons_of_mem _ (List.mem_append_left _ (List.mem_append_left _ (List.mem_append_left _ (List.mem_append_left _ (List.mem_append_left _ (List.mem_append_left _ (List.mem_append_left _ (List.mem_append_left _ (List.mem_append_left _ (List.mem_of_getElem? (i := 2) rfl)))))))))))) dL_charge_15 ?_
        exact v_eret (pc := 17) E rfl (nar_int _) ⟨_, rfl, h⟩ (by decide) (by decide) dL_charge_17
      · rw [if_neg hE1] at h
        by_cases hE2 : Ex = "java/lang/IllegalStateException"
        · rw [if_pos hE2] at h
          subst hE2
          refine v_catch F (pc := 4) ht (name := "java/lang/IllegalStateException") [⟨0, 7, 8, 23⟩, ⟨0, 7, 13, 13⟩] ⟨0, 7, 18, 16⟩ [] rfl (List.forall_mem_cons.mpr ⟨Or.inr ⟨by decide, "java/lang/IndexOutOfBoundsException", List.mem_append_right _ (List.mem_of_getElem? (i := 2) rfl), by decide⟩, List.forall_mem_cons.mpr ⟨Or.inr ⟨by decide, "java/lang/IllegalArgumentException", List.mem_append_right _ (List.mem_of_getElem? (i := 0) rfl), by decide⟩, fun z hz => absurd hz List.not_mem_nil⟩⟩) (by decide) (by decide) (List.mem_append_right _ (List.mem_of_getElem? (i := 1) rfl)) (by decide) (fun q9 => ?_)
          refine v_astore C (pc := 18) (i := 4) (lv' := [some (va_rf (some y2)), some (.int a1), some (.int a2), some (.int a3), some (va_rf (some q9))]) dL_charge_18 rfl (lw_bi (j := 3) rfl) rfl ?_
          refine v_ldc C (pc := 20) (v := -2000000003) (List.mem_append_left _ (List.mem_cons_of_mem _ (List.mem_append_left _ (List.mem_append_left _ (List.mem_append_left _ (List.mem_append_left _ (List.mem_append_left _ (List.mem_append_left _ (List.mem_append_left _ (List.mem_append_left _ (List.mem_append_left _ (List.mem_of_getElem? (i := 3) rfl)))))))))))) dL_charge_20 ?_
          exact v_eret (pc := 22) E rfl (nar_int _) ⟨_, rfl, h⟩ (by decide) (by decide) dL_charge_22
        · rw [if_neg hE2] at h
          exact h.elim
  · exact v_eret (pc := 7) E rfl (nar_int _) ⟨_, rfl, h⟩ (by decide) (by decide) dL_charge_7
/-! L_drop -/
abbrev rmL_drop : Room := { frames := 8, cells := 2, slots := 12, locals := 137 }
def vsL_drop : List Cond := wsL_drop ++ hL3
def wL_drop (M : hM) (a0 : Option Nat) (a1 : Int32) (a2 : Int32) (Q : hM → Int32 → Prop) : Prop :=
  ∃ y2, hC M 4 a0 = some y2 ∧
  wX4_drop M y2 a1 a2 (fun M3 =>
    Q M3 0) (fun Ex M9 => if Ex = "java/lang/IndexOutOfBoundsException" then (
      Q M9 (-2000000001)) else if Ex = "java/lang/IllegalStateException" then (
        Q M9 (-2000000003)) else False)
set_option maxRecDepth 100000 in
set_option maxHeartbeats 4000000 in
theorem cL_drop_met (l : Launch) (hfl : l.stackTraces = false) (G : hG) (M : hM) {a0 : Option Nat} {a1 : Int32} {a2 : Int32} {Q : hM → Int32 → Prop} (h : wL_drop M a0 a1 a2 Q) : hEMet l yL_drop vsL_drop rmL_drop [va_rf a0, .int a1, .int a2] G M (hQi Q) (fun _ _ => False) 2 12 := by
  refine he_entryH (hh := [(0, 7, 8, 23), (0, 7, 12, 16)]) (own := RL) (cc := cL_drop) (maxL := 4) (ret := (some .int)) (lv := [some (va_rf a0), some (.int a1), some (.int a2), none]) hfl (by decide) rfl rfl (hcc (rf_cat _) (hcc rfl (hcc rfl hc0))) (Nat.le_of_ble_eq_true rfl) rfl (fun κ sz hG hl hR E ht => ?_)
  subst hG; subst hl
  unfold wL_drop at h
  have F := E.1
  have C := F.1
  refine v_aload_n C (pc := 0) (i := 0) dL_drop_0 rfl ?_
  refine v_iload_n C (pc := 1) (i := 1) dL_drop_1 rfl ?_
  refine v_iload_n C (pc := 2) (i := 2) dL_drop_2 rfl ?_
  obtain ⟨y2, hy2, hh⟩ := h
  skip
  obtain ⟨rfl, fsy2, hfy2⟩ := hC_inv hy2
  have h := hh
  clear hh
  refine v_xV F (pc := 3) (ci := 4) [.int a1, .int a2] 2 (cX4_drop_met (kl κ) F.2.2.2.1 (kG κ) _ h) hfy2 rfl (good_l gL_drop_X4_drop) rfl hdX4_drop rfl rfl rfl (by rw [hR]; exact ⟨Nat.le_of_ble_eq_true rfl, Nat.le_of_ble_eq_true rfl⟩) (by rw [hR]; decide) (Nat.le_of_ble_eq_true rfl) rfl dL_drop_3 (fun Ex M9 h => ?_) (hk_v fun M3 h => ?_)
  · by_cases hE0 : Ex = "java/lang/IndexOutOfBoundsException"
    · rw [if_pos hE0] at h
      subst hE0
      refine v_catch F (pc := 3) ht (name := "java/lang/IndexOutOfBoundsException") [] ⟨0, 7, 8, 23⟩ [⟨0, 7, 12, 16⟩] rfl (fun z hz => absurd hz List.not_mem_nil) (by decide) (by decide) (List.mem_append_right _ (List.mem_of_getElem? (i := 2) rfl)) (by decide) (fun q9 => ?_)
      refine v_astore_n C (pc := 8) (i := 3) (lv' := [some (va_rf (some y2)), some (.int a1), some (.int a2), some (va_rf (some q9))]) dL_drop_8 rfl (lw_bi (j := 2) rfl) rfl ?_
      refine v_ldc C (pc := 9) (v := -2000000001) (List.mem_append_left _ (List.mem_cons_of_mem _ (List.mem_append_left _ (List.mem_append_left _ (List.mem_append_left _ (List.mem_append_left _ (List.mem_append_left _ (List.mem_append_left _ (List.mem_of_getElem? (i := 1) rfl))))))))) dL_drop_9 ?_
      exact v_eret (pc := 11) E rfl (nar_int _) ⟨_, rfl, h⟩ (by decide) (by decide) dL_drop_11
    · rw [if_neg hE0] at h
      by_cases hE1 : Ex = "java/lang/IllegalStateException"
      · rw [if_pos hE1] at h
        subst hE1
        refine v_catch F (pc := 3) ht (name := "java/lang/IllegalStateException") [⟨0, 7, 8, 23⟩] ⟨0, 7, 12, 16⟩ [] rfl (List.forall_mem_cons.mpr ⟨Or.inr ⟨by decide, "java/lang/IndexOutOfBoundsException", List.mem_append_right _ (List.mem_of_getElem? (i := 2) rfl), by decide⟩, fun z hz => absurd hz List.not_mem_nil⟩) (by decide) (by decide) (List.mem_append_right _ (List.mem_of_getElem? (i := 1) rfl)) (by decide) (fun q9 => ?_)
        refine v_astore_n C (pc := 12) (i := 3) (lv' := [some (va_rf (some y2)), some (.int a1), some (.int a2), some (va_rf (some q9))]) dL_drop_12 rfl (lw_bi (j := 2) rfl) rfl ?_
        refine v_ldc C (pc := 13) (v := -2000000003) (List.mem_append_left _ (List.mem_cons_of_mem _ (List.mem_append_left _ (List.mem_append_left _ (List.mem_append_left _ (List.mem_append_left _ (List.mem_append_left _ (List.mem_append_left _ (List.mem_of_getElem? (i := 2) rfl))))))))) dL_drop_13 ?_
        exact v_eret (pc := 15) E rfl (nar_int _) ⟨_, rfl, h⟩ (by decide) (by decide) dL_drop_15
      · rw [if_neg hE1] at h
        exact h.elim
  · refine v_iconst C (pc := 6) (v := 0) dL_drop_6 (by decide) ?_
    exact v_eret (pc := 7) E rfl (nar_int _) ⟨_, rfl, h⟩ (by decide) (by decide) dL_drop_7
/-! L_review -/
abbrev rmL_review : Room := { frames := 8, cells := 2, slots := 12, locals := 166 }
def vsL_review : List Cond := wsL_review ++ hL3
def wL_review (M : hM) (a0 : Option Nat) (a1 : Int32) (a2 : Int32) (Q : hM → Int32 → Prop) : Prop :=
  ∃ y2, hC M 4 a0 = some y2 ∧
  wX4_review M y2 a1 a2 (fun M3 x1 =>
    if (x1 : Int32) = 0 then (
      Q M3 0
    ) else (
      Q M3 1
    )) (fun Ex M9 => if Ex = "java/lang/IndexOutOfBoundsException" then (
      Q M9 (-2000000001)) else if Ex = "java/lang/IllegalStateException" then (
        Q M9 (-2000000003)) else False)
set_option maxRecDepth 100000 in
set_option maxHeartbeats 4000000 in
theorem cL_review_met (l : Launch) (hfl : l.stackTraces = false) (G : hG) (M : hM) {a0 : Option Nat} {a1 : Int32} {a2 : Int32} {Q : hM → Int32 → Prop} (h : wL_review M a0 a1 a2 Q) : hEMet l yL_review vsL_review rmL_review [va_rf a0, .int a1, .int a2] G M (hQi Q) (fun _ _ => False) 2 12 := by
  refine he_entryH (hh := [(0, 14, 15, 23), (0, 14, 19, 16)]) (own := RL) (cc := cL_review) (maxL := 4) (ret := (some .int)) (lv := [some (va_rf a0), some (.int a1), some (.int a2), none]) hfl (by decide) rfl rfl (hcc (rf_cat _) (hcc rfl (hcc rfl hc0))) (Nat.le_of_ble_eq_true rfl) rfl (fun κ sz hG hl hR E ht => ?_)
  subst hG; subst hl
  unfold wL_review at h
  have F := E.1
  have C := F.1
  refine v_aload_n C (pc := 0) (i := 0) dL_review_0 rfl ?_
  refine v_iload_n C (pc := 1) (i := 1) dL_review_1 rfl ?_
  refine v_iload_n C (pc := 2) (i := 2) dL_review_2 rfl ?_
  obtain ⟨y2, hy2, hh⟩ := h
  skip
  obtain ⟨rfl, fsy2, hfy2⟩ := hC_inv hy2
  have h := hh
  clear hh
  refine v_xV F (pc := 3) (ci := 4) [.int a1, .int a2] 2 (cX4_review_met (kl κ) F.2.2.2.1 (kG κ) _ h) hfy2 rfl (good_l gL_review_X4_review) rfl hdX4_review rfl rfl rfl (by rw [hR]; exact ⟨Nat.le_of_ble_eq_true rfl, Nat.le_of_ble_eq_true rfl⟩) (by rw [hR]; decide) (Nat.le_of_ble_eq_true rfl) rfl dL_review_3 (fun Ex M9 h => ?_) (hk_i fun M3 x1 h => ?_)
  · by_cases hE0 : Ex = "java/lang/IndexOutOfBoundsException"
    · rw [if_pos hE0] at h
      subst hE0
      refine v_catch F (pc := 3) ht (name := "java/lang/IndexOutOfBoundsException") [] ⟨0, 14, 15, 23⟩ [⟨0, 14, 19, 16⟩] rfl (fun z hz => absurd hz List.not_mem_nil) (by decide) (by decide) (List.mem_append_right _ (List.mem_of_getElem? (i := 2) rfl)) (by decide) (fun q9 => ?_)
      refine v_astore_n C (pc := 15) (i := 3) (lv' := [some (va_rf (some y2)), some (.int a1), some (.int a2), some (va_rf (some q9))]) dL_review_15 rfl (lw_bi (j := 2) rfl) rfl ?_
      refine v_ldc C (pc := 16) (v := -2000000001) (List.mem_append_left _ (List.mem_cons_of_mem _ (List.mem_append_left _ (List.mem_append_left _ (List.mem_append_left _ (List.mem_append_left _ (List.mem_append_left _ (List.mem_append_left _ (List.mem_append_left _ (List.mem_append_left _ (List.mem_of_getElem? (i := 1) rfl))))))))))) dL_review_16 ?_
      exact v_eret (pc := 18) E rfl (nar_int _) ⟨_, rfl, h⟩ (by decide) (by decide) dL_review_18
    · rw [if_neg hE0] at h
      by_cases hE1 : Ex = "java/lang/IllegalStateException"
      · rw [if_pos hE1] at h
        subst hE1
        refine v_catch F (pc := 3) ht (name := "java/lang/IllegalStateException") [⟨0, 14, 15, 23⟩] ⟨0, 14, 19, 16⟩ [] rfl (List.forall_mem_cons.mpr ⟨Or.inr ⟨by decide, "java/lang/IndexOutOfBoundsException", List.mem_append_right _ (List.mem_of_getElem? (i := 2) rfl), by decide⟩, fun z hz => absurd hz List.not_mem_nil⟩) (by decide) (by decide) (List.mem_append_right _ (List.mem_of_getElem? (i := 1) rfl)) (by decide) (fun q9 => ?_)
        refine v_astore_n C (pc := 19) (i := 3) (lv' := [some (va_rf (some y2)), some (.int a1), some (.int a2), some (va_rf (some q9))]) dL_review_19 rfl (lw_bi (j := 2) rfl) rfl ?_
        refine v_ldc C (pc := 20) (v := -2000000003) (List.mem_append_left _ (List.mem_cons_of_mem _ (List.mem_append_left _ (List.mem_append_left _ (List.mem_append_left _ (List.mem_append_left _ (List.mem_append_left _ (List.mem_append_left _ (List.mem_append_left _ (List.mem_append_left _ (List.mem_of_getElem? (i := 2) rfl))))))))))) dL_review_20 ?_
        exact v_eret (pc := 22) E rfl (nar_int _) ⟨_, rfl, h⟩ (by decide) (by decide) dL_review_22
      · rw [if_neg hE1] at h
        exact h.elim
  · refine v_if_eq C (pc := 6) (tgt := 13) dL_review_6 (by decide) (fun c4 => ?_) (fun c4 => ?_)
    · rw [if_pos c4] at h
      refine v_iconst C (pc := 13) (v := 0) dL_review_13 (by decide) ?_
      exact v_eret (pc := 14) E rfl (nar_int _) ⟨_, rfl, h⟩ (by decide) (by decide) dL_review_14
    · rw [if_neg c4] at h
      refine v_iconst C (pc := 9) (v := 1) dL_review_9 (by decide) ?_
      refine v_goto C (pc := 10) (tgt := 14) dL_review_10 (by decide) ?_
      exact v_eret (pc := 14) E rfl (nar_int _) ⟨_, rfl, h⟩ (by decide) (by decide) dL_review_14
/-! L_trial -/
abbrev rmL_trial : Room := { frames := 8, cells := 2, slots := 12, locals := 143 }
def vsL_trial : List Cond := wsL_trial ++ hL3
def wL_trial (M : hM) (a0 : Option Nat) (a1 : Int32) (a2 : Int32) (Q : hM → Int32 → Prop) : Prop :=
  ∃ y2, hC M 4 a0 = some y2 ∧
  wX4_trial M y2 a1 a2 (fun M3 x1 =>
    Q M3 x1) (fun Ex M9 => if Ex = "java/lang/IndexOutOfBoundsException" then (
      Q M9 (-2000000001)) else if Ex = "java/lang/IllegalStateException" then (
        Q M9 (-2000000003)) else False)
set_option maxRecDepth 100000 in
set_option maxHeartbeats 4000000 in
theorem cL_trial_met (l : Launch) (hfl : l.stackTraces = false) (G : hG) (M : hM) {a0 : Option Nat} {a1 : Int32} {a2 : Int32} {Q : hM → Int32 → Prop} (h : wL_trial M a0 a1 a2 Q) : hEMet l yL_trial vsL_trial rmL_trial [va_rf a0, .int a1, .int a2] G M (hQi Q) (fun _ _ => False) 2 12 := by
  refine he_entryH (hh := [(0, 6, 7, 23), (0, 6, 11, 16)]) (own := RL) (cc := cL_trial) (maxL := 4) (ret := (some .int)) (lv := [some (va_rf a0), some (.int a1), some (.int a2), none]) hfl (by decide) rfl rfl (hcc (rf_cat _) (hcc rfl (hcc rfl hc0))) (Nat.le_of_ble_eq_true rfl) rfl (fun κ sz hG hl hR E ht => ?_)
  subst hG; subst hl
  unfold wL_trial at h
  have F := E.1
  have C := F.1
  refine v_aload_n C (pc := 0) (i := 0) dL_trial_0 rfl ?_
  refine v_iload_n C (pc := 1) (i := 1) dL_trial_1 rfl ?_
  refine v_iload_n C (pc := 2) (i := 2) dL_trial_2 rfl ?_
  obtain ⟨y2, hy2, hh⟩ := h
  skip
  obtain ⟨rfl, fsy2, hfy2⟩ := hC_inv hy2
  have h := hh
  clear hh
  refine v_xV F (pc := 3) (ci := 4) [.int a1, .int a2] 2 (cX4_trial_met (kl κ) F.2.2.2.1 (kG κ) _ h) hfy2 rfl (good_l gL_trial_X4_trial) rfl hdX4_trial rfl rfl rfl (by rw [hR]; exact ⟨Nat.le_of_ble_eq_true rfl, Nat.le_of_ble_eq_true rfl⟩) (by rw [hR]; decide) (Nat.le_of_ble_eq_true rfl) rfl dL_trial_3 (fun Ex M9 h => ?_) (hk_i fun M3 x1 h => ?_)
  · by_cases hE0 : Ex = "java/lang/IndexOutOfBoundsException"
    · rw [if_pos hE0] at h
      subst hE0
      refine v_catch F (pc := 3) ht (name := "java/lang/IndexOutOfBoundsException") [] ⟨0, 6, 7, 23⟩ [⟨0, 6, 11, 16⟩] rfl (fun z hz => absurd hz List.not_mem_nil) (by decide) (by decide) (List.mem_append_right _ (List.mem_of_getElem? (i := 2) rfl)) (by decide) (fun q9 => ?_)
      refine v_astore_n C (pc := 7) (i := 3) (lv' := [some (va_rf (some y2)), some (.int a1), some (.int a2), some (va_rf (some q9))]) dL_trial_7 rfl (lw_bi (j := 2) rfl) rfl ?_
      refine v_ldc C (pc := 8) (v := -2000000001) (List.mem_append_left _ (List.mem_cons_of_mem _ (List.mem_append_left _ (List.mem_append_left _ (List.mem_append_left _ (List.mem_append_left _ (List.mem_append_left _ (List.mem_append_left _ (List.mem_append_left _ (List.mem_append_left _ (List.mem_of_getElem? (i := 1) rfl))))))))))) dL_trial_8 ?_
      exact v_eret (pc := 10) E rfl (nar_int _) ⟨_, rfl, h⟩ (by decide) (by decide) dL_trial_10
    · rw [if_neg hE0] at h
      by_cases hE1 : Ex = "java/lang/IllegalStateException"
      · rw [if_pos hE1] at h
        subst hE1
        refine v_catch F (pc := 3) ht (name := "java/lang/IllegalStateException") [⟨0, 6, 7, 23⟩] ⟨0, 6, 11, 16⟩ [] rfl (List.forall_mem_cons.mpr ⟨Or.inr ⟨by decide, "java/lang/IndexOutOfBoundsException", List.mem_append_right _ (List.mem_of_getElem? (i := 2) rfl), by decide⟩, fun z hz => absurd hz List.not_mem_nil⟩) (by decide) (by decide) (List.mem_append_right _ (List.mem_of_getElem? (i := 1) rfl)) (by decide) (fun q9 => ?_)
        refine v_astore_n C (pc := 11) (i := 3) (lv' := [some (va_rf (some y2)), some (.int a1), some (.int a2), some (va_rf (some q9))]) dL_trial_11 rfl (lw_bi (j := 2) rfl) rfl ?_
        refine v_ldc C (pc := 12) (v := -2000000003) (List.mem_append_left _ (List.mem_cons_of_mem _ (List.mem_append_left _ (List.mem_append_left _ (List.mem_append_left _ (List.mem_append_left _ (List.mem_append_left _ (List.mem_append_left _ (List.mem_append_left _ (List.mem_append_left _ (List.mem_of_getElem? (i := 2) rfl))))))))))) dL_trial_12 ?_
        exact v_eret (pc := 14) E rfl (nar_int _) ⟨_, rfl, h⟩ (by decide) (by decide) dL_trial_14
      · rw [if_neg hE1] at h
        exact h.elim
  · exact v_eret (pc := 6) E rfl (nar_int _) ⟨_, rfl, h⟩ (by decide) (by decide) dL_trial_6
/-! L_plea -/
abbrev rmL_plea : Room := { frames := 8, cells := 3, slots := 18, locals := 140 }
def vsL_plea : List Cond := wsL_plea ++ hL3
def wL_plea (M : hM) (a0 : Option Nat) (a1 : Int32) (a2 : Int32) (a3 : Int32) (Q : hM → Int32 → Prop) : Prop :=
  ∃ y2, hC M 4 a0 = some y2 ∧
  wX4_plea M y2 a1 a2 a3 (fun M3 x1 =>
    Q M3 x1) (fun Ex M9 => if Ex = "java/lang/IndexOutOfBoundsException" then (
      Q M9 (-2000000001)) else if Ex = "java/lang/IllegalArgumentException" then (
        Q M9 (-2000000002)) else if Ex = "java/lang/IllegalStateException" then (
          Q M9 (-2000000003)) else False)
set_option maxRecDepth 100000 in
set_option maxHeartbeats 4000000 in
theorem cL_plea_met (l : Launch) (hfl : l.stackTraces = false) (G : hG) (M : hM) {a0 : Option Nat} {a1 : Int32} {a2 : Int32} {a3 : Int32} {Q : hM → Int32 → Prop} (h : wL_plea M a0 a1 a2 a3 Q) : hEMet l yL_plea vsL_plea rmL_plea [va_rf a0, .int a1, .int a2, .int a3] G M (hQi Q) (fun _ _ => False) 3 18 := by
  refine he_entryH (hh := [(0, 7, 8, 23), (0, 7, 13, 13), (0, 7, 18, 16)]) (own := RL) (cc := cL_plea) (maxL := 5) (ret := (some .int)) (lv := [some (va_rf a0), some (.int a1), some (.int a2), some (.int a3), none]) hfl (by decide) rfl rfl (hcc (rf_cat _) (hcc rfl (hcc rfl (hcc rfl hc0)))) (Nat.le_of_ble_eq_true rfl) rfl (fun κ sz hG hl hR E ht => ?_)
  subst hG; subst hl
  unfold wL_plea at h
  have F := E.1
  have C := F.1
  refine v_aload_n C (pc := 0) (i := 0) dL_plea_0 rfl ?_
  refine v_iload_n C (pc := 1) (i := 1) dL_plea_1 rfl ?_
  refine v_iload_n C (pc := 2) (i := 2) dL_plea_2 rfl ?_
  refine v_iload_n C (pc := 3) (i := 3) dL_plea_3 rfl ?_
  obtain ⟨y2, hy2, hh⟩ := h
  skip
  obtain ⟨rfl, fsy2, hfy2⟩ := hC_inv hy2
  have h := hh
  clear hh
  refine v_xV F (pc := 4) (ci := 4) [.int a1, .int a2, .int a3] 3 (cX4_plea_met (kl κ) F.2.2.2.1 (kG κ) _ h) hfy2 rfl (good_l gL_plea_X4_plea) rfl hdX4_plea rfl rfl rfl (by rw [hR]; exact ⟨Nat.le_of_ble_eq_true rfl, Nat.le_of_ble_eq_true rfl⟩) (by rw [hR]; decide) (Nat.le_of_ble_eq_true rfl) rfl dL_plea_4 (fun Ex M9 h => ?_) (hk_i fun M3 x1 h => ?_)
  · by_cases hE0 : Ex = "java/lang/IndexOutOfBoundsException"
    · rw [if_pos hE0] at h
      subst hE0
      refine v_catch F (pc := 4) ht (name := "java/lang/IndexOutOfBoundsException") [] ⟨0, 7, 8, 23⟩ [⟨0, 7, 13, 13⟩, ⟨0, 7, 18, 16⟩] rfl (fun z hz => absurd hz List.not_mem_nil) (by decide) (by decide) (List.mem_append_right _ (List.mem_of_getElem? (i := 2) rfl)) (by decide) (fun q9 => ?_)
      refine v_astore C (pc := 8) (i := 4) (lv' := [some (va_rf (some y2)), some (.int a1), some (.int a2), some (.int a3), some (va_rf (some q9))]) dL_plea_8 rfl (lw_bi (j := 3) rfl) rfl ?_
      refine v_ldc C (pc := 10) (v := -2000000001) (List.mem_append_left _ (List.mem_cons_of_mem _ (List.mem_append_left _ (List.mem_append_left _ (List.mem_append_left _ (List.mem_append_left _ (List.mem_append_left _ (List.mem_append_left _ (List.mem_append_left _ (List.mem_append_left _ (List.mem_of_getElem? (i := 1) rfl))))))))))) dL_plea_10 ?_
      exact v_eret (pc := 12) E rfl (nar_int _) ⟨_, rfl, h⟩ (by decide) (by decide) dL_plea_12
    · rw [if_neg hE0] at h
      by_cases hE1 : Ex = "java/lang/IllegalArgumentException"
      · rw [if_pos hE1] at h
        subst hE1
        refine v_catch F (pc := 4) ht (name := "java/lang/IllegalArgumentException") [⟨0, 7, 8, 23⟩] ⟨0, 7, 13, 13⟩ [⟨0, 7, 18, 16⟩] rfl (List.forall_mem_cons.mpr ⟨Or.inr ⟨by decide, "java/lang/IndexOutOfBoundsException", List.mem_append_right _ (List.mem_of_getElem? (i := 2) rfl), by decide⟩, fun z hz => absurd hz List.not_mem_nil⟩) (by decide) (by decide) (List.mem_append_right _ (List.mem_of_getElem? (i := 0) rfl)) (by decide) (fun q9 => ?_)
        refine v_astore C (pc := 13) (i := 4) (lv' := [some (va_rf (some y2)), some (.int a1), some (.int a2), some (.int a3), some (va_rf (some q9))]) dL_plea_13 rfl (lw_bi (j := 3) rfl) rfl ?_
        refine v_ldc C (pc := 15) (v := -2000000002) (List.mem_append_left _ (List.mem_cons_of_mem _ (List.mem_append_left _ (List.mem_append_left _ (List.mem_append_left _ (List.mem_append_left _ (List.mem_append_left _ (List.mem_append_left _ (List.mem_append_left _ (List.mem_append_left _ (List.mem_of_getElem? (i := 2) rfl))))))))))) dL_plea_15 ?_
        exact v_eret (pc := 17) E rfl (nar_int _) ⟨_, rfl, h⟩ (by decide) (by decide) dL_plea_17
      · rw [if_neg hE1] at h
        by_cases hE2 : Ex = "java/lang/IllegalStateException"
        · rw [if_pos hE2] at h
          subst hE2
          refine v_catch F (pc := 4) ht (name := "java/lang/IllegalStateException") [⟨0, 7, 8, 23⟩, ⟨0, 7, 13, 13⟩] ⟨0, 7, 18, 16⟩ [] rfl (List.forall_mem_cons.mpr ⟨Or.inr ⟨by decide, "java/lang/IndexOutOfBoundsException", List.mem_append_right _ (List.mem_of_getElem? (i := 2) rfl), by decide⟩, List.forall_mem_cons.mpr ⟨Or.inr ⟨by decide, "java/lang/IllegalArgumentException", List.mem_append_right _ (List.mem_of_getElem? (i := 0) rfl), by decide⟩, fun z hz => absurd hz List.not_mem_nil⟩⟩) (by decide) (by decide) (List.mem_append_right _ (List.mem_of_getElem? (i := 1) rfl)) (by decide) (fun q9 => ?_)
          refine v_astore C (pc := 18) (i := 4) (lv' := [some (va_rf (some y2)), some (.int a1), some (.int a2), some (.int a3), some (va_rf (some q9))]) dL_plea_18 rfl (lw_bi (j := 3) rfl) rfl ?_
          refine v_ldc C (pc := 20) (v := -2000000003) (List.mem_append_left _ (List.mem_cons_of_mem _ (List.mem_append_left _ (List.mem_append_left _ (List.mem_append_left _ (List.mem_append_left _ (List.mem_append_left _ (List.mem_append_left _ (List.mem_append_left _ (List.mem_append_left _ (List.mem_of_getElem? (i := 3) rfl))))))))))) dL_plea_20 ?_
          exact v_eret (pc := 22) E rfl (nar_int _) ⟨_, rfl, h⟩ (by decide) (by decide) dL_plea_22
        · rw [if_neg hE2] at h
          exact h.elim
  · exact v_eret (pc := 7) E rfl (nar_int _) ⟨_, rfl, h⟩ (by decide) (by decide) dL_plea_7
/-! L_arrest -/
abbrev rmL_arrest : Room := { frames := 8, cells := 2, slots := 12, locals := 138 }
def vsL_arrest : List Cond := wsL_arrest ++ hL3
def wL_arrest (M : hM) (a0 : Option Nat) (a1 : Int32) (a2 : Int32) (Q : hM → Int32 → Prop) : Prop :=
  ∃ y2, hC M 4 a0 = some y2 ∧
  wX4_arrest M y2 a1 a2 (fun M3 x1 =>
    Q M3 x1) (fun Ex M9 => if Ex = "java/lang/IndexOutOfBoundsException" then (
      Q M9 (-2000000001)) else if Ex = "java/lang/IllegalStateException" then (
        Q M9 (-2000000003)) else False)
set_option maxRecDepth 100000 in
set_option maxHeartbeats 4000000 in
theorem cL_arrest_met (l : Launch) (hfl : l.stackTraces = false) (G : hG) (M : hM) {a0 : Option Nat} {a1 : Int32} {a2 : Int32} {Q : hM → Int32 → Prop} (h : wL_arrest M a0 a1 a2 Q) : hEMet l yL_arrest vsL_arrest rmL_arrest [va_rf a0, .int a1, .int a2] G M (hQi Q) (fun _ _ => False) 2 12 := by
  refine he_entryH (hh := [(0, 6, 7, 23), (0, 6, 11, 16)]) (own := RL) (cc := cL_arrest) (maxL := 4) (ret := (some .int)) (lv := [some (va_rf a0), some (.int a1), some (.int a2), none]) hfl (by decide) rfl rfl (hcc (rf_cat _) (hcc rfl (hcc rfl hc0))) (Nat.le_of_ble_eq_true rfl) rfl (fun κ sz hG hl hR E ht => ?_)
  subst hG; subst hl
  unfold wL_arrest at h
  have F := E.1
  have C := F.1
  refine v_aload_n C (pc := 0) (i := 0) dL_arrest_0 rfl ?_
  refine v_iload_n C (pc := 1) (i := 1) dL_arrest_1 rfl ?_
  refine v_iload_n C (pc := 2) (i := 2) dL_arrest_2 rfl ?_
  obtain ⟨y2, hy2, hh⟩ := h
  skip
  obtain ⟨rfl, fsy2, hfy2⟩ := hC_inv hy2
  have h := hh
  clear hh
  refine v_xV F (pc := 3) (ci := 4) [.int a1, .int a2] 2 (cX4_arrest_met (kl κ) F.2.2.2.1 (kG κ) _ h) hfy2 rfl (good_l gL_arrest_X4_arrest) rfl hdX4_arrest rfl rfl rfl (by rw [hR]; exact ⟨Nat.le_of_ble_eq_true rfl, Nat.le_of_ble_eq_true rfl⟩) (by rw [hR]; decide) (Nat.le_of_ble_eq_true rfl) rfl dL_arrest_3 (fun Ex M9 h => ?_) (hk_i fun M3 x1 h => ?_)
  · by_cases hE0 : Ex = "java/lang/IndexOutOfBoundsException"
    · rw [if_pos hE0] at h
      subst hE0
      refine v_catch F (pc := 3) ht (name := "java/lang/IndexOutOfBoundsException") [] ⟨0, 6, 7, 23⟩ [⟨0, 6, 11, 16⟩] rfl (fun z hz => absurd hz List.not_mem_nil) (by decide) (by decide) (List.mem_append_right _ (List.mem_of_getElem? (i := 2) rfl)) (by decide) (fun q9 => ?_)
      refine v_astore_n C (pc := 7) (i := 3) (lv' := [some (va_rf (some y2)), some (.int a1), some (.int a2), some (va_rf (some q9))]) dL_arrest_7 rfl (lw_bi (j := 2) rfl) rfl ?_
      refine v_ldc C (pc := 8) (v := -2000000001) (List.mem_append_left _ (List.mem_cons_of_mem _ (List.mem_append_left _ (List.mem_append_left _ (List.mem_append_left _ (List.mem_append_left _ (List.mem_append_left _ (List.mem_append_left _ (List.mem_of_getElem? (i := 1) rfl))))))))) dL_arrest_8 ?_
      exact v_eret (pc := 10) E rfl (nar_int _) ⟨_, rfl, h⟩ (by decide) (by decide) dL_arrest_10
    · rw [if_neg hE0] at h
      by_cases hE1 : Ex = "java/lang/IllegalStateException"
      · rw [if_pos hE1] at h
        subst hE1
        refine v_catch F (pc := 3) ht (name := "java/lang/IllegalStateException") [⟨0, 6, 7, 23⟩] ⟨0, 6, 11, 16⟩ [] rfl (List.forall_mem_cons.mpr ⟨Or.inr ⟨by decide, "java/lang/IndexOutOfBoundsException", List.mem_append_right _ (List.mem_of_getElem? (i := 2) rfl), by decide⟩, fun z hz => absurd hz List.not_mem_nil⟩) (by decide) (by decide) (List.mem_append_right _ (List.mem_of_getElem? (i := 1) rfl)) (by decide) (fun q9 => ?_)
        refine v_astore_n C (pc := 11) (i := 3) (lv' := [some (va_rf (some y2)), some (.int a1), some (.int a2), some (va_rf (some q9))]) dL_arrest_11 rfl (lw_bi (j := 2) rfl) rfl ?_
        refine v_ldc C (pc := 12) (v := -2000000003) (List.mem_append_left _ (List.mem_cons_of_mem _ (List.mem_append_left _ (List.mem_append_left _ (List.mem_append_left _ (List.mem_append_left _ (List.mem_append_left _ (List.mem_append_left _ (List.mem_of_getElem? (i := 2) rfl))))))))) dL_arrest_12 ?_
        exact v_eret (pc := 14) E rfl (nar_int _) ⟨_, rfl, h⟩ (by decide) (by decide) dL_arrest_14
      · rw [if_neg hE1] at h
        exact h.elim
  · exact v_eret (pc := 6) E rfl (nar_int _) ⟨_, rfl, h⟩ (by decide) (by decide) dL_arrest_6
/-! L_extend -/
abbrev rmL_extend : Room := { frames := 8, cells := 2, slots := 12, locals := 138 }
def vsL_extend : List Cond := wsL_extend ++ hL3
def wL_extend (M : hM) (a0 : Option Nat) (a1 : Int32) (a2 : Int32) (a3 : Int32) (Q : hM → Int32 → Prop) : Prop :=
  ∃ y2, hC M 4 a0 = some y2 ∧
  wX4_extend M y2 a1 a2 a3 (fun M3 x1 =>
    Q M3 x1) (fun Ex M9 => if Ex = "java/lang/IndexOutOfBoundsException" then (
      Q M9 (-2000000001)) else if Ex = "java/lang/IllegalArgumentException" then (
        Q M9 (-2000000002)) else if Ex = "java/lang/IllegalStateException" then (
          Q M9 (-2000000003)) else False)
set_option maxRecDepth 100000 in
set_option maxHeartbeats 4000000 in
theorem cL_extend_met (l : Launch) (hfl : l.stackTraces = false) (G : hG) (M : hM) {a0 : Option Nat} {a1 : Int32} {a2 : Int32} {a3 : Int32} {Q : hM → Int32 → Prop} (h : wL_extend M a0 a1 a2 a3 Q) : hEMet l yL_extend vsL_extend rmL_extend [va_rf a0, .int a1, .int a2, .int a3] G M (hQi Q) (fun _ _ => False) 2 12 := by
  refine he_entryH (hh := [(0, 7, 8, 23), (0, 7, 13, 13), (0, 7, 18, 16)]) (own := RL) (cc := cL_extend) (maxL := 5) (ret := (some .int)) (lv := [some (va_rf a0), some (.int a1), some (.int a2), some (.int a3), none]) hfl (by decide) rfl rfl (hcc (rf_cat _) (hcc rfl (hcc rfl (hcc rfl hc0)))) (Nat.le_of_ble_eq_true rfl) rfl (fun κ sz hG hl hR E ht => ?_)
  subst hG; subst hl
  unfold wL_extend at h
  have F := E.1
  have C := F.1
  refine v_aload_n C (pc := 0) (i := 0) dL_extend_0 rfl ?_
  refine v_iload_n C (pc := 1) (i := 1) dL_extend_1 rfl ?_
  refine v_iload_n C (pc := 2) (i := 2) dL_extend_2 rfl ?_
  refine v_iload_n C (pc := 3) (i := 3) dL_extend_3 rfl ?_
  obtain ⟨y2, hy2, hh⟩ := h
  skip
  obtain ⟨rfl, fsy2, hfy2⟩ := hC_inv hy2
  have h := hh
  clear hh
  refine v_xV F (pc := 4) (ci := 4) [.int a1, .int a2, .int a3] 3 (cX4_extend_met (kl κ) F.2.2.2.1 (kG κ) _ h) hfy2 rfl (good_l gL_extend_X4_extend) rfl hdX4_extend rfl rfl rfl (by rw [hR]; exact ⟨Nat.le_of_ble_eq_true rfl, Nat.le_of_ble_eq_true rfl⟩) (by rw [hR]; decide) (Nat.le_of_ble_eq_true rfl) rfl dL_extend_4 (fun Ex M9 h => ?_) (hk_i fun M3 x1 h => ?_)
  · by_cases hE0 : Ex = "java/lang/IndexOutOfBoundsException"
    · rw [if_pos hE0] at h
      subst hE0
      refine v_catch F (pc := 4) ht (name := "java/lang/IndexOutOfBoundsException") [] ⟨0, 7, 8, 23⟩ [⟨0, 7, 13, 13⟩, ⟨0, 7, 18, 16⟩] rfl (fun z hz => absurd hz List.not_mem_nil) (by decide) (by decide) (List.mem_append_right _ (List.mem_of_getElem? (i := 2) rfl)) (by decide) (fun q9 => ?_)
      refine v_astore C (pc := 8) (i := 4) (lv' := [some (va_rf (some y2)), some (.int a1), some (.int a2), some (.int a3), some (va_rf (some q9))]) dL_extend_8 rfl (lw_bi (j := 3) rfl) rfl ?_
      refine v_ldc C (pc := 10) (v := -2000000001) (List.mem_append_left _ (List.mem_cons_of_mem _ (List.mem_append_left _ (List.mem_append_left _ (List.mem_append_left _ (List.mem_append_left _ (List.mem_append_left _ (List.mem_append_left _ (List.mem_append_left _ (List.mem_of_getElem? (i := 1) rfl)))))))))) dL_extend_10 ?_
      exact v_eret (pc := 12) E rfl (nar_int _) ⟨_, rfl, h⟩ (by decide) (by decide) dL_extend_12
    · rw [if_neg hE0] at h
      by_cases hE1 : Ex = "java/lang/IllegalArgumentException"
      · rw [if_pos hE1] at h
        subst hE1
        refine v_catch F (pc := 4) ht (name := "java/lang/IllegalArgumentException") [⟨0, 7, 8, 23⟩] ⟨0, 7, 13, 13⟩ [⟨0, 7, 18, 16⟩] rfl (List.forall_mem_cons.mpr ⟨Or.inr ⟨by decide, "java/lang/IndexOutOfBoundsException", List.mem_append_right _ (List.mem_of_getElem? (i := 2) rfl), by decide⟩, fun z hz => absurd hz List.not_mem_nil⟩) (by decide) (by decide) (List.mem_append_right _ (List.mem_of_getElem? (i := 0) rfl)) (by decide) (fun q9 => ?_)
        refine v_astore C (pc := 13) (i := 4) (lv' := [some (va_rf (some y2)), some (.int a1), some (.int a2), some (.int a3), some (va_rf (some q9))]) dL_extend_13 rfl (lw_bi (j := 3) rfl) rfl ?_
        refine v_ldc C (pc := 15) (v := -2000000002) (List.mem_append_left _ (List.mem_cons_of_mem _ (List.mem_append_left _ (List.mem_append_left _ (List.mem_append_left _ (List.mem_append_left _ (List.mem_append_left _ (List.mem_append_left _ (List.mem_append_left _ (List.mem_of_getElem? (i := 2) rfl)))))))))) dL_extend_15 ?_
        exact v_eret (pc := 17) E rfl (nar_int _) ⟨_, rfl, h⟩ (by decide) (by decide) dL_extend_17
      · rw [if_neg hE1] at h
        by_cases hE2 : Ex = "java/lang/IllegalStateException"
        · rw [if_pos hE2] at h
          subst hE2
          refine v_catch F (pc := 4) ht (name := "java/lang/IllegalStateException") [⟨0, 7, 8, 23⟩, ⟨0, 7, 13, 13⟩] ⟨0, 7, 18, 16⟩ [] rfl (List.forall_mem_cons.mpr ⟨Or.inr ⟨by decide, "java/lang/IndexOutOfBoundsException", List.mem_append_right _ (List.mem_of_getElem? (i := 2) rfl), by decide⟩, List.forall_mem_cons.mpr ⟨Or.inr ⟨by decide, "java/lang/IllegalArgumentException", List.mem_append_right _ (List.mem_of_getElem? (i := 0) rfl), by decide⟩, fun z hz => absurd hz List.not_mem_nil⟩⟩) (by decide) (by decide) (List.mem_append_right _ (List.mem_of_getElem? (i := 1) rfl)) (by decide) (fun q9 => ?_)
          refine v_astore C (pc := 18) (i := 4) (lv' := [some (va_rf (some y2)), some (.int a1), some (.int a2), some (.int a3), some (va_rf (some q9))]) dL_extend_18 rfl (lw_bi (j := 3) rfl) rfl ?_
          refine v_ldc C (pc := 20) (v := -2000000003) (List.mem_append_left _ (List.mem_cons_of_mem _ (List.mem_append_left _ (List.mem_append_left _ (List.mem_append_left _ (List.mem_append_left _ (List.mem_append_left _ (List.mem_append_left _ (List.mem_append_left _ (List.mem_of_getElem? (i := 3) rfl)))))))))) dL_extend_20 ?_
          exact v_eret (pc := 22) E rfl (nar_int _) ⟨_, rfl, h⟩ (by decide) (by decide) dL_extend_22
        · rw [if_neg hE2] at h
          exact h.elim
  · exact v_eret (pc := 7) E rfl (nar_int _) ⟨_, rfl, h⟩ (by decide) (by decide) dL_extend_7
/-! L_release -/
abbrev rmL_release : Room := { frames := 8, cells := 2, slots := 12, locals := 137 }
def vsL_release : List Cond := wsL_release ++ hL3
def wL_release (M : hM) (a0 : Option Nat) (a1 : Int32) (a2 : Int32) (Q : hM → Int32 → Prop) : Prop :=
  ∃ y2, hC M 4 a0 = some y2 ∧
  wX4_release M y2 a1 a2 (fun M3 =>
    Q M3 0) (fun Ex M9 => if Ex = "java/lang/IndexOutOfBoundsException" then (
      Q M9 (-2000000001)) else if Ex = "java/lang/IllegalStateException" then (
        Q M9 (-2000000003)) else False)
set_option maxRecDepth 100000 in
set_option maxHeartbeats 4000000 in
theorem cL_release_met (l : Launch) (hfl : l.stackTraces = false) (G : hG) (M : hM) {a0 : Option Nat} {a1 : Int32} {a2 : Int32} {Q : hM → Int32 → Prop} (h : wL_release M a0 a1 a2 Q) : hEMet l yL_release vsL_release rmL_release [va_rf a0, .int a1, .int a2] G M (hQi Q) (fun _ _ => False) 2 12 := by
  refine he_entryH (hh := [(0, 7, 8, 23), (0, 7, 12, 16)]) (own := RL) (cc := cL_release) (maxL := 4) (ret := (some .int)) (lv := [some (va_rf a0), some (.int a1), some (.int a2), none]) hfl (by decide) rfl rfl (hcc (rf_cat _) (hcc rfl (hcc rfl hc0))) (Nat.le_of_ble_eq_true rfl) rfl (fun κ sz hG hl hR E ht => ?_)
  subst hG; subst hl
  unfold wL_release at h
  have F := E.1
  have C := F.1
  refine v_aload_n C (pc := 0) (i := 0) dL_release_0 rfl ?_
  refine v_iload_n C (pc := 1) (i := 1) dL_release_1 rfl ?_
  refine v_iload_n C (pc := 2) (i := 2) dL_release_2 rfl ?_
  obtain ⟨y2, hy2, hh⟩ := h
  skip
  obtain ⟨rfl, fsy2, hfy2⟩ := hC_inv hy2
  have h := hh
  clear hh
  refine v_xV F (pc := 3) (ci := 4) [.int a1, .int a2] 2 (cX4_release_met (kl κ) F.2.2.2.1 (kG κ) _ h) hfy2 rfl (good_l gL_release_X4_release) rfl hdX4_release rfl rfl rfl (by rw [hR]; exact ⟨Nat.le_of_ble_eq_true rfl, Nat.le_of_ble_eq_true rfl⟩) (by rw [hR]; decide) (Nat.le_of_ble_eq_true rfl) rfl dL_release_3 (fun Ex M9 h => ?_) (hk_v fun M3 h => ?_)
  · by_cases hE0 : Ex = "java/lang/IndexOutOfBoundsException"
    · rw [if_pos hE0] at h
      subst hE0
      refine v_catch F (pc := 3) ht (name := "java/lang/IndexOutOfBoundsException") [] ⟨0, 7, 8, 23⟩ [⟨0, 7, 12, 16⟩] rfl (fun z hz => absurd hz List.not_mem_nil) (by decide) (by decide) (List.mem_append_right _ (List.mem_of_getElem? (i := 2) rfl)) (by decide) (fun q9 => ?_)
      refine v_astore_n C (pc := 8) (i := 3) (lv' := [some (va_rf (some y2)), some (.int a1), some (.int a2), some (va_rf (some q9))]) dL_release_8 rfl (lw_bi (j := 2) rfl) rfl ?_
      refine v_ldc C (pc := 9) (v := -2000000001) (List.mem_append_left _ (List.mem_cons_of_mem _ (List.mem_append_left _ (List.mem_append_left _ (List.mem_append_left _ (List.mem_append_left _ (List.mem_append_left _ (List.mem_append_left _ (List.mem_of_getElem? (i := 1) rfl))))))))) dL_release_9 ?_
      exact v_eret (pc := 11) E rfl (nar_int _) ⟨_, rfl, h⟩ (by decide) (by decide) dL_release_11
    · rw [if_neg hE0] at h
      by_cases hE1 : Ex = "java/lang/IllegalStateException"
      · rw [if_pos hE1] at h
        subst hE1
        refine v_catch F (pc := 3) ht (name := "java/lang/IllegalStateException") [⟨0, 7, 8, 23⟩] ⟨0, 7, 12, 16⟩ [] rfl (List.forall_mem_cons.mpr ⟨Or.inr ⟨by decide, "java/lang/IndexOutOfBoundsException", List.mem_append_right _ (List.mem_of_getElem? (i := 2) rfl), by decide⟩, fun z hz => absurd hz List.not_mem_nil⟩) (by decide) (by decide) (List.mem_append_right _ (List.mem_of_getElem? (i := 1) rfl)) (by decide) (fun q9 => ?_)
        refine v_astore_n C (pc := 12) (i := 3) (lv' := [some (va_rf (some y2)), some (.int a1), some (.int a2), some (va_rf (some q9))]) dL_release_12 rfl (lw_bi (j := 2) rfl) rfl ?_
        refine v_ldc C (pc := 13) (v := -2000000003) (List.mem_append_left _ (List.mem_cons_of_mem _ (List.mem_append_left _ (List.mem_append_left _ (List.mem_append_left _ (List.mem_append_left _ (List.mem_append_left _ (List.mem_append_left _ (List.mem_of_getElem? (i := 2) rfl))))))))) dL_release_13 ?_
        exact v_eret (pc := 15) E rfl (nar_int _) ⟨_, rfl, h⟩ (by decide) (by decide) dL_release_15
      · rw [if_neg hE1] at h
        exact h.elim
  · refine v_iconst C (pc := 6) (v := 0) dL_release_6 (by decide) ?_
    exact v_eret (pc := 7) E rfl (nar_int _) ⟨_, rfl, h⟩ (by decide) (by decide) dL_release_7
/-! L_best -/
abbrev rmL_best : Room := { frames := 8, cells := 2, slots := 12, locals := 168 }
def vsL_best : List Cond := wsL_best ++ hL3
def wL_best (M : hM) (a0 : Option Nat) (a1 : Int32) (a2 : Int32) (a3 : Int32) (Q : hM → Int32 → Prop) : Prop :=
  ∃ y2, hC M 4 a0 = some y2 ∧
  wX4_best M y2 a1 a2 a3 (fun M3 x1 =>
    Q M3 x1) (fun Ex M9 => if Ex = "java/lang/IndexOutOfBoundsException" then (
      Q M9 (-2000000001)) else if Ex = "java/lang/IllegalArgumentException" then (
        Q M9 (-2000000002)) else False)
set_option maxRecDepth 100000 in
set_option maxHeartbeats 4000000 in
theorem cL_best_met (l : Launch) (hfl : l.stackTraces = false) (G : hG) (M : hM) {a0 : Option Nat} {a1 : Int32} {a2 : Int32} {a3 : Int32} {Q : hM → Int32 → Prop} (h : wL_best M a0 a1 a2 a3 Q) : hEMet l yL_best vsL_best rmL_best [va_rf a0, .int a1, .int a2, .int a3] G M (hQi Q) (fun _ _ => False) 2 12 := by
  refine he_entryH (hh := [(0, 7, 8, 23), (0, 7, 13, 13)]) (own := RL) (cc := cL_best) (maxL := 5) (ret := (some .int)) (lv := [some (va_rf a0), some (.int a1), some (.int a2), some (.int a3), none]) hfl (by decide) rfl rfl (hcc (rf_cat _) (hcc rfl (hcc rfl (hcc rfl hc0)))) (Nat.le_of_ble_eq_true rfl) rfl (fun κ sz hG hl hR E ht => ?_)
  subst hG; subst hl
  unfold wL_best at h
  have F := E.1
  have C := F.1
  refine v_aload_n C (pc := 0) (i := 0) dL_best_0 rfl ?_
  refine v_iload_n C (pc := 1) (i := 1) dL_best_1 rfl ?_
  refine v_iload_n C (pc := 2) (i := 2) dL_best_2 rfl ?_
  refine v_iload_n C (pc := 3) (i := 3) dL_best_3 rfl ?_
  obtain ⟨y2, hy2, hh⟩ := h
  skip
  obtain ⟨rfl, fsy2, hfy2⟩ := hC_inv hy2
  have h := hh
  clear hh
  refine v_xV F (pc := 4) (ci := 4) [.int a1, .int a2, .int a3] 3 (cX4_best_met (kl κ) F.2.2.2.1 (kG κ) _ h) hfy2 rfl (good_l gL_best_X4_best) rfl hdX4_best rfl rfl rfl (by rw [hR]; exact ⟨Nat.le_of_ble_eq_true rfl, Nat.le_of_ble_eq_true rfl⟩) (by rw [hR]; decide) (Nat.le_of_ble_eq_true rfl) rfl dL_best_4 (fun Ex M9 h => ?_) (hk_i fun M3 x1 h => ?_)
  · by_cases hE0 : Ex = "java/lang/IndexOutOfBoundsException"
    · rw [if_pos hE0] at h
      subst hE0
      refine v_catch F (pc := 4) ht (name := "java/lang/IndexOutOfBoundsException") [] ⟨0, 7, 8, 23⟩ [⟨0, 7, 13, 13⟩] rfl (fun z hz => absurd hz List.not_mem_nil) (by decide) (by decide) (List.mem_append_right _ (List.mem_of_getElem? (i := 2) rfl)) (by decide) (fun q9 => ?_)
      refine v_astore C (pc := 8) (i := 4) (lv' := [some (va_rf (some y2)), some (.int a1), some (.int a2), some (.int a3), some (va_rf (some q9))]) dL_best_8 rfl (lw_bi (j := 3) rfl) rfl ?_
      refine v_ldc C (pc := 10) (v := -2000000001) (List.mem_append_left _ (List.mem_cons_of_mem _ (List.mem_append_left _ (List.mem_append_left _ (List.mem_append_left _ (List.mem_append_left _ (List.mem_append_left _ (List.mem_append_left _ (List.mem_append_left _ (List.mem_append_left _ (List.mem_of_getElem? (i := 1) rfl))))))))))) dL_best_10 ?_
      exact v_eret (pc := 12) E rfl (nar_int _) ⟨_, rfl, h⟩ (by decide) (by decide) dL_best_12
    · rw [if_neg hE0] at h
      by_cases hE1 : Ex = "java/lang/IllegalArgumentException"
      · rw [if_pos hE1] at h
        subst hE1
        refine v_catch F (pc := 4) ht (name := "java/lang/IllegalArgumentException") [⟨0, 7, 8, 23⟩] ⟨0, 7, 13, 13⟩ [] rfl (List.forall_mem_cons.mpr ⟨Or.inr ⟨by decide, "java/lang/IndexOutOfBoundsException", List.mem_append_right _ (List.mem_of_getElem? (i := 2) rfl), by decide⟩, fun z hz => absurd hz List.not_mem_nil⟩) (by decide) (by decide) (List.mem_append_right _ (List.mem_of_getElem? (i := 0) rfl)) (by decide) (fun q9 => ?_)
        refine v_astore C (pc := 13) (i := 4) (lv' := [some (va_rf (some y2)), some (.int a1), some (.int a2), some (.int a3), some (va_rf (some q9))]) dL_best_13 rfl (lw_bi (j := 3) rfl) rfl ?_
        refine v_ldc C (pc := 15) (v := -2000000002) (List.mem_append_left _ (List.mem_cons_of_mem _ (List.mem_append_left _ (List.mem_append_left _ (List.mem_append_left _ (List.mem_append_left _ (List.mem_append_left _ (List.mem_append_left _ (List.mem_append_left _ (List.mem_append_left _ (List.mem_of_getElem? (i := 2) rfl))))))))))) dL_best_15 ?_
        exact v_eret (pc := 17) E rfl (nar_int _) ⟨_, rfl, h⟩ (by decide) (by decide) dL_best_17
      · rw [if_neg hE1] at h
        exact h.elim
  · exact v_eret (pc := 7) E rfl (nar_int _) ⟨_, rfl, h⟩ (by decide) (by decide) dL_best_7
/-! L_lacks -/
abbrev rmL_lacks : Room := { frames := 8, cells := 1, slots := 6, locals := 137 }
def vsL_lacks : List Cond := wsL_lacks ++ hL3
def wL_lacks (M : hM) (a0 : Option Nat) (a1 : Int32) (a2 : Int32) (Q : hM → Int32 → Prop) : Prop :=
  ∃ y2, hC M 4 a0 = some y2 ∧
  wX4_lacks M y2 a1 a2 (fun M3 x1 =>
    Q M3 x1) (fun Ex M9 => if Ex = "java/lang/IndexOutOfBoundsException" then (
      Q M9 (-2000000001)) else False)
set_option maxRecDepth 100000 in
set_option maxHeartbeats 4000000 in
theorem cL_lacks_met (l : Launch) (hfl : l.stackTraces = false) (G : hG) (M : hM) {a0 : Option Nat} {a1 : Int32} {a2 : Int32} {Q : hM → Int32 → Prop} (h : wL_lacks M a0 a1 a2 Q) : hEMet l yL_lacks vsL_lacks rmL_lacks [va_rf a0, .int a1, .int a2] G M (hQi Q) (fun _ _ => False) 1 6 := by
  refine he_entryH (hh := [(0, 6, 7, 23)]) (own := RL) (cc := cL_lacks) (maxL := 4) (ret := (some .int)) (lv := [some (va_rf a0), some (.int a1), some (.int a2), none]) hfl (by decide) rfl rfl (hcc (rf_cat _) (hcc rfl (hcc rfl hc0))) (Nat.le_of_ble_eq_true rfl) rfl (fun κ sz hG hl hR E ht => ?_)
  subst hG; subst hl
  unfold wL_lacks at h
  have F := E.1
  have C := F.1
  refine v_aload_n C (pc := 0) (i := 0) dL_lacks_0 rfl ?_
  refine v_iload_n C (pc := 1) (i := 1) dL_lacks_1 rfl ?_
  refine v_iload_n C (pc := 2) (i := 2) dL_lacks_2 rfl ?_
  obtain ⟨y2, hy2, hh⟩ := h
  skip
  obtain ⟨rfl, fsy2, hfy2⟩ := hC_inv hy2
  have h := hh
  clear hh
  refine v_xV F (pc := 3) (ci := 4) [.int a1, .int a2] 2 (cX4_lacks_met (kl κ) F.2.2.2.1 (kG κ) _ h) hfy2 rfl (good_l gL_lacks_X4_lacks) rfl hdX4_lacks rfl rfl rfl (by rw [hR]; exact ⟨Nat.le_of_ble_eq_true rfl, Nat.le_of_ble_eq_true rfl⟩) (by rw [hR]; decide) (Nat.le_of_ble_eq_true rfl) rfl dL_lacks_3 (fun Ex M9 h => ?_) (hk_i fun M3 x1 h => ?_)
  · by_cases hE0 : Ex = "java/lang/IndexOutOfBoundsException"
    · rw [if_pos hE0] at h
      subst hE0
      refine v_catch F (pc := 3) ht (name := "java/lang/IndexOutOfBoundsException") [] ⟨0, 6, 7, 23⟩ [] rfl (fun z hz => absurd hz List.not_mem_nil) (by decide) (by decide) (List.mem_append_right _ (List.mem_of_getElem? (i := 2) rfl)) (by decide) (fun q9 => ?_)
      refine v_astore_n C (pc := 7) (i := 3) (lv' := [some (va_rf (some y2)), some (.int a1), some (.int a2), some (va_rf (some q9))]) dL_lacks_7 rfl (lw_bi (j := 2) rfl) rfl ?_
      refine v_ldc C (pc := 8) (v := -2000000001) (List.mem_append_left _ (List.mem_cons_of_mem _ (List.mem_append_left _ (List.mem_append_left _ (List.mem_append_left _ (List.mem_append_left _ (List.mem_append_left _ (List.mem_append_left _ (List.mem_of_getElem? (i := 1) rfl))))))))) dL_lacks_8 ?_
      exact v_eret (pc := 10) E rfl (nar_int _) ⟨_, rfl, h⟩ (by decide) (by decide) dL_lacks_10
    · rw [if_neg hE0] at h
      exact h.elim
  · exact v_eret (pc := 6) E rfl (nar_int _) ⟨_, rfl, h⟩ (by decide) (by decide) dL_lacks_6
/-! L_of -/
abbrev rmL_of : Room := { frames := 8, cells := 2, slots := 12, locals := 138 }
def vsL_of : List Cond := wsL_of ++ hL3
def wL_of (M : hM) (a0 : Option Nat) (a1 : Int32) (a2 : Int32) (a3 : Int32) (Q : hM → Int32 → Prop) : Prop :=
  ∃ y2, hC M 4 a0 = some y2 ∧
  wX4_ofAccused M y2 a1 a2 a3 (fun M3 x1 =>
    Q M3 x1) (fun Ex M9 => if Ex = "java/lang/IndexOutOfBoundsException" then (
      Q M9 (-2000000001)) else if Ex = "java/lang/IllegalArgumentException" then (
        Q M9 (-2000000002)) else False)
set_option maxRecDepth 100000 in
set_option maxHeartbeats 4000000 in
theorem cL_of_met (l : Launch) (hfl : l.stackTraces = false) (G : hG) (M : hM) {a0 : Option Nat} {a1 : Int32} {a2 : Int32} {a3 : Int32} {Q : hM → Int32 → Prop} (h : wL_of M a0 a1 a2 a3 Q) : hEMet l yL_of vsL_of rmL_of [va_rf a0, .int a1, .int a2, .int a3] G M (hQi Q) (fun _ _ => False) 2 12 := by
  refine he_entryH (hh := [(0, 7, 8, 23), (0, 7, 13, 13)]) (own := RL) (cc := cL_of) (maxL := 5) (ret := (some .int)) (lv := [some (va_rf a0), some (.int a1), some (.int a2), some (.int a3), none]) hfl (by decide) rfl rfl (hcc (rf_cat _) (hcc rfl (hcc rfl (hcc rfl hc0)))) (Nat.le_of_ble_eq_true rfl) rfl (fun κ sz hG hl hR E ht => ?_)
  subst hG; subst hl
  unfold wL_of at h
  have F := E.1
  have C := F.1
  refine v_aload_n C (pc := 0) (i := 0) dL_of_0 rfl ?_
  refine v_iload_n C (pc := 1) (i := 1) dL_of_1 rfl ?_
  refine v_iload_n C (pc := 2) (i := 2) dL_of_2 rfl ?_
  refine v_iload_n C (pc := 3) (i := 3) dL_of_3 rfl ?_
  obtain ⟨y2, hy2, hh⟩ := h
  skip
  obtain ⟨rfl, fsy2, hfy2⟩ := hC_inv hy2
  have h := hh
  clear hh
  refine v_xV F (pc := 4) (ci := 4) [.int a1, .int a2, .int a3] 3 (cX4_ofAccused_met (kl κ) F.2.2.2.1 (kG κ) _ h) hfy2 rfl (good_l gL_of_X4_ofAccused) rfl hdX4_ofAccused rfl rfl rfl (by rw [hR]; exact ⟨Nat.le_of_ble_eq_true rfl, Nat.le_of_ble_eq_true rfl⟩) (by rw [hR]; decide) (Nat.le_of_ble_eq_true rfl) rfl dL_of_4 (fun Ex M9 h => ?_) (hk_i fun M3 x1 h => ?_)
  · by_cases hE0 : Ex = "java/lang/IndexOutOfBoundsException"
    · rw [if_pos hE0] at h
      subst hE0
      refine v_catch F (pc := 4) ht (name := "java/lang/IndexOutOfBoundsException") [] ⟨0, 7, 8, 23⟩ [⟨0, 7, 13, 13⟩] rfl (fun z hz => absurd hz List.not_mem_nil) (by decide) (by decide) (List.mem_append_right _ (List.mem_of_getElem? (i := 2) rfl)) (by decide) (fun q9 => ?_)
      refine v_astore C (pc := 8) (i := 4) (lv' := [some (va_rf (some y2)), some (.int a1), some (.int a2), some (.int a3), some (va_rf (some q9))]) dL_of_8 rfl (lw_bi (j := 3) rfl) rfl ?_
      refine v_ldc C (pc := 10) (v := -2000000001) (List.mem_append_left _ (List.mem_cons_of_mem _ (List.mem_append_left _ (List.mem_append_left _ (List.mem_append_left _ (List.mem_append_left _ (List.mem_append_left _ (List.mem_append_left _ (List.mem_append_left _ (List.mem_of_getElem? (i := 1) rfl)))))))))) dL_of_10 ?_
      exact v_eret (pc := 12) E rfl (nar_int _) ⟨_, rfl, h⟩ (by decide) (by decide) dL_of_12
    · rw [if_neg hE0] at h
      by_cases hE1 : Ex = "java/lang/IllegalArgumentException"
      · rw [if_pos hE1] at h
        subst hE1
        refine v_catch F (pc := 4) ht (name := "java/lang/IllegalArgumentException") [⟨0, 7, 8, 23⟩] ⟨0, 7, 13, 13⟩ [] rfl (List.forall_mem_cons.mpr ⟨Or.inr ⟨by decide, "java/lang/IndexOutOfBoundsException", List.mem_append_right _ (List.mem_of_getElem? (i := 2) rfl), by decide⟩, fun z hz => absurd hz List.not_mem_nil⟩) (by decide) (by decide) (List.mem_append_right _ (List.mem_of_getElem? (i := 0) rfl)) (by decide) (fun q9 => ?_)
        refine v_astore C (pc := 13) (i := 4) (lv' := [some (va_rf (some y2)), some (.int a1), some (.int a2), some (.int a3), some (va_rf (some q9))]) dL_of_13 rfl (lw_bi (j := 3) rfl) rfl ?_
        refine v_ldc C (pc := 15) (v := -2000000002) (List.mem_append_left _ (List.mem_cons_of_mem _ (List.mem_append_left _ (List.mem_append_left _ (List.mem_append_left _ (List.mem_append_left _ (List.mem_append_left _ (List.mem_append_left _ (List.mem_append_left _ (List.mem_of_getElem? (i := 2) rfl)))))))))) dL_of_15 ?_
        exact v_eret (pc := 17) E rfl (nar_int _) ⟨_, rfl, h⟩ (by decide) (by decide) dL_of_17
      · rw [if_neg hE1] at h
        exact h.elim
  · exact v_eret (pc := 7) E rfl (nar_int _) ⟨_, rfl, h⟩ (by decide) (by decide) dL_of_7
