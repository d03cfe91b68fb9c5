/-! L_nestsq -/
abbrev rmL_nestsq : Room := { frames := 7, cells := 0, slots := 0, locals := 114 }
def vsL_nestsq : List Cond := wsL_nests ++ hL3
def fL_nestsq (M : hM) (a0 : Option Nat) (a1 : Int32) (a2 : Int32) : Option Int32 :=
  (hC M 4 a0).bind fun y2 =>
  (fX4_nestsq M y2 a1 a2).bind fun x1 =>
  if (x1 : Int32) = 0 then (
    some 0
  ) else (
    some 1
  )
set_option maxRecDepth 100000 in
set_option maxHeartbeats 4000000 in
theorem cL_nestsq_met (l : Launch) (G : hG) (M : hM) {a0 : Option Nat} {a1 : Int32} {a2 : Int32} {r : Int32} (h : fL_nestsq M a0 a1 a2 = some r) : hPMet l yL_nests vsL_nestsq rmL_nestsq [va_rf a0, .int a1, .int a2] G M (some (.int r)) := by
  refine hp_entryH (hh := [(0, 14, 15, 23)]) (own := RL) (cc := cL_nests) (maxL := 4) (ret := (some .int)) (lv := [some (va_rf a0), some (.int a1), some (.int a2), none]) (by decide) rfl rfl (hcc (rf_cat _) (hcc rfl (hcc rfl hc0))) (Nat.le_of_ble_eq_true rfl) rfl (fun κ hG hl hR P => ?_)
  subst hG; subst hl
  unfold fL_nestsq at h
  have C := P.1
  refine v_aload_n C (pc := 0) (i := 0) dL_nests_0 rfl ?_
  refine v_iload_n C (pc := 1) (i := 1) dL_nests_1 rfl ?_
  refine v_iload_n C (pc := 2) (i := 2) dL_nests_2 rfl ?_
  obtain ⟨y2, hy2, hh⟩ := Option.bind_eq_some_iff.mp h
  clear h
  obtain ⟨rfl, fsy2, hfy2⟩ := hC_inv hy2
  have h := hh
  clear hh
  obtain ⟨x1, e1, h⟩ := Option.bind_eq_some_iff.mp h
  refine v_pV C (pc := 3) (ci := 4) [.int a1, .int a2] 2 (cX4_nestsq_met (kl κ) (kG κ) _ e1) hfy2 rfl (good_l gL_nests_X4_nests) rfl hdX4_nests rfl rfl rfl (by rw [hR]; exact ⟨Nat.le_of_ble_eq_true rfl, Nat.le_of_ble_eq_true rfl⟩) ⟨Nat.zero_le _, Nat.zero_le _⟩ (Nat.le_of_ble_eq_true rfl) rfl dL_nests_3 ?_
  refine v_if_eq C (pc := 6) (tgt := 13) dL_nests_6 (by decide) (fun c3 => ?_) (fun c3 => ?_)
  · rw [if_pos c3] at h
    refine v_iconst C (pc := 13) (v := 0) dL_nests_13 (by decide) ?_
    have h := Option.some.inj h
    subst h
    exact v_pret (pc := 14) P rfl rfl (nar_int _) dL_nests_14
  · rw [if_neg c3] at h
    refine v_iconst C (pc := 9) (v := 1) dL_nests_9 (by decide) ?_
    refine v_goto C (pc := 10) (tgt := 14) dL_nests_10 (by decide) ?_
    have h := Option.some.inj h
    subst h
    exact v_pret (pc := 14) P rfl rfl (nar_int _) dL_nests_14
/-! L_strengthq -/
abbrev rmL_strengthq : Room := { frames := 8, cells := 0, slots := 0, locals := 139 }
def vsL_strengthq : List Cond := wsL_strength ++ hL3
def fL_strengthq (M : hM) (a0 : Option Nat) (a1 : Int32) (a2 : Int32) (a3 : Int32) (a4 : Int32) : Option Int32 :=
  (hC M 4 a0).bind fun y2 =>
  (fX4_strengthq M y2 a1 a2 a3 a4).bind fun x1 =>
  some x1
set_option maxRecDepth 100000 in
set_option maxHeartbeats 4000000 in
theorem cL_strengthq_met (l : Launch) (G : hG) (M : hM) {a0 : Option Nat} {a1 : Int32} {a2 : Int32} {a3 : Int32} {a4 : Int32} {r : Int32} (h : fL_strengthq M a0 a1 a2 a3 a4 = some r) : hPMet l yL_strength vsL_strengthq rmL_strengthq [va_rf a0, .int a1, .int a2, .int a3, .int a4] G M (some (.int r)) := by
  refine hp_entryH (hh := [(0, 9, 10, 23), (0, 9, 15, 13)]) (own := RL) (cc := cL_strength) (maxL := 6) (ret := (some .int)) (lv := [some (va_rf a0), some (.int a1), some (.int a2), some (.int a3), some (.int a4), none]) (by decide) rfl rfl (hcc (rf_cat _) (hcc rfl (hcc rfl (hcc rfl (hcc rfl hc0))))) (Nat.le_of_ble_eq_true rfl) rfl (fun κ hG hl hR P => ?_)
  subst hG; subst hl
  unfold fL_strengthq at h
  have C := P.1
  refine v_aload_n C (pc := 0) (i := 0) dL_strength_0 rfl ?_
  refine v_iload_n C (pc := 1) (i := 1) dL_strength_1 rfl ?_
  refine v_iload_n C (pc := 2) (i := 2) dL_strength_2 rfl ?_
  refine v_iload_n C (pc := 3) (i := 3) dL_strength_3 rfl ?_
  refine v_iload C (pc := 4) (i := 4) dL_strength_4 rfl ?_
  obtain ⟨y2, hy2, hh⟩ := Option.bind_eq_some_iff.mp h
  clear h
  obtain ⟨rfl, fsy2, hfy2⟩ := hC_inv hy2
  have h := hh
  clear hh
  obtain ⟨x1, e1, h⟩ := Option.bind_eq_some_iff.mp h
  refine v_pV C (pc := 6) (ci := 4) [.int a1, .int a2, .int a3, .int a4] 4 (cX4_strengthq_met (kl κ) (kG κ) _ e1) hfy2 rfl (good_l gL_strength_X4_strength) rfl hdX4_strength rfl rfl rfl (by rw [hR]; exact ⟨Nat.le_of_ble_eq_true rfl, Nat.le_of_ble_eq_true rfl⟩) ⟨Nat.zero_le _, Nat.zero_le _⟩ (Nat.le_of_ble_eq_true rfl) rfl dL_strength_6 ?_
  have h := Option.some.inj h
  subst h
  exact v_pret (pc := 9) P rfl rfl (nar_int _) dL_strength_9
/-! L_whyNotq -/
abbrev rmL_whyNotq : Room := { frames := 8, cells := 0, slots := 0, locals := 144 }
def vsL_whyNotq : List Cond := wsL_whyNot ++ hL3
def fL_whyNotq (M : hM) (a0 : Option Nat) (a1 : Int32) (a2 : Int32) (a3 : Int32) (a4 : Int32) : Option Int32 :=
  (hC M 4 a0).bind fun y2 =>
  (fX4_whyNotq M y2 a1 a2 a3 a4).bind fun x1 =>
  some x1
set_option maxRecDepth 100000 in
set_option maxHeartbeats 4000000 in
theorem cL_whyNotq_met (l : Launch) (G : hG) (M : hM) {a0 : Option Nat} {a1 : Int32} {a2 : Int32} {a3 : Int32} {a4 : Int32} {r : Int32} (h : fL_whyNotq M a0 a1 a2 a3 a4 = some r) : hPMet l yL_whyNot vsL_whyNotq rmL_whyNotq [va_rf a0, .int a1, .int a2, .int a3, .int a4] G M (some (.int r)) := by
  refine hp_entryH (hh := [(0, 9, 10, 23), (0, 9, 15, 13)]) (own := RL) (cc := cL_whyNot) (maxL := 6) (ret := (some .int)) (lv := [some (va_rf a0), some (.int a1), some (.int a2), some (.int a3), some (.int a4), none]) (by decide) rfl rfl (hcc (rf_cat _) (hcc rfl (hcc rfl (hcc rfl (hcc rfl hc0))))) (Nat.le_of_ble_eq_true rfl) rfl (fun κ hG hl hR P => ?_)
  subst hG; subst hl
  unfold fL_whyNotq at h
  have C := P.1
  refine v_aload_n C (pc := 0) (i := 0) dL_whyNot_0 rfl ?_
  refine v_iload_n C (pc := 1) (i := 1) dL_whyNot_1 rfl ?_
  refine v_iload_n C (pc := 2) (i := 2) dL_whyNot_2 rfl ?_
  refine v_iload_n C (pc := 3) (i := 3) dL_whyNot_3 rfl ?_
  refine v_iload C (pc := 4) (i := 4) dL_whyNot_4 rfl ?_
  obtain ⟨y2, hy2, hh⟩ := Option.bind_eq_some_iff.mp h
  clear h
  obtain ⟨rfl, fsy2, hfy2⟩ := hC_inv hy2
  have h := hh
  clear hh
  obtain ⟨x1, e1, h⟩ := Option.bind_eq_some_iff.mp h
  refine v_pV C (pc := 6) (ci := 4) [.int a1, .int a2, .int a3, .int a4] 4 (cX4_whyNotq_met (kl κ) (kG κ) _ e1) hfy2 rfl (good_l gL_whyNot_X4_whyNot) rfl hdX4_whyNot rfl rfl rfl (by rw [hR]; exact ⟨Nat.le_of_ble_eq_true rfl, Nat.le_of_ble_eq_true rfl⟩) ⟨Nat.zero_le _, Nat.zero_le _⟩ (Nat.le_of_ble_eq_true rfl) rfl dL_whyNot_6 ?_
  have h := Option.some.inj h
  subst h
  exact v_pret (pc := 9) P rfl rfl (nar_int _) dL_whyNot_9
/-! L_bestq -/
abbrev rmL_bestq : Room := { frames := 8, cells := 0, slots := 0, locals := 168 }
def vsL_bestq : List Cond := wsL_best ++ hL3
def fL_bestq (M : hM) (a0 : Option Nat) (a1 : Int32) (a2 : Int32) (a3 : Int32) : Option Int32 :=
  (hC M 4 a0).bind fun y2 =>
  (fX4_bestq M y2 a1 a2 a3).bind fun x1 =>
  some x1
set_option maxRecDepth 100000 in
set_option maxHeartbeats 4000000 in
theorem cL_bestq_met (l : Launch) (G : hG) (M : hM) {a0 : Option Nat} {a1 : Int32} {a2 : Int32} {a3 : Int32} {r : Int32} (h : fL_bestq M a0 a1 a2 a3 = some r) : hPMet l yL_best vsL_bestq rmL_bestq [va_rf a0, .int a1, .int a2, .int a3] G M (some (.int r)) := by
  refine hp_entryH (hh := [(0, 7, 8, 23), (0, 7, 13, 13)]) (own := RL) (cc := cL_best) (maxL := 5) (ret := (some .int)) (lv := [some (va_rf a0), some (.int a1), some (.int a2), some (.int a3), none]) (by decide) rfl rfl (hcc (rf_cat _) (hcc rfl (hcc rfl (hcc rfl hc0)))) (Nat.le_of_ble_eq_true rfl) rfl (fun κ hG hl hR P => ?_)
  subst hG; subst hl
  unfold fL_bestq at h
  have C := P.1
  refine v_aload_n C (pc := 0) (i := 0) dL_best_0 rfl ?_
  refine v_iload_n C (pc := 1) (i := 1) dL_best_1 rfl ?_
  refine v_iload_n C (pc := 2) (i := 2) dL_best_2 rfl ?_
  refine v_iload_n C (pc := 3) (i := 3) dL_best_3 rfl ?_
  obtain ⟨y2, hy2, hh⟩ := Option.bind_eq_some_iff.mp h
  clear h
  obtain ⟨rfl, fsy2, hfy2⟩ := hC_inv hy2
  have h := hh
  clear hh
  obtain ⟨x1, e1, h⟩ := Option.bind_eq_some_iff.mp h
  refine v_pV C (pc := 4) (ci := 4) [.int a1, .int a2, .int a3] 3 (cX4_bestq_met (kl κ) (kG κ) _ e1) hfy2 rfl (good_l gL_best_X4_best) rfl hdX4_best rfl rfl rfl (by rw [hR]; exact ⟨Nat.le_of_ble_eq_true rfl, Nat.le_of_ble_eq_true rfl⟩) ⟨Nat.zero_le _, Nat.zero_le _⟩ (Nat.le_of_ble_eq_true rfl) rfl dL_best_4 ?_
  have h := Option.some.inj h
  subst h
  exact v_pret (pc := 7) P rfl rfl (nar_int _) dL_best_7
/-! L_anewq -/
abbrev rmL_anewq : Room := { frames := 8, cells := 0, slots := 0, locals := 167 }
def vsL_anewq : List Cond := wsL_anew ++ hL3
def fL_anewq (M : hM) (a0 : Option Nat) (a1 : Int32) (a2 : Int32) (a3 : Int32) : Option Int32 :=
  (hC M 4 a0).bind fun y2 =>
  (fX4_bestAnewq M y2 a1 a2 a3).bind fun x1 =>
  some x1
set_option maxRecDepth 100000 in
set_option maxHeartbeats 4000000 in
theorem cL_anewq_met (l : Launch) (G : hG) (M : hM) {a0 : Option Nat} {a1 : Int32} {a2 : Int32} {a3 : Int32} {r : Int32} (h : fL_anewq M a0 a1 a2 a3 = some r) : hPMet l yL_anew vsL_anewq rmL_anewq [va_rf a0, .int a1, .int a2, .int a3] G M (some (.int r)) := by
  refine hp_entryH (hh := [(0, 7, 8, 23), (0, 7, 13, 13)]) (own := RL) (cc := cL_anew) (maxL := 5) (ret := (some .int)) (lv := [some (va_rf a0), some (.int a1), some (.int a2), some (.int a3), none]) (by decide) rfl rfl (hcc (rf_cat _) (hcc rfl (hcc rfl (hcc rfl hc0)))) (Nat.le_of_ble_eq_true rfl) rfl (fun κ hG hl hR P => ?_)
  subst hG; subst hl
  unfold fL_anewq at h
  have C := P.1
  refine v_aload_n C (pc := 0) (i := 0) dL_anew_0 rfl ?_
  refine v_iload_n C (pc := 1) (i := 1) dL_anew_1 rfl ?_
  refine v_iload_n C (pc := 2) (i := 2) dL_anew_2 rfl ?_
  refine v_iload_n C (pc := 3) (i := 3) dL_anew_3 rfl ?_
  obtain ⟨y2, hy2, hh⟩ := Option.bind_eq_some_iff.mp h
  clear h
  obtain ⟨rfl, fsy2, hfy2⟩ := hC_inv hy2
  have h := hh
  clear hh
  obtain ⟨x1, e1, h⟩ := Option.bind_eq_some_iff.mp h
  refine v_pV C (pc := 4) (ci := 4) [.int a1, .int a2, .int a3] 3 (cX4_bestAnewq_met (kl κ) (kG κ) _ e1) hfy2 rfl (good_l gL_anew_X4_bestAnew) rfl hdX4_bestAnew rfl rfl rfl (by rw [hR]; exact ⟨Nat.le_of_ble_eq_true rfl, Nat.le_of_ble_eq_true rfl⟩) ⟨Nat.zero_le _, Nat.zero_le _⟩ (Nat.le_of_ble_eq_true rfl) rfl dL_anew_4 ?_
  have h := Option.some.inj h
  subst h
  exact v_pret (pc := 7) P rfl rfl (nar_int _) dL_anew_7
/-! L_ofItemq -/
abbrev rmL_ofItemq : Room := { frames := 7, cells := 0, slots := 0, locals := 113 }
def vsL_ofItemq : List Cond := wsL_ofItem ++ hL3
def fL_ofItemq (M : hM) (a0 : Option Nat) (a1 : Int32) (a2 : Int32) : Option Int32 :=
  (hC M 4 a0).bind fun y2 =>
  (fX4_ofItemq M y2 a1 a2).bind fun x1 =>
  some x1
set_option maxRecDepth 100000 in
set_option maxHeartbeats 4000000 in
theorem cL_ofItemq_met (l : Launch) (G : hG) (M : hM) {a0 : Option Nat} {a1 : Int32} {a2 : Int32} {r : Int32} (h : fL_ofItemq M a0 a1 a2 = some r) : hPMet l yL_ofItem vsL_ofItemq rmL_ofItemq [va_rf a0, .int a1, .int a2] G M (some (.int r)) := by
  refine hp_entryH (hh := [(0, 6, 7, 23), (0, 6, 11, 13)]) (own := RL) (cc := cL_ofItem) (maxL := 4) (ret := (some .int)) (lv := [some (va_rf a0), some (.int a1), some (.int a2), none]) (by decide) rfl rfl (hcc (rf_cat _) (hcc rfl (hcc rfl hc0))) (Nat.le_of_ble_eq_true rfl) rfl (fun κ hG hl hR P => ?_)
  subst hG; subst hl
  unfold fL_ofItemq at h
  have C := P.1
  refine v_aload_n C (pc := 0) (i := 0) dL_ofItem_0 rfl ?_
  refine v_iload_n C (pc := 1) (i := 1) dL_ofItem_1 rfl ?_
  refine v_iload_n C (pc := 2) (i := 2) dL_ofItem_2 rfl ?_
  obtain ⟨y2, hy2, hh⟩ := Option.bind_eq_some_iff.mp h
  clear h
  obtain ⟨rfl, fsy2, hfy2⟩ := hC_inv hy2
  have h := hh
  clear hh
  obtain ⟨x1, e1, h⟩ := Option.bind_eq_some_iff.mp h
  refine v_pV C (pc := 3) (ci := 4) [.int a1, .int a2] 2 (cX4_ofItemq_met (kl κ) (kG κ) _ e1) hfy2 rfl (good_l gL_ofItem_X4_ofItem) rfl hdX4_ofItem rfl rfl rfl (by rw [hR]; exact ⟨Nat.le_of_ble_eq_true rfl, Nat.le_of_ble_eq_true rfl⟩) ⟨Nat.zero_le _, Nat.zero_le _⟩ (Nat.le_of_ble_eq_true rfl) rfl dL_ofItem_3 ?_
  have h := Option.some.inj h
  subst h
  exact v_pret (pc := 6) P rfl rfl (nar_int _) dL_ofItem_6
/-! L_ofq -/
abbrev rmL_ofq : Room := { frames := 8, cells := 0, slots := 0, locals := 138 }
def vsL_ofq : List Cond := wsL_of ++ hL3
def fL_ofq (M : hM) (a0 : Option Nat) (a1 : Int32) (a2 : Int32) (a3 : Int32) : Option Int32 :=
  (hC M 4 a0).bind fun y2 =>
  (fX4_ofAccusedq M y2 a1 a2 a3).bind fun x1 =>
  some x1
set_option maxRecDepth 100000 in
set_option maxHeartbeats 4000000 in
theorem cL_ofq_met (l : Launch) (G : hG) (M : hM) {a0 : Option Nat} {a1 : Int32} {a2 : Int32} {a3 : Int32} {r : Int32} (h : fL_ofq M a0 a1 a2 a3 = some r) : hPMet l yL_of vsL_ofq rmL_ofq [va_rf a0, .int a1, .int a2, .int a3] G M (some (.int r)) := by
  refine hp_entryH (hh := [(0, 7, 8, 23), (0, 7, 13, 13)]) (own := RL) (cc := cL_of) (maxL := 5) (ret := (some .int)) (lv := [some (va_rf a0), some (.int a1), some (.int a2), some (.int a3), none]) (by decide) rfl rfl (hcc (rf_cat _) (hcc rfl (hcc rfl (hcc rfl hc0)))) (Nat.le_of_ble_eq_true rfl) rfl (fun κ hG hl hR P => ?_)
  subst hG; subst hl
  unfold fL_ofq at h
  have C := P.1
  refine v_aload_n C (pc := 0) (i := 0) dL_of_0 rfl ?_
  refine v_iload_n C (pc := 1) (i := 1) dL_of_1 rfl ?_
  refine v_iload_n C (pc := 2) (i := 2) dL_of_2 rfl ?_
  refine v_iload_n C (pc := 3) (i := 3) dL_of_3 rfl ?_
  obtain ⟨y2, hy2, hh⟩ := Option.bind_eq_some_iff.mp h
  clear h
  obtain ⟨rfl, fsy2, hfy2⟩ := hC_inv hy2
  have h := hh
  clear hh
  obtain ⟨x1, e1, h⟩ := Option.bind_eq_some_iff.mp h
  refine v_pV C (pc := 4) (ci := 4) [.int a1, .int a2, .int a3] 3 (cX4_ofAccusedq_met (kl κ) (kG κ) _ e1) hfy2 rfl (good_l gL_of_X4_ofAccused) rfl hdX4_ofAccused rfl rfl rfl (by rw [hR]; exact ⟨Nat.le_of_ble_eq_true rfl, Nat.le_of_ble_eq_true rfl⟩) ⟨Nat.zero_le _, Nat.zero_le _⟩ (Nat.le_of_ble_eq_true rfl) rfl dL_of_4 ?_
  have h := Option.some.inj h
  subst h
  exact v_pret (pc := 7) P rfl rfl (nar_int _) dL_of_7
/-! L_countq -/
abbrev rmL_countq : Room := { frames := 7, cells := 0, slots := 0, locals := 111 }
def vsL_countq : List Cond := wsL_count ++ hL3
def fL_countq (M : hM) (a0 : Option Nat) (a1 : Int32) : Option Int32 :=
  (hC M 4 a0).bind fun y2 =>
  (fX4_countq M y2 a1).bind fun x1 =>
  some x1
set_option maxRecDepth 100000 in
set_option maxHeartbeats 4000000 in
theorem cL_countq_met (l : Launch) (G : hG) (M : hM) {a0 : Option Nat} {a1 : Int32} {r : Int32} (h : fL_countq M a0 a1 = some r) : hPMet l yL_count vsL_countq rmL_countq [va_rf a0, .int a1] G M (some (.int r)) := by
  refine hp_entryH (hh := [(0, 5, 6, 13)]) (own := RL) (cc := cL_count) (maxL := 3) (ret := (some .int)) (lv := [some (va_rf a0), some (.int a1), none]) (by decide) rfl rfl (hcc (rf_cat _) (hcc rfl hc0)) (Nat.le_of_ble_eq_true rfl) rfl (fun κ hG hl hR P => ?_)
  subst hG; subst hl
  unfold fL_countq at h
  have C := P.1
  refine v_aload_n C (pc := 0) (i := 0) dL_count_0 rfl ?_
  refine v_iload_n C (pc := 1) (i := 1) dL_count_1 rfl ?_
  obtain ⟨y2, hy2, hh⟩ := Option.bind_eq_some_iff.mp h
  clear h
  obtain ⟨rfl, fsy2, hfy2⟩ := hC_inv hy2
  have h := hh
  clear hh
  obtain ⟨x1, e1, h⟩ := Option.bind_eq_some_iff.mp h
  refine v_pV C (pc := 2) (ci := 4) [.int a1] 1 (cX4_countq_met (kl κ) (kG κ) _ e1) hfy2 rfl (good_l gL_count_X4_count) rfl hdX4_count rfl rfl rfl (by rw [hR]; exact ⟨Nat.le_of_ble_eq_true rfl, Nat.le_of_ble_eq_true rfl⟩) ⟨Nat.zero_le _, Nat.zero_le _⟩ (Nat.le_of_ble_eq_true rfl) rfl dL_count_2 ?_
  have h := Option.some.inj h
  subst h
  exact v_pret (pc := 5) P rfl rfl (nar_int _) dL_count_5
/-! L_isRefused -/
abbrev rmL_isRefused : Room := { frames := 0, cells := 0, slots := 0, locals := 0 }
def vsL_isRefused : List Cond := wsL_isRefused ++ hL3
def bL_isRefused_18  : Option Int32 :=
  some 1
set_option maxRecDepth 100000 in
set_option maxHeartbeats 4000000 in
theorem tbL_isRefused_18 {κ : hKx} {M : hM} {r : Int32} (P : Cp κ RL cL_isRefused vsL_isRefused (some .boolean) (some (.int r))) (hR : kR κ = rmL_isRefused)    (h : bL_isRefused_18  = some r) : VW κ 0 0 M 18 [none] [] := by
  unfold bL_isRefused_18 at h
  have C := P.1
  refine v_iconst C (pc := 18) (v := 1) dL_isRefused_18 (by decide) ?_
  refine v_goto C (pc := 19) (tgt := 23) dL_isRefused_19 (by decide) ?_
  have h := Option.some.inj h
  subst h
  exact v_pret (pc := 23) P rfl rfl (by decide +kernel) dL_isRefused_23
def fL_isRefused (a0 : Int32) : Option Int32 :=
  if (a0 : Int32) = -2000000001 then (
    bL_isRefused_18 
  ) else (
    if (a0 : Int32) = -2000000002 then (
      bL_isRefused_18 
    ) else (
      if (a0 : Int32) = -2000000003 then (
        bL_isRefused_18 
      ) else (
        some 0
      )
    )
  )
set_option maxRecDepth 100000 in
set_option maxHeartbeats 4000000 in
theorem cL_isRefused_met (l : Launch) (G : hG) (M : hM) {a0 : Int32} {r : Int32} (h : fL_isRefused a0 = some r) : hPMet l yL_isRefused vsL_isRefused rmL_isRefused [.int a0] G M (some (.int r)) := by
  refine hp_entry (own := RL) (cc := cL_isRefused) (maxL := 1) (ret := (some .boolean)) (lv := [some (.int a0)]) (by decide) rfl rfl (hcc rfl hc0) (Nat.le_of_ble_eq_true rfl) rfl (fun κ hG hl hR P => ?_)
  subst hG; subst hl
  unfold fL_isRefused at h
  have C := P.1
  refine v_iload_n C (pc := 0) (i := 0) dL_isRefused_0 rfl ?_
  refine v_ldc C (pc := 1) (v := -2000000001) (List.mem_append_left _ (List.mem_cons_of_mem _ (List.mem_of_getElem? (i := 0) rfl))) dL_isRefused_1 ?_
  refine v_icmp_eq C (pc := 3) (tgt := 18) dL_isRefused_3 (by decide) (fun c1 => ?_) (fun c1 => ?_)
  · rw [if_pos c1] at h
    refine v_mask (lv' := [none]) [false] rfl rfl ?_
    exact tbL_isRefused_18 P hR  h
  · rw [if_neg c1] at h
    refine v_iload_n C (pc := 6) (i := 0) dL_isRefused_6 rfl ?_
    refine v_ldc C (pc := 7) (v := -2000000002) (List.mem_append_left _ (List.mem_cons_of_mem _ (List.mem_of_getElem? (i := 1) rfl))) dL_isRefused_7 ?_
    refine v_icmp_eq C (pc := 9) (tgt := 18) dL_isRefused_9 (by decide) (fun c2 => ?_) (fun c2 => ?_)
    · rw [if_pos c2] at h
      refine v_mask (lv' := [none]) [false] rfl rfl ?_
      exact tbL_isRefused_18 P hR  h
    · rw [if_neg c2] at h
      refine v_iload_n C (pc := 12) (i := 0) dL_isRefused_12 rfl ?_
      refine v_ldc C (pc := 13) (v := -2000000003) (List.mem_append_left _ (List.mem_cons_of_mem _ (List.mem_of_getElem? (i := 2) rfl))) dL_isRefused_13 ?_
      refine v_icmp_ne C (pc := 15) (tgt := 22) dL_isRefused_15 (by decide) (fun c3 => ?_) (fun c3 => ?_)
      · rw [if_neg c3] at h
        refine v_iconst C (pc := 22) (v := 0) dL_isRefused_22 (by decide) ?_
        have h := Option.some.inj h
        subst h
        exact v_pret (pc := 23) P rfl rfl (by decide +kernel) dL_isRefused_23
      · rw [if_pos c3] at h
        refine v_mask (lv' := [none]) [false] rfl rfl ?_
        exact tbL_isRefused_18 P hR  h
/-! L_bits -/
abbrev rmL_bits : Room := { frames := 0, cells := 0, slots := 0, locals := 0 }
def vsL_bits : List Cond := wsL_bits ++ hL3
def lL_bits_4 (a0 : Int32) : Nat → Int32 → Int32 → Option Int32
  | 0, _ , _ => none
  | n + 1, a1, a2 =>
    if (8 : Int32) ≤ a2 then (
      some a1
    ) else (
      (lL_bits_4 a0 n) (a1 + ((a0 >>> (a2 &&& 31)) &&& 1)) (a2 + 1)
    )
set_option maxRecDepth 100000 in
set_option maxHeartbeats 4000000 in
theorem tlL_bits_4 {κ : hKx} {M : hM} {r : Int32} (P : Cp κ RL cL_bits vsL_bits (some .int) (some (.int r))) (hR : kR κ = rmL_bits)  {a0 : Int32}  : ∀ (n : Nat) (a1 : Int32) (a2 : Int32), lL_bits_4 a0 n a1 a2 = some r → VW κ 0 0 M 4 [some (.int a0), some (.int a1), some (.int a2)] [] := by
  have C := P.1
  intro n
  induction n with
  | zero =>
    intro a1 a2 h
    unfold lL_bits_4 at h
    cases h
  | succ n ih =>
    intro a1 a2 h
    unfold lL_bits_4 at h
    refine v_iload_n C (pc := 4) (i := 2) dL_bits_4 rfl ?_
    refine v_bipush C (pc := 5) (v := 8) dL_bits_5 (by decide) ?_
    refine v_icmp_ge C (pc := 7) (tgt := 24) dL_bits_7 (by decide) (fun c1 => ?_) (fun c1 => ?_)
    · rw [if_pos c1] at h
      refine v_iload_n C (pc := 24) (i := 1) dL_bits_24 rfl ?_
      have h := Option.some.inj h
      subst h
      exact v_pret (pc := 25) P rfl rfl (nar_int _) dL_bits_25
    · rw [if_neg c1] at h
      refine v_iload_n C (pc := 10) (i := 1) dL_bits_10 rfl ?_
      refine v_iload_n C (pc := 11) (i := 0) dL_bits_11 rfl ?_
      refine v_iload_n C (pc := 12) (i := 2) dL_bits_12 rfl ?_
      refine v_ishr C (pc := 13) dL_bits_13 ?_
      refine v_iconst C (pc := 14) (v := 1) dL_bits_14 (by decide) ?_
      refine v_iand C (pc := 15) dL_bits_15 ?_
      refine v_iadd C (pc := 16) dL_bits_16 ?_
      refine v_istore_n C (pc := 17) (i := 1) (lv' := [some (.int a0), some (.int (a1 + ((a0 >>> (a2 &&& 31)) &&& 1))), some (.int a2)]) dL_bits_17 rfl (lw_bi (j := 0) rfl) rfl ?_
      refine v_iinc C (pc := 18) (i := 2) (w := 1) (lv' := [some (.int a0), some (.int (a1 + ((a0 >>> (a2 &&& 31)) &&& 1))), some (.int (a2 + 1))]) dL_bits_18 rfl (by decide) rfl ?_
      refine v_goto C (pc := 21) (tgt := 4) dL_bits_21 (by decide) ?_
      exact ih _ _ h
def fL_bits (a0 : Int32) : Option Int32 :=
  lL_bits_4 a0 1000 0 0
set_option maxRecDepth 100000 in
set_option maxHeartbeats 4000000 in
theorem cL_bits_met (l : Launch) (G : hG) (M : hM) {a0 : Int32} {r : Int32} (h : fL_bits a0 = some r) : hPMet l yL_bits vsL_bits rmL_bits [.int a0] G M (some (.int r)) := by
  refine hp_entry (own := RL) (cc := cL_bits) (maxL := 3) (ret := (some .int)) (lv := [some (.int a0), none, none]) (by decide) rfl rfl (hcc rfl hc0) (Nat.le_of_ble_eq_true rfl) rfl (fun κ hG hl hR P => ?_)
  subst hG; subst hl
  unfold fL_bits at h
  have C := P.1
  refine v_iconst C (pc := 0) (v := 0) dL_bits_0 (by decide) ?_
  refine v_istore_n C (pc := 1) (i := 1) (lv' := [some (.int a0), some (.int 0), none]) dL_bits_1 rfl (lw_bi (j := 0) rfl) rfl ?_
  refine v_iconst C (pc := 2) (v := 0) dL_bits_2 (by decide) ?_
  refine v_istore_n C (pc := 3) (i := 2) (lv' := [some (.int a0), some (.int 0), some (.int 0)]) dL_bits_3 rfl (lw_bi (j := 1) rfl) rfl ?_
  exact tlL_bits_4 P hR  1000 _ _ h
/-! L_mix -/
abbrev rmL_mix : Room := { frames := 9, cells := 0, slots := 0, locals := 162 }
def vsL_mix : List Cond := wsL_mix ++ hL3
def lL_mix_191 (M : hM) (a0 : Option Nat) (a1 : Option Nat) : Nat → Int64 → Int32 → Option Int64
  | 0, _ , _ => none
  | n + 1, a3, a5 =>
    (aI M 0 a1 0).bind fun x8 =>
    (aI M 0 a1 0).bind fun x9 =>
    if ((x8 * x9) : Int32) ≤ a5 then (
      some a3
    ) else (
      (aI M 0 a1 0).bind fun x11 =>
      (dvI a5 x11).bind fun x12 =>
      (aI M 0 a1 0).bind fun x13 =>
      (rmI a5 x13).bind fun x14 =>
      (fL_nestsq M a0 (a5 / x11) (a5 - a5 / x13 * x13)).bind fun x15 =>
      (lL_mix_191 M a0 a1 n) ((43 * a3) + (Int32.toInt64 x15)) (a5 + 1)
    )
set_option maxRecDepth 100000 in
set_option maxHeartbeats 4000000 in
theorem tlL_mix_191 {κ : hKx} {M : hM} {r : Int64} (P : Cp κ RL cL_mix vsL_mix (some .long) (some (.long r))) (hR : kR κ = rmL_mix)  {a0 : Option Nat} {a1 : Option Nat}  : ∀ (n : Nat) (a3 : Int64) (a5 : Int32), lL_mix_191 M a0 a1 n a3 a5 = some r → VW κ 0 0 M 191 [some (va_rf a0), some (va_rf a1), none, some (.long a3), none, some (.int a5), none] [] := by
  have C := P.1
  intro n
  induction n with
  | zero =>
    intro a3 a5 h
    unfold lL_mix_191 at h
    cases h
  | succ n ih =>
    intro a3 a5 h
    unfold lL_mix_191 at h
    refine v_iload C (pc := 191) (i := 5) dL_mix_191 rfl ?_
    refine v_aload_n C (pc := 193) (i := 1) dL_mix_193 rfl ?_
    refine v_iconst C (pc := 194) (v := 0) dL_mix_194 (by decide) ?_
    obtain ⟨x8, e8, h⟩ := Option.bind_eq_some_iff.mp h
    refine v_iald C (pc := 195) e8 dL_mix_195 ?_
    refine v_aload_n C (pc := 196) (i := 1) dL_mix_196 rfl ?_
    refine v_iconst C (pc := 197) (v := 0) dL_mix_197 (by decide) ?_
    obtain ⟨x9, e9, h⟩ := Option.bind_eq_some_iff.mp h
    refine v_iald C (pc := 198) e9 dL_mix_198 ?_
    refine v_imul C (pc := 199) dL_mix_199 ?_
    refine v_icmp_ge C (pc := 200) (tgt := 233) dL_mix_200 (by decide) (fun c10 => ?_) (fun c10 => ?_)
    · rw [if_pos c10] at h
      refine v_lload_n C (pc := 233) (i := 3) dL_mix_233 rfl ?_
      have h := Option.some.inj h
      subst h
      exact v_pretJ (pc := 234) P rfl rfl dL_mix_234
    · rw [if_neg c10] at h
      refine v_ldc2 C (pc := 203) (v := 43) (List.mem_append_left _ (List.mem_cons_of_mem _ (List.mem_append_left _ (List.mem_append_left _ (List.mem_append_left _ (List.mem_append_left _ (List.mem_append_left _ (List.mem_append_left _ (List.mem_append_left _ (List.mem_append_left _ (List.mem_of_getElem? (i := 6) rfl))))))))))) dL_mix_203 ?_
      refine v_lload_n C (pc := 206) (i := 3) dL_mix_206 rfl ?_
      refine v_lmul C (pc := 207) dL_mix_207 ?_
      refine v_aload_n C (pc := 208) (i := 0) dL_mix_208 rfl ?_
      refine v_iload C (pc := 209) (i := 5) dL_mix_209 rfl ?_
      refine v_aload_n C (pc := 211) (i := 1) dL_mix_211 rfl ?_
      refine v_iconst C (pc := 212) (v := 0) dL_mix_212 (by decide) ?_
      obtain ⟨x11, e11, h⟩ := Option.bind_eq_some_iff.mp h
      refine v_iald C (pc := 213) e11 dL_mix_213 ?_
      obtain ⟨x12, e12, h⟩ := Option.bind_eq_some_iff.mp h
      obtain ⟨hde12, rfl⟩ := dvI_inv e12
      refine v_idiv C (pc := 214) dL_mix_214 hde12 ?_
      refine v_iload C (pc := 215) (i := 5) dL_mix_215 rfl ?_
      refine v_aload_n C (pc := 217) (i := 1) dL_mix_217 rfl ?_
      refine v_iconst C (pc := 218) (v := 0) dL_mix_218 (by decide) ?_
      obtain ⟨x13, e13, h⟩ := Option.bind_eq_some_iff.mp h
      refine v_iald C (pc := 219) e13 dL_mix_219 ?_
      obtain ⟨x14, e14, h⟩ := Option.bind_eq_some_iff.mp h
      obtain ⟨hde14, rfl⟩ := rmI_inv e14
      refine v_irem C (pc := 220) dL_mix_220 hde14 ?_
      obtain ⟨x15, e15, h⟩ := Option.bind_eq_some_iff.mp h
      refine v_pSH C (pc := 221) [va_rf a0, .int (a5 / x11), .int (a5 - a5 / x13 * x13)] 3 (cL_nestsq_met (kl κ) (kG κ) _ e15) (good_l3 gL_mix_L_nests) rfl hdsL_nests rfl rfl rfl (by rw [hR]; exact ⟨Nat.le_of_ble_eq_true rfl, Nat.le_of_ble_eq_true rfl⟩) ⟨Nat.zero_le _, Nat.zero_le _⟩ (Nat.le_of_ble_eq_true rfl) rfl dL_mix_221 ?_
      refine v_i2l C (pc := 224) dL_mix_224 ?_
      refine v_ladd C (pc := 225) dL_mix_225 ?_
      refine v_lstore_n C (pc := 226) (i := 3) (lv' := [some (va_rf a0), some (va_rf a1), none, some (.long ((43 * a3) + (Int32.toInt64 x15))), none, some (.int a5), none]) dL_mix_226 rfl (lw_bn (j := 2) rfl) rfl ?_
      refine v_iinc C (pc := 227) (i := 5) (w := 1) (lv' := [some (va_rf a0), some (va_rf a1), none, some (.long ((43 * a3) + (Int32.toInt64 x15))), none, some (.int (a5 + 1)), none]) dL_mix_227 rfl (by decide) rfl ?_
      refine v_goto C (pc := 230) (tgt := 191) dL_mix_230 (by decide) ?_
      exact ih _ _ h
def lL_mix_118 (M : hM) (a0 : Option Nat) (a1 : Option Nat) : Nat → Int64 → Int32 → Option Int64
  | 0, _ , _ => none
  | n + 1, a3, a5 =>
    (aI M 0 a1 2).bind fun x6 =>
    if (x6 : Int32) ≤ a5 then (
      lL_mix_191 M a0 a1 1000 a3 0
    ) else (
      (fL_ofItemq M a0 a5 4).bind fun x16 =>
      (fL_ofItemq M a0 a5 5).bind fun x17 =>
      (fL_ofItemq M a0 a5 6).bind fun x18 =>
      (fL_ofItemq M a0 a5 7).bind fun x19 =>
      (lL_mix_118 M a0 a1 n) (((((41 * a3) + (Int32.toInt64 x16)) + (3 * (Int32.toInt64 x17))) + (5 * (Int32.toInt64 x18))) + (7 * (Int32.toInt64 x19))) (a5 + 1)
    )
set_option maxRecDepth 100000 in
set_option maxHeartbeats 4000000 in
theorem tlL_mix_118 {κ : hKx} {M : hM} {r : Int64} (P : Cp κ RL cL_mix vsL_mix (some .long) (some (.long r))) (hR : kR κ = rmL_mix)  {a0 : Option Nat} {a1 : Option Nat}  : ∀ (n : Nat) (a3 : Int64) (a5 : Int32), lL_mix_118 M a0 a1 n a3 a5 = some r → VW κ 0 0 M 118 [some (va_rf a0), some (va_rf a1), none, some (.long a3), none, some (.int a5), none] [] := by
  have C := P.1
  intro n
  induction n with
  | zero =>
    intro a3 a5 h
    unfold lL_mix_118 at h
    cases h
  | succ n ih =>
    intro a3 a5 h
    unfold lL_mix_118 at h
    refine v_iload C (pc := 118) (i := 5) dL_mix_118 rfl ?_
    refine v_aload_n C (pc := 120) (i := 1) dL_mix_120 rfl ?_
    refine v_iconst C (pc := 121) (v := 2) dL_mix_121 (by decide) ?_
    obtain ⟨x6, e6, h⟩ := Option.bind_eq_some_iff.mp h
    refine v_iald C (pc := 122) e6 dL_mix_122 ?_
    refine v_icmp_ge C (pc := 123) (tgt := 188) dL_mix_123 (by decide) (fun c7 => ?_) (fun c7 => ?_)
    · rw [if_pos c7] at h
      refine v_iconst C (pc := 188) (v := 0) dL_mix_188 (by decide) ?_
      refine v_istore C (pc := 189) (i := 5) (lv' := [some (va_rf a0), some (va_rf a1), none, some (.long a3), none, some (.int 0), none]) dL_mix_189 rfl (lw_bn (j := 4) rfl) rfl ?_
      exact tlL_mix_191 P hR  1000 _ _ h
    · rw [if_neg c7] at h
      refine v_ldc2 C (pc := 126) (v := 41) (List.mem_append_left _ (List.mem_cons_of_mem _ (List.mem_append_left _ (List.mem_append_left _ (List.mem_append_left _ (List.mem_append_left _ (List.mem_append_left _ (List.mem_append_left _ (List.mem_append_left _ (List.mem_append_left _ (List.mem_of_getElem? (i := 2) rfl))))))))))) dL_mix_126 ?_
      refine v_lload_n C (pc := 129) (i := 3) dL_mix_129 rfl ?_
      refine v_lmul C (pc := 130) dL_mix_130 ?_
      refine v_aload_n C (pc := 131) (i := 0) dL_mix_131 rfl ?_
      refine v_iload C (pc := 132) (i := 5) dL_mix_132 rfl ?_
      refine v_iconst C (pc := 134) (v := 4) dL_mix_134 (by decide) ?_
      obtain ⟨x16, e16, h⟩ := Option.bind_eq_some_iff.mp h
      refine v_pSH C (pc := 135) [va_rf a0, .int a5, .int 4] 3 (cL_ofItemq_met (kl κ) (kG κ) _ e16) (good_l3 gL_mix_L_ofItem) rfl hdsL_ofItem rfl rfl rfl (by rw [hR]; exact ⟨Nat.le_of_ble_eq_true rfl, Nat.le_of_ble_eq_true rfl⟩) ⟨Nat.zero_le _, Nat.zero_le _⟩ (Nat.le_of_ble_eq_true rfl) rfl dL_mix_135 ?_
      refine v_i2l C (pc := 138) dL_mix_138 ?_
      refine v_ladd C (pc := 139) dL_mix_139 ?_
      refine v_ldc2 C (pc := 140) (v := 3) (List.mem_append_left _ (List.mem_cons_of_mem _ (List.mem_append_left _ (List.mem_append_left _ (List.mem_append_left _ (List.mem_append_left _ (List.mem_append_left _ (List.mem_append_left _ (List.mem_append_left _ (List.mem_append_left _ (List.mem_of_getElem? (i := 3) rfl))))))))))) dL_mix_140 ?_
      refine v_aload_n C (pc := 143) (i := 0) dL_mix_143 rfl ?_
      refine v_iload C (pc := 144) (i := 5) dL_mix_144 rfl ?_
      refine v_iconst C (pc := 146) (v := 5) dL_mix_146 (by decide) ?_
      obtain ⟨x17, e17, h⟩ := Option.bind_eq_some_iff.mp h
      refine v_pSH C (pc := 147) [va_rf a0, .int a5, .int 5] 3 (cL_ofItemq_met (kl κ) (kG κ) _ e17) (good_l3 gL_mix_L_ofItem) rfl hdsL_ofItem rfl rfl rfl (by rw [hR]; exact ⟨Nat.le_of_ble_eq_true rfl, Nat.le_of_ble_eq_true rfl⟩) ⟨Nat.zero_le _, Nat.zero_le _⟩ (Nat.le_of_ble_eq_true rfl) rfl dL_mix_147 ?_
      refine v_i2l C (pc := 150) dL_mix_150 ?_
      refine v_lmul C (pc := 151) dL_mix_151 ?_
      refine v_ladd C (pc := 152) dL_mix_152 ?_
      refine v_ldc2 C (pc := 153) (v := 5) (List.mem_append_left _ (List.mem_cons_of_mem _ (List.mem_append_left _ (List.mem_append_left _ (List.mem_append_left _ (List.mem_append_left _ (List.mem_append_left _ (List.mem_append_left _ (List.mem_append_left _ (List.mem_append_left _ (List.mem_of_getElem? (i := 4) rfl))))))))))) dL_mix_153 ?_
      refine v_aload_n C (pc := 156) (i := 0) dL_mix_156 rfl ?_
      refine v_iload C (pc := 157) (i := 5) dL_mix_157 rfl ?_
      refine v_bipush C (pc := 159) (v := 6) dL_mix_159 (by decide) ?_
      obtain ⟨x18, e18, h⟩ := Option.bind_eq_some_iff.mp h
      refine v_pSH C (pc := 161) [va_rf a0, .int a5, .int 6] 3 (cL_ofItemq_met (kl κ) (kG κ) _ e18) (good_l3 gL_mix_L_ofItem) rfl hdsL_ofItem rfl rfl rfl (by rw [hR]; exact ⟨Nat.le_of_ble_eq_true rfl, Nat.le_of_ble_eq_true rfl⟩) ⟨Nat.zero_le _, Nat.zero_le _⟩ (Nat.le_of_ble_eq_true rfl) rfl dL_mix_161 ?_
      refine v_i2l C (pc := 164) dL_mix_164 ?_
      refine v_lmul C (pc := 165) dL_mix_165 ?_
      refine v_ladd C (pc := 166) dL_mix_166 ?_
      refine v_ldc2 C (pc := 167) (v := 7) (List.mem_append_left _ (List.mem_cons_of_mem _ (List.mem_append_left _ (List.mem_append_left _ (List.mem_append_left _ (List.mem_append_left _ (List.mem_append_left _ (List.mem_append_left _ (List.mem_append_left _ (List.mem_append_left _ (List.mem_of_getElem? (i := 5) rfl))))))))))) dL_mix_167 ?_
      refine v_aload_n C (pc := 170) (i := 0) dL_mix_170 rfl ?_
      refine v_iload C (pc := 171) (i := 5) dL_mix_171 rfl ?_
      refine v_bipush C (pc := 173) (v := 7) dL_mix_173 (by decide) ?_
      obtain ⟨x19, e19, h⟩ := Option.bind_eq_some_iff.mp h
      refine v_pSH C (pc := 175) [va_rf a0, .int a5, .int 7] 3 (cL_ofItemq_met (kl κ) (kG κ) _ e19) (good_l3 gL_mix_L_ofItem) rfl hdsL_ofItem rfl rfl rfl (by rw [hR]; exact ⟨Nat.le_of_ble_eq_true rfl, Nat.le_of_ble_eq_true rfl⟩) ⟨Nat.zero_le _, Nat.zero_le _⟩ (Nat.le_of_ble_eq_true rfl) rfl dL_mix_175 ?_
      refine v_i2l C (pc := 178) dL_mix_178 ?_
      refine v_lmul C (pc := 179) dL_mix_179 ?_
      refine v_ladd C (pc := 180) dL_mix_180 ?_
      refine v_lstore_n C (pc := 181) (i := 3) (lv' := [some (va_rf a0), some (va_rf a1), none, some (.long (((((41 * a3) + (Int32.toInt64 x16)) + (3 * (Int32.toInt64 x17))) + (5 * (Int32.toInt64 x18))) + (7 * (Int32.toInt64 x19)))), none, some (.int a5), none]) dL_mix_181 rfl (lw_bn (j := 2) rfl) rfl ?_
      refine v_iinc C (pc := 182) (i := 5) (w := 1) (lv' := [some (va_rf a0), some (va_rf a1), none, some (.long (((((41 * a3) + (Int32.toInt64 x16)) + (3 * (Int32.toInt64 x17))) + (5 * (Int32.toInt64 x18))) + (7 * (Int32.toInt64 x19)))), none, some (.int (a5 + 1)), none]) dL_mix_182 rfl (by decide) rfl ?_
      refine v_goto C (pc := 185) (tgt := 118) dL_mix_185 (by decide) ?_
      exact ih _ _ h
def lL_mix_72 (M : hM) (k39 : Int64 → Int32 → Option Int64) (a0 : Option Nat) (a1 : Option Nat) (a2 : Option Nat) (a5 : Int32) : Nat → Int64 → Int32 → Option Int64
  | 0, _ , _ => none
  | n + 1, a3, a6 =>
    if (8 : Int32) ≤ a6 then (
      k39 a3 (a5 + 1)
    ) else (
      (fL_ofq M a0 (a5 / 8) (a5 - a5 / 8 * 8) a6).bind fun x23 =>
      (lL_mix_72 M k39 a0 a1 a2 a5 n) ((37 * a3) + (Int32.toInt64 x23)) (a6 + 1)
    )
set_option maxRecDepth 100000 in
set_option maxHeartbeats 4000000 in
theorem tlL_mix_72 {κ : hKx} {M : hM} {r : Int64} (P : Cp κ RL cL_mix vsL_mix (some .long) (some (.long r))) (hR : kR κ = rmL_mix) {k39 : Int64 → Int32 → Option Int64} {a0 : Option Nat} {a1 : Option Nat} {a2 : Option Nat} {a5 : Int32} (hk39 : ∀ (a3 : Int64) (a5 : Int32), k39 a3 a5 = some r → VW κ 0 0 M 39 [some (va_rf a0), some (va_rf a1), some (va_rf a2), some (.long a3), none, some (.int a5), none] []) : ∀ (n : Nat) (a3 : Int64) (a6 : Int32), lL_mix_72 M k39 a0 a1 a2 a5 n a3 a6 = some r → VW κ 0 0 M 72 [some (va_rf a0), some (va_rf a1), some (va_rf a2), some (.long a3), none, some (.int a5), some (.int a6)] [] := by
  have C := P.1
  intro n
  induction n with
  | zero =>
    intro a3 a6 h
    unfold lL_mix_72 at h
    cases h
  | succ n ih =>
    intro a3 a6 h
    unfold lL_mix_72 at h
    refine v_iload C (pc := 72) (i := 6) dL_mix_72 rfl ?_
    refine v_bipush C (pc := 74) (v := 8) dL_mix_74 (by decide) ?_
    refine v_icmp_ge C (pc := 76) (tgt := 109) dL_mix_76 (by decide) (fun c22 => ?_) (fun c22 => ?_)
    · rw [if_pos c22] at h
      refine v_iinc C (pc := 109) (i := 5) (w := 1) (lv' := [some (va_rf a0), some (va_rf a1), some (va_rf a2), some (.long a3), none, some (.int (a5 + 1)), some (.int a6)]) dL_mix_109 rfl (by decide) rfl ?_
      refine v_goto C (pc := 112) (tgt := 39) dL_mix_112 (by decide) ?_
      refine v_mask (lv' := [some (va_rf a0), some (va_rf a1), some (va_rf a2), some (.long a3), none, some (.int (a5 + 1)), none]) [true, true, true, true, false, true, false] rfl rfl ?_
      exact hk39 _ _ h
    · rw [if_neg c22] at h
      refine v_ldc2 C (pc := 79) (v := 37) (List.mem_append_left _ (List.mem_cons_of_mem _ (List.mem_append_left _ (List.mem_append_left _ (List.mem_append_left _ (List.mem_append_left _ (List.mem_append_left _ (List.mem_append_left _ (List.mem_append_left _ (List.mem_append_left _ (List.mem_of_getElem? (i := 1) rfl))))))))))) dL_mix_79 ?_
      refine v_lload_n C (pc := 82) (i := 3) dL_mix_82 rfl ?_
      refine v_lmul C (pc := 83) dL_mix_83 ?_
      refine v_aload_n C (pc := 84) (i := 0) dL_mix_84 rfl ?_
      refine v_iload C (pc := 85) (i := 5) dL_mix_85 rfl ?_
      refine v_bipush C (pc := 87) (v := 8) dL_mix_87 (by decide) ?_
      refine v_idiv C (pc := 89) dL_mix_89 (by decide) ?_
      refine v_iload C (pc := 90) (i := 5) dL_mix_90 rfl ?_
      refine v_bipush C (pc := 92) (v := 8) dL_mix_92 (by decide) ?_
      refine v_irem C (pc := 94) dL_mix_94 (by decide) ?_
      refine v_iload C (pc := 95) (i := 6) dL_mix_95 rfl ?_
      obtain ⟨x23, e23, h⟩ := Option.bind_eq_some_iff.mp h
      refine v_pSH C (pc := 97) [va_rf a0, .int (a5 / 8), .int (a5 - a5 / 8 * 8), .int a6] 4 (cL_ofq_met (kl κ) (kG κ) _ e23) (good_l3 gL_mix_L_of) rfl hdsL_of rfl rfl rfl (by rw [hR]; exact ⟨Nat.le_of_ble_eq_true rfl, Nat.le_of_ble_eq_true rfl⟩) ⟨Nat.zero_le _, Nat.zero_le _⟩ (Nat.le_of_ble_eq_true rfl) rfl dL_mix_97 ?_
      refine v_i2l C (pc := 100) dL_mix_100 ?_
      refine v_ladd C (pc := 101) dL_mix_101 ?_
      refine v_lstore_n C (pc := 102) (i := 3) (lv' := [some (va_rf a0), some (va_rf a1), some (va_rf a2), some (.long ((37 * a3) + (Int32.toInt64 x23))), none, some (.int a5), some (.int a6)]) dL_mix_102 rfl (lw_br (j := 2) rfl) rfl ?_
      refine v_iinc C (pc := 103) (i := 6) (w := 1) (lv' := [some (va_rf a0), some (va_rf a1), some (va_rf a2), some (.long ((37 * a3) + (Int32.toInt64 x23))), none, some (.int a5), some (.int (a6 + 1))]) dL_mix_103 rfl (by decide) rfl ?_
      refine v_goto C (pc := 106) (tgt := 72) dL_mix_106 (by decide) ?_
      exact ih _ _ h
def lL_mix_39 (M : hM) (a0 : Option Nat) (a1 : Option Nat) (a2 : Option Nat) : Nat → Int64 → Int32 → Option Int64
  | 0, _ , _ => none
  | n + 1, a3, a5 =>
    (aI M 0 a1 1).bind fun x4 =>
    if ((8 * x4) : Int32) ≤ a5 then (
      lL_mix_118 M a0 a1 1000 a3 0
    ) else (
      (aI M 0 a2 (a5 / 8)).bind fun x20 =>
      if (((x20 >>> ((a5 - a5 / 8 * 8) &&& 31)) &&& 1) : Int32) = 1 then (
        lL_mix_72 M (lL_mix_39 M a0 a1 a2 n) a0 a1 a2 a5 1000 a3 0
      ) else (
        (lL_mix_39 M a0 a1 a2 n) a3 (a5 + 1)
      )
    )
set_option maxRecDepth 100000 in
set_option maxHeartbeats 4000000 in
theorem tlL_mix_39 {κ : hKx} {M : hM} {r : Int64} (P : Cp κ RL cL_mix vsL_mix (some .long) (some (.long r))) (hR : kR κ = rmL_mix)  {a0 : Option Nat} {a1 : Option Nat} {a2 : Option Nat}  : ∀ (n : Nat) (a3 : Int64) (a5 : Int32), lL_mix_39 M a0 a1 a2 n a3 a5 = some r → VW κ 0 0 M 39 [some (va_rf a0), some (va_rf a1), some (va_rf a2), some (.long a3), none, some (.int a5), none] [] := by
  have C := P.1
  intro n
  induction n with
  | zero =>
    intro a3 a5 h
    unfold lL_mix_39 at h
    cases h
  | succ n ih =>
    intro a3 a5 h
    unfold lL_mix_39 at h
    refine v_iload C (pc := 39) (i := 5) dL_mix_39 rfl ?_
    refine v_bipush C (pc := 41) (v := 8) dL_mix_41 (by decide) ?_
    refine v_aload_n C (pc := 43) (i := 1) dL_mix_43 rfl ?_
    refine v_iconst C (pc := 44) (v := 1) dL_mix_44 (by decide) ?_
    obtain ⟨x4, e4, h⟩ := Option.bind_eq_some_iff.mp h
    refine v_iald C (pc := 45) e4 dL_mix_45 ?_
    refine v_imul C (pc := 46) dL_mix_46 ?_
    refine v_icmp_ge C (pc := 47) (tgt := 115) dL_mix_47 (by decide) (fun c5 => ?_) (fun c5 => ?_)
    · rw [if_pos c5] at h
      refine v_iconst C (pc := 115) (v := 0) dL_mix_115 (by decide) ?_
      refine v_istore C (pc := 116) (i := 5) (lv' := [some (va_rf a0), some (va_rf a1), some (va_rf a2), some (.long a3), none, some (.int 0), none]) dL_mix_116 rfl (lw_bn (j := 4) rfl) rfl ?_
      refine v_mask (lv' := [some (va_rf a0), some (va_rf a1), none, some (.long a3), none, some (.int 0), none]) [true, true, false, true, false, true, false] rfl rfl ?_
      exact tlL_mix_118 P hR  1000 _ _ h
    · rw [if_neg c5] at h
      refine v_aload_n C (pc := 50) (i := 2) dL_mix_50 rfl ?_
      refine v_iload C (pc := 51) (i := 5) dL_mix_51 rfl ?_
      refine v_bipush C (pc := 53) (v := 8) dL_mix_53 (by decide) ?_
      refine v_idiv C (pc := 55) dL_mix_55 (by decide) ?_
      obtain ⟨x20, e20, h⟩ := Option.bind_eq_some_iff.mp h
      refine v_iald C (pc := 56) e20 dL_mix_56 ?_
      refine v_iload C (pc := 57) (i := 5) dL_mix_57 rfl ?_
      refine v_bipush C (pc := 59) (v := 8) dL_mix_59 (by decide) ?_
      refine v_irem C (pc := 61) dL_mix_61 (by decide) ?_
      refine v_ishr C (pc := 62) dL_mix_62 ?_
      refine v_iconst C (pc := 63) (v := 1) dL_mix_63 (by decide) ?_
      refine v_iand C (pc := 64) dL_mix_64 ?_
      refine v_iconst C (pc := 65) (v := 1) dL_mix_65 (by decide) ?_
      refine v_icmp_ne C (pc := 66) (tgt := 109) dL_mix_66 (by decide) (fun c21 => ?_) (fun c21 => ?_)
      · rw [if_neg c21] at h
        refine v_iinc C (pc := 109) (i := 5) (w := 1) (lv' := [some (va_rf a0), some (va_rf a1), some (va_rf a2), some (.long a3), none, some (.int (a5 + 1)), none]) dL_mix_109 rfl (by decide) rfl ?_
        refine v_goto C (pc := 112) (tgt := 39) dL_mix_112 (by decide) ?_
        exact ih _ _ h
      · rw [if_pos c21] at h
        refine v_iconst C (pc := 69) (v := 0) dL_mix_69 (by decide) ?_
        refine v_istore C (pc := 70) (i := 6) (lv' := [some (va_rf a0), some (va_rf a1), some (va_rf a2), some (.long a3), none, some (.int a5), some (.int 0)]) dL_mix_70 rfl (lw_bi (j := 5) rfl) rfl ?_
        exact tlL_mix_72 P hR (fun q0 q1 h => ih q0 q1 h) 1000 _ _ h
def lL_mix_9 (M : hM) (a0 : Option Nat) (a1 : Option Nat) (a2 : Option Nat) : Nat → Int64 → Int32 → Option Int64
  | 0, _ , _ => none
  | n + 1, a3, a5 =>
    if (6 : Int32) ≤ a5 then (
      lL_mix_39 M a0 a1 a2 1000 a3 0
    ) else (
      (fL_countq M a0 a5).bind fun x24 =>
      (lL_mix_9 M a0 a1 a2 n) ((31 * a3) + (Int32.toInt64 x24)) (a5 + 1)
    )
set_option maxRecDepth 100000 in
set_option maxHeartbeats 4000000 in
theorem tlL_mix_9 {κ : hKx} {M : hM} {r : Int64} (P : Cp κ RL cL_mix vsL_mix (some .long) (some (.long r))) (hR : kR κ = rmL_mix)  {a0 : Option Nat} {a1 : Option Nat} {a2 : Option Nat}  : ∀ (n : Nat) (a3 : Int64) (a5 : Int32), lL_mix_9 M a0 a1 a2 n a3 a5 = some r → VW κ 0 0 M 9 [some (va_rf a0), some (va_rf a1), some (va_rf a2), some (.long a3), none, some (.int a5), none] [] := by
  have C := P.1
  intro n
  induction n with
  | zero =>
    intro a3 a5 h
    unfold lL_mix_9 at h
    cases h
  | succ n ih =>
    intro a3 a5 h
    unfold lL_mix_9 at h
    refine v_iload C (pc := 9) (i := 5) dL_mix_9 rfl ?_
    refine v_bipush C (pc := 11) (v := 6) dL_mix_11 (by decide) ?_
    refine v_icmp_ge C (pc := 13) (tgt := 36) dL_mix_13 (by decide) (fun c3 => ?_) (fun c3 => ?_)
    · rw [if_pos c3] at h
      refine v_iconst C (pc := 36) (v := 0) dL_mix_36 (by decide) ?_
      refine v_istore C (pc := 37) (i := 5) (lv' := [some (va_rf a0), some (va_rf a1), some (va_rf a2), some (.long a3), none, some (.int 0), none]) dL_mix_37 rfl (lw_bn (j := 4) rfl) rfl ?_
      exact tlL_mix_39 P hR  1000 _ _ h
    · rw [if_neg c3] at h
      refine v_ldc2 C (pc := 16) (v := 31) (List.mem_append_left _ (List.mem_cons_of_mem _ (List.mem_append_left _ (List.mem_append_left _ (List.mem_append_left _ (List.mem_append_left _ (List.mem_append_left _ (List.mem_append_left _ (List.mem_append_left _ (List.mem_append_left _ (List.mem_of_getElem? (i := 0) rfl))))))))))) dL_mix_16 ?_
      refine v_lload_n C (pc := 19) (i := 3) dL_mix_19 rfl ?_
      refine v_lmul C (pc := 20) dL_mix_20 ?_
      refine v_aload_n C (pc := 21) (i := 0) dL_mix_21 rfl ?_
      refine v_iload C (pc := 22) (i := 5) dL_mix_22 rfl ?_
      obtain ⟨x24, e24, h⟩ := Option.bind_eq_some_iff.mp h
      refine v_pSH C (pc := 24) [va_rf a0, .int a5] 2 (cL_countq_met (kl κ) (kG κ) _ e24) (good_l3 gL_mix_L_count) rfl hdsL_count rfl rfl rfl (by rw [hR]; exact ⟨Nat.le_of_ble_eq_true rfl, Nat.le_of_ble_eq_true rfl⟩) ⟨Nat.zero_le _, Nat.zero_le _⟩ (Nat.le_of_ble_eq_true rfl) rfl dL_mix_24 ?_
      refine v_i2l C (pc := 27) dL_mix_27 ?_
      refine v_ladd C (pc := 28) dL_mix_28 ?_
      refine v_lstore_n C (pc := 29) (i := 3) (lv' := [some (va_rf a0), some (va_rf a1), some (va_rf a2), some (.long ((31 * a3) + (Int32.toInt64 x24))), none, some (.int a5), none]) dL_mix_29 rfl (lw_br (j := 2) rfl) rfl ?_
      refine v_iinc C (pc := 30) (i := 5) (w := 1) (lv' := [some (va_rf a0), some (va_rf a1), some (va_rf a2), some (.long ((31 * a3) + (Int32.toInt64 x24))), none, some (.int (a5 + 1)), none]) dL_mix_30 rfl (by decide) rfl ?_
      refine v_goto C (pc := 33) (tgt := 9) dL_mix_33 (by decide) ?_
      exact ih _ _ h
def fL_mix (M : hM) (a0 : Option Nat) (a1 : Option Nat) (a2 : Option Nat) : Option Int64 :=
  (hC M 4 a0).bind fun y2 =>
  (fX4_day M y2).bind fun x1 =>
  lL_mix_9 M (some y2) a1 a2 1000 (Int32.toInt64 x1) 0
set_option maxRecDepth 100000 in
set_option maxHeartbeats 4000000 in
theorem cL_mix_met (l : Launch) (G : hG) (M : hM) {a0 : Option Nat} {a1 : Option Nat} {a2 : Option Nat} {r : Int64} (h : fL_mix M a0 a1 a2 = some r) : hPMet l yL_mix vsL_mix rmL_mix [va_rf a0, va_rf a1, va_rf a2] G M (some (.long r)) := by
  refine hp_entry (own := RL) (cc := cL_mix) (maxL := 7) (ret := (some .long)) (lv := [some (va_rf a0), some (va_rf a1), some (va_rf a2), none, none, none, none]) (by decide) rfl rfl (hcc (rf_cat _) (hcc (rf_cat _) (hcc (rf_cat _) hc0))) (Nat.le_of_ble_eq_true rfl) rfl (fun κ hG hl hR P => ?_)
  subst hG; subst hl
  unfold fL_mix at h
  have C := P.1
  refine v_aload_n C (pc := 0) (i := 0) dL_mix_0 rfl ?_
  obtain ⟨y2, hy2, hh⟩ := Option.bind_eq_some_iff.mp h
  clear h
  obtain ⟨rfl, fsy2, hfy2⟩ := hC_inv hy2
  have h := hh
  clear hh
  obtain ⟨x1, e1, h⟩ := Option.bind_eq_some_iff.mp h
  refine v_pV C (pc := 1) (ci := 4) [] 0 (cX4_day_met (kl κ) (kG κ) _ e1) hfy2 rfl (good_l gL_mix_X4_day) rfl hdX4_day rfl rfl rfl (by rw [hR]; exact ⟨Nat.le_of_ble_eq_true rfl, Nat.le_of_ble_eq_true rfl⟩) ⟨Nat.zero_le _, Nat.zero_le _⟩ (Nat.le_of_ble_eq_true rfl) rfl dL_mix_1 ?_
  refine v_i2l C (pc := 4) dL_mix_4 ?_
  refine v_lstore_n C (pc := 5) (i := 3) (lv' := [some (va_rf (some y2)), some (va_rf a1), some (va_rf a2), some (.long (Int32.toInt64 x1)), none, none, none]) dL_mix_5 rfl (lw_br (j := 2) rfl) rfl ?_
  refine v_iconst C (pc := 6) (v := 0) dL_mix_6 (by decide) ?_
  refine v_istore C (pc := 7) (i := 5) (lv' := [some (va_rf (some y2)), some (va_rf a1), some (va_rf a2), some (.long (Int32.toInt64 x1)), none, some (.int 0), none]) dL_mix_7 rfl (lw_bn (j := 4) rfl) rfl ?_
  exact tlL_mix_9 P hR  1000 _ _ h
/-! L_known -/
abbrev rmL_known : Room := { frames := 9, cells := 0, slots := 0, locals := 169 }
def vsL_known : List Cond := wsL_known ++ hL3
def lL_known_48 (M : hM) (a0 : Option Nat) (a2 : Int32) (a3 : Int32) : Nat → Int64 → Int32 → Option Int64
  | 0, _ , _ => none
  | n + 1, a4, a6 =>
    if (10 : Int32) ≤ a6 then (
      some a4
    ) else (
      (fL_strengthq M a0 (a2 / 8) (a2 - a2 / 8 * 8) a6 a3).bind fun x4 =>
      (lL_known_48 M a0 a2 a3 n) ((37 * a4) + (Int32.toInt64 x4)) (a6 + 1)
    )
set_option maxRecDepth 100000 in
set_option maxHeartbeats 4000000 in
theorem tlL_known_48 {κ : hKx} {M : hM} {r : Int64} (P : Cp κ RL cL_known vsL_known (some .long) (some (.long r))) (hR : kR κ = rmL_known)  {a0 : Option Nat} {a2 : Int32} {a3 : Int32}  : ∀ (n : Nat) (a4 : Int64) (a6 : Int32), lL_known_48 M a0 a2 a3 n a4 a6 = some r → VW κ 0 0 M 48 [some (va_rf a0), none, some (.int a2), some (.int a3), some (.long a4), none, some (.int a6)] [] := by
  have C := P.1
  intro n
  induction n with
  | zero =>
    intro a4 a6 h
    unfold lL_known_48 at h
    cases h
  | succ n ih =>
    intro a4 a6 h
    unfold lL_known_48 at h
    refine v_iload C (pc := 48) (i := 6) dL_known_48 rfl ?_
    refine v_bipush C (pc := 50) (v := 10) dL_known_50 (by decide) ?_
    refine v_icmp_ge C (pc := 52) (tgt := 86) dL_known_52 (by decide) (fun c3 => ?_) (fun c3 => ?_)
    · rw [if_pos c3] at h
      refine v_lload C (pc := 86) (i := 4) dL_known_86 rfl ?_
      have h := Option.some.inj h
      subst h
      exact v_pretJ (pc := 88) P rfl rfl dL_known_88
    · rw [if_neg c3] at h
      refine v_ldc2 C (pc := 55) (v := 37) (List.mem_append_left _ (List.mem_cons_of_mem _ (List.mem_append_left _ (List.mem_append_left _ (List.mem_append_left _ (List.mem_append_left _ (List.mem_append_left _ (List.mem_append_left _ (List.mem_append_left _ (List.mem_append_left _ (List.mem_of_getElem? (i := 1) rfl))))))))))) dL_known_55 ?_
      refine v_lload C (pc := 58) (i := 4) dL_known_58 rfl ?_
      refine v_lmul C (pc := 60) dL_known_60 ?_
      refine v_aload_n C (pc := 61) (i := 0) dL_known_61 rfl ?_
      refine v_iload_n C (pc := 62) (i := 2) dL_known_62 rfl ?_
      refine v_bipush C (pc := 63) (v := 8) dL_known_63 (by decide) ?_
      refine v_idiv C (pc := 65) dL_known_65 (by decide) ?_
      refine v_iload_n C (pc := 66) (i := 2) dL_known_66 rfl ?_
      refine v_bipush C (pc := 67) (v := 8) dL_known_67 (by decide) ?_
      refine v_irem C (pc := 69) dL_known_69 (by decide) ?_
      refine v_iload C (pc := 70) (i := 6) dL_known_70 rfl ?_
      refine v_iload_n C (pc := 72) (i := 3) dL_known_72 rfl ?_
      obtain ⟨x4, e4, h⟩ := Option.bind_eq_some_iff.mp h
      refine v_pSH C (pc := 73) [va_rf a0, .int (a2 / 8), .int (a2 - a2 / 8 * 8), .int a6, .int a3] 5 (cL_strengthq_met (kl κ) (kG κ) _ e4) (good_l3 gL_known_L_strength) rfl hdsL_strength rfl rfl rfl (by rw [hR]; exact ⟨Nat.le_of_ble_eq_true rfl, Nat.le_of_ble_eq_true rfl⟩) ⟨Nat.zero_le _, Nat.zero_le _⟩ (Nat.le_of_ble_eq_true rfl) rfl dL_known_73 ?_
      refine v_i2l C (pc := 76) dL_known_76 ?_
      refine v_ladd C (pc := 77) dL_known_77 ?_
      refine v_lstore C (pc := 78) (i := 4) (lv' := [some (va_rf a0), none, some (.int a2), some (.int a3), some (.long ((37 * a4) + (Int32.toInt64 x4))), none, some (.int a6)]) dL_known_78 rfl (lw_bi (j := 3) rfl) rfl ?_
      refine v_iinc C (pc := 80) (i := 6) (w := 1) (lv' := [some (va_rf a0), none, some (.int a2), some (.int a3), some (.long ((37 * a4) + (Int32.toInt64 x4))), none, some (.int (a6 + 1))]) dL_known_80 rfl (by decide) rfl ?_
      refine v_goto C (pc := 83) (tgt := 48) dL_known_83 (by decide) ?_
      exact ih _ _ h
def lL_known_6 (M : hM) (a0 : Option Nat) (a1 : Option Nat) (a2 : Int32) (a3 : Int32) : Nat → Int64 → Int32 → Option Int64
  | 0, _ , _ => none
  | n + 1, a4, a6 =>
    (aI M 0 a1 0).bind fun x1 =>
    if (x1 : Int32) ≤ a6 then (
      lL_known_48 M a0 a2 a3 1000 a4 0
    ) else (
      (fL_whyNotq M a0 (a2 / 8) (a2 - a2 / 8 * 8) a6 a3).bind fun x5 =>
      (lL_known_6 M a0 a1 a2 a3 n) ((31 * a4) + (Int32.toInt64 x5)) (a6 + 1)
    )
set_option maxRecDepth 100000 in
set_option maxHeartbeats 4000000 in
theorem tlL_known_6 {κ : hKx} {M : hM} {r : Int64} (P : Cp κ RL cL_known vsL_known (some .long) (some (.long r))) (hR : kR κ = rmL_known)  {a0 : Option Nat} {a1 : Option Nat} {a2 : Int32} {a3 : Int32}  : ∀ (n : Nat) (a4 : Int64) (a6 : Int32), lL_known_6 M a0 a1 a2 a3 n a4 a6 = some r → VW κ 0 0 M 6 [some (va_rf a0), some (va_rf a1), some (.int a2), some (.int a3), some (.long a4), none, some (.int a6)] [] := by
  have C := P.1
  intro n
  induction n with
  | zero =>
    intro a4 a6 h
    unfold lL_known_6 at h
    cases h
  | succ n ih =>
    intro a4 a6 h
    unfold lL_known_6 at h
    refine v_iload C (pc := 6) (i := 6) dL_known_6 rfl ?_
    refine v_aload_n C (pc := 8) (i := 1) dL_known_8 rfl ?_
    refine v_iconst C (pc := 9) (v := 0) dL_known_9 (by decide) ?_
    obtain ⟨x1, e1, h⟩ := Option.bind_eq_some_iff.mp h
    refine v_iald C (pc := 10) e1 dL_known_10 ?_
    refine v_icmp_ge C (pc := 11) (tgt := 45) dL_known_11 (by decide) (fun c2 => ?_) (fun c2 => ?_)
    · rw [if_pos c2] at h
      refine v_iconst C (pc := 45) (v := 0) dL_known_45 (by decide) ?_
      refine v_istore C (pc := 46) (i := 6) (lv' := [some (va_rf a0), some (va_rf a1), some (.int a2), some (.int a3), some (.long a4), none, some (.int 0)]) dL_known_46 rfl (lw_bn (j := 5) rfl) rfl ?_
      refine v_mask (lv' := [some (va_rf a0), none, some (.int a2), some (.int a3), some (.long a4), none, some (.int 0)]) [true, false, true, true, true, false, true] rfl rfl ?_
      exact tlL_known_48 P hR  1000 _ _ h
    · rw [if_neg c2] at h
      refine v_ldc2 C (pc := 14) (v := 31) (List.mem_append_left _ (List.mem_cons_of_mem _ (List.mem_append_left _ (List.mem_append_left _ (List.mem_append_left _ (List.mem_append_left _ (List.mem_append_left _ (List.mem_append_left _ (List.mem_append_left _ (List.mem_append_left _ (List.mem_of_getElem? (i := 0) rfl))))))))))) dL_known_14 ?_
      refine v_lload C (pc := 17) (i := 4) dL_known_17 rfl ?_
      refine v_lmul C (pc := 19) dL_known_19 ?_
      refine v_aload_n C (pc := 20) (i := 0) dL_known_20 rfl ?_
      refine v_iload_n C (pc := 21) (i := 2) dL_known_21 rfl ?_
      refine v_bipush C (pc := 22) (v := 8) dL_known_22 (by decide) ?_
      refine v_idiv C (pc := 24) dL_known_24 (by decide) ?_
      refine v_iload_n C (pc := 25) (i := 2) dL_known_25 rfl ?_
      refine v_bipush C (pc := 26) (v := 8) dL_known_26 (by decide) ?_
      refine v_irem C (pc := 28) dL_known_28 (by decide) ?_
      refine v_iload C (pc := 29) (i := 6) dL_known_29 rfl ?_
      refine v_iload_n C (pc := 31) (i := 3) dL_known_31 rfl ?_
      obtain ⟨x5, e5, h⟩ := Option.bind_eq_some_iff.mp h
      refine v_pSH C (pc := 32) [va_rf a0, .int (a2 / 8), .int (a2 - a2 / 8 * 8), .int a6, .int a3] 5 (cL_whyNotq_met (kl κ) (kG κ) _ e5) (good_l3 gL_known_L_whyNot) rfl hdsL_whyNot rfl rfl rfl (by rw [hR]; exact ⟨Nat.le_of_ble_eq_true rfl, Nat.le_of_ble_eq_true rfl⟩) ⟨Nat.zero_le _, Nat.zero_le _⟩ (Nat.le_of_ble_eq_true rfl) rfl dL_known_32 ?_
      refine v_i2l C (pc := 35) dL_known_35 ?_
      refine v_ladd C (pc := 36) dL_known_36 ?_
      refine v_lstore C (pc := 37) (i := 4) (lv' := [some (va_rf a0), some (va_rf a1), some (.int a2), some (.int a3), some (.long ((31 * a4) + (Int32.toInt64 x5))), none, some (.int a6)]) dL_known_37 rfl (lw_bi (j := 3) rfl) rfl ?_
      refine v_iinc C (pc := 39) (i := 6) (w := 1) (lv' := [some (va_rf a0), some (va_rf a1), some (.int a2), some (.int a3), some (.long ((31 * a4) + (Int32.toInt64 x5))), none, some (.int (a6 + 1))]) dL_known_39 rfl (by decide) rfl ?_
      refine v_goto C (pc := 42) (tgt := 6) dL_known_42 (by decide) ?_
      exact ih _ _ h
def fL_known (M : hM) (a0 : Option Nat) (a1 : Option Nat) (a2 : Int32) (a3 : Int32) : Option Int64 :=
  lL_known_6 M a0 a1 a2 a3 1000 0 0
set_option maxRecDepth 100000 in
set_option maxHeartbeats 4000000 in
theorem cL_known_met (l : Launch) (G : hG) (M : hM) {a0 : Option Nat} {a1 : Option Nat} {a2 : Int32} {a3 : Int32} {r : Int64} (h : fL_known M a0 a1 a2 a3 = some r) : hPMet l yL_known vsL_known rmL_known [va_rf a0, va_rf a1, .int a2, .int a3] G M (some (.long r)) := by
  refine hp_entry (own := RL) (cc := cL_known) (maxL := 7) (ret := (some .long)) (lv := [some (va_rf a0), some (va_rf a1), some (.int a2), some (.int a3), none, none, none]) (by decide) rfl rfl (hcc (rf_cat _) (hcc (rf_cat _) (hcc rfl (hcc rfl hc0)))) (Nat.le_of_ble_eq_true rfl) rfl (fun κ hG hl hR P => ?_)
  subst hG; subst hl
  unfold fL_known at h
  have C := P.1
  refine v_lconst C (pc := 0) (v := 0) dL_known_0 (by decide) ?_
  refine v_lstore C (pc := 1) (i := 4) (lv' := [some (va_rf a0), some (va_rf a1), some (.int a2), some (.int a3), some (.long 0), none, none]) dL_known_1 rfl (lw_bi (j := 3) rfl) rfl ?_
  refine v_iconst C (pc := 3) (v := 0) dL_known_3 (by decide) ?_
  refine v_istore C (pc := 4) (i := 6) (lv' := [some (va_rf a0), some (va_rf a1), some (.int a2), some (.int a3), some (.long 0), none, some (.int 0)]) dL_known_4 rfl (lw_bn (j := 5) rfl) rfl ?_
  exact tlL_known_6 P hR  1000 _ _ h
/-! L_isBest -/
abbrev rmL_isBest : Room := { frames := 9, cells := 0, slots := 0, locals := 192 }
def vsL_isBest : List Cond := wsL_isBest ++ hL3
def bL_isBest_231 (M : hM) (k153 : Int32 → Int32 → Option Int32) (a0 : Option Nat) (a1 : Option Nat) (a4 : Int32) (a7 : Int32) : Option Int32 :=
  k153 1 (a7 + 1)
set_option maxRecDepth 100000 in
set_option maxHeartbeats 4000000 in
theorem tbL_isBest_231 {κ : hKx} {M : hM} {r : Int32} (P : Cp κ RL cL_isBest vsL_isBest (some .boolean) (some (.int r))) (hR : kR κ = rmL_isBest) {k153 : Int32 → Int32 → Option Int32} {a0 : Option Nat} {a1 : Option Nat} {a4 : Int32} {a7 : Int32} (hk153 : ∀ (a5 : Int32) (a7 : Int32), k153 a5 a7 = some r → VW κ 0 0 M 153 [some (va_rf a0), some (va_rf a1), none, none, some (.int a4), some (.int a5), none, some (.int a7), none] []) (h : bL_isBest_231 M k153 a0 a1 a4 a7 = some r) : VW κ 0 0 M 231 [some (va_rf a0), some (va_rf a1), none, none, some (.int a4), none, none, some (.int a7), none] [] := by
  unfold bL_isBest_231 at h
  have C := P.1
  refine v_iconst C (pc := 231) (v := 1) dL_isBest_231 (by decide) ?_
  refine v_goto C (pc := 232) (tgt := 236) dL_isBest_232 (by decide) ?_
  refine v_istore C (pc := 236) (i := 5) (lv' := [some (va_rf a0), some (va_rf a1), none, none, some (.int a4), some (.int 1), none, some (.int a7), none]) dL_isBest_236 rfl (lw_bi (j := 4) rfl) rfl ?_
  refine v_iinc C (pc := 238) (i := 7) (w := 1) (lv' := [some (va_rf a0), some (va_rf a1), none, none, some (.int a4), some (.int 1), none, some (.int (a7 + 1)), none]) dL_isBest_238 rfl (by decide) rfl ?_
  refine v_goto C (pc := 241) (tgt := 153) dL_isBest_241 (by decide) ?_
  exact hk153 _ _ h
def bL_isBest_205 (M : hM) (k153 : Int32 → Int32 → Option Int32) (a0 : Option Nat) (a1 : Option Nat) (a4 : Int32) (a7 : Int32) (s0 : Int32) : Option Int32 :=
  if (s0 : Int32) = 0 then (
    bL_isBest_231 M k153 a0 a1 a4 a7
  ) else (
    (aI M 0 a1 0).bind fun x15 =>
    (dvI a7 x15).bind fun x16 =>
    (aI M 0 a1 0).bind fun x17 =>
    (rmI a7 x17).bind fun x18 =>
    (fL_nestsq M a0 (a7 / x15) (a7 - a7 / x17 * x17)).bind fun x19 =>
    if (x19 : Int32) = 0 then (
      bL_isBest_231 M k153 a0 a1 a4 a7
    ) else (
      k153 0 (a7 + 1)
    )
  )
set_option maxRecDepth 100000 in
set_option maxHeartbeats 4000000 in
theorem tbL_isBest_205 {κ : hKx} {M : hM} {r : Int32} (P : Cp κ RL cL_isBest vsL_isBest (some .boolean) (some (.int r))) (hR : kR κ = rmL_isBest) {k153 : Int32 → Int32 → Option Int32} {a0 : Option Nat} {a1 : Option Nat} {a4 : Int32} {a7 : Int32} {s0 : Int32} (hk153 : ∀ (a5 : Int32) (a7 : Int32), k153 a5 a7 = some r → VW κ 0 0 M 153 [some (va_rf a0), some (va_rf a1), none, none, some (.int a4), some (.int a5), none, some (.int a7), none] []) (h : bL_isBest_205 M k153 a0 a1 a4 a7 s0 = some r) : VW κ 0 0 M 205 [some (va_rf a0), some (va_rf a1), none, none, some (.int a4), none, none, some (.int a7), none] [.int s0] := by
  unfold bL_isBest_205 at h
  have C := P.1
  refine v_istore C (pc := 205) (i := 8) (lv' := [some (va_rf a0), some (va_rf a1), none, none, some (.int a4), none, none, some (.int a7), some (.int s0)]) dL_isBest_205 rfl (lw_bi (j := 7) rfl) rfl ?_
  refine v_iload C (pc := 207) (i := 8) dL_isBest_207 rfl ?_
  refine v_if_eq C (pc := 209) (tgt := 231) dL_isBest_209 (by decide) (fun c14 => ?_) (fun c14 => ?_)
  · rw [if_pos c14] at h
    refine v_mask (lv' := [some (va_rf a0), some (va_rf a1), none, none, some (.int a4), none, none, some (.int a7), none]) [true, true, false, false, true, false, false, true, false] rfl rfl ?_
    exact tbL_isBest_231 P hR hk153 h
  · rw [if_neg c14] at h
    refine v_aload_n C (pc := 212) (i := 0) dL_isBest_212 rfl ?_
    refine v_iload C (pc := 213) (i := 7) dL_isBest_213 rfl ?_
    refine v_aload_n C (pc := 215) (i := 1) dL_isBest_215 rfl ?_
    refine v_iconst C (pc := 216) (v := 0) dL_isBest_216 (by decide) ?_
    obtain ⟨x15, e15, h⟩ := Option.bind_eq_some_iff.mp h
    refine v_iald C (pc := 217) e15 dL_isBest_217 ?_
    obtain ⟨x16, e16, h⟩ := Option.bind_eq_some_iff.mp h
    obtain ⟨hde16, rfl⟩ := dvI_inv e16
    refine v_idiv C (pc := 218) dL_isBest_218 hde16 ?_
    refine v_iload C (pc := 219) (i := 7) dL_isBest_219 rfl ?_
    refine v_aload_n C (pc := 221) (i := 1) dL_isBest_221 rfl ?_
    refine v_iconst C (pc := 222) (v := 0) dL_isBest_222 (by decide) ?_
    obtain ⟨x17, e17, h⟩ := Option.bind_eq_some_iff.mp h
    refine v_iald C (pc := 223) e17 dL_isBest_223 ?_
    obtain ⟨x18, e18, h⟩ := Option.bind_eq_some_iff.mp h
    obtain ⟨hde18, rfl⟩ := rmI_inv e18
    refine v_irem C (pc := 224) dL_isBest_224 hde18 ?_
    obtain ⟨x19, e19, h⟩ := Option.bind_eq_some_iff.mp h
    refine v_pSH C (pc := 225) [va_rf a0, .int (a7 / x15), .int (a7 - a7 / x17 * x17)] 3 (cL_nestsq_met (kl κ) (kG κ) _ e19) (good_l3 gL_isBest_L_nests) rfl hdsL_nests rfl rfl rfl (by rw [hR]; exact ⟨Nat.le_of_ble_eq_true rfl, Nat.le_of_ble_eq_true rfl⟩) ⟨Nat.zero_le _, Nat.zero_le _⟩ (Nat.le_of_ble_eq_true rfl) rfl dL_isBest_225 ?_
    refine v_if_ne C (pc := 228) (tgt := 235) dL_isBest_228 (by decide) (fun c20 => ?_) (fun c20 => ?_)
    · rw [if_neg c20] at h
      refine v_iconst C (pc := 235) (v := 0) dL_isBest_235 (by decide) ?_
      refine v_istore C (pc := 236) (i := 5) (lv' := [some (va_rf a0), some (va_rf a1), none, none, some (.int a4), some (.int 0), none, some (.int a7), some (.int s0)]) dL_isBest_236 rfl (lw_bi (j := 4) rfl) rfl ?_
      refine v_iinc C (pc := 238) (i := 7) (w := 1) (lv' := [some (va_rf a0), some (va_rf a1), none, none, some (.int a4), some (.int 0), none, some (.int (a7 + 1)), some (.int s0)]) dL_isBest_238 rfl (by decide) rfl ?_
      refine v_goto C (pc := 241) (tgt := 153) dL_isBest_241 (by decide) ?_
      refine v_mask (lv' := [some (va_rf a0), some (va_rf a1), none, none, some (.int a4), some (.int 0), none, some (.int (a7 + 1)), none]) [true, true, false, false, true, true, false, true, false] rfl rfl ?_
      exact hk153 _ _ h
    · rw [if_pos c20] at h
      refine v_mask (lv' := [some (va_rf a0), some (va_rf a1), none, none, some (.int a4), none, none, some (.int a7), none]) [true, true, false, false, true, false, false, true, false] rfl rfl ?_
      exact tbL_isBest_231 P hR hk153 h
def bL_isBest_204 (M : hM) (k153 : Int32 → Int32 → Option Int32) (a0 : Option Nat) (a1 : Option Nat) (a4 : Int32) (a7 : Int32) : Option Int32 :=
  bL_isBest_205 M k153 a0 a1 a4 a7 0
set_option maxRecDepth 100000 in
set_option maxHeartbeats 4000000 in
theorem tbL_isBest_204 {κ : hKx} {M : hM} {r : Int32} (P : Cp κ RL cL_isBest vsL_isBest (some .boolean) (some (.int r))) (hR : kR κ = rmL_isBest) {k153 : Int32 → Int32 → Option Int32} {a0 : Option Nat} {a1 : Option Nat} {a4 : Int32} {a7 : Int32} (hk153 : ∀ (a5 : Int32) (a7 : Int32), k153 a5 a7 = some r → VW κ 0 0 M 153 [some (va_rf a0), some (va_rf a1), none, none, some (.int a4), some (.int a5), none, some (.int a7), none] []) (h : bL_isBest_204 M k153 a0 a1 a4 a7 = some r) : VW κ 0 0 M 204 [some (va_rf a0), some (va_rf a1), none, none, some (.int a4), none, none, some (.int a7), none] [] := by
  unfold bL_isBest_204 at h
  have C := P.1
  refine v_iconst C (pc := 204) (v := 0) dL_isBest_204 (by decide) ?_
  exact tbL_isBest_205 P hR hk153 h
def lL_isBest_153 (M : hM) (a0 : Option Nat) (a1 : Option Nat) (a4 : Int32) : Nat → Int32 → Int32 → Option Int32
  | 0, _ , _ => none
  | n + 1, a5, a7 =>
    (aI M 0 a1 0).bind fun x7 =>
    (aI M 0 a1 0).bind fun x8 =>
    if ((x7 * x8) : Int32) ≤ a7 then (
      hbz a5
    ) else (
      if (a5 : Int32) = 0 then (
        hbz a5
      ) else (
        (aI M 0 a1 0).bind fun x11 =>
        (dvI a7 x11).bind fun x12 =>
        if (((a4 >>> ((a7 / x11) &&& 31)) &&& 1) : Int32) = 1 then (
          (aI M 0 a1 0).bind fun x21 =>
          (rmI a7 x21).bind fun x22 =>
          if (((a4 >>> ((a7 - a7 / x21 * x21) &&& 31)) &&& 1) : Int32) = 1 then (
            bL_isBest_205 M (lL_isBest_153 M a0 a1 a4 n) a0 a1 a4 a7 1
          ) else (
            bL_isBest_204 M (lL_isBest_153 M a0 a1 a4 n) a0 a1 a4 a7
          )
        ) else (
          bL_isBest_204 M (lL_isBest_153 M a0 a1 a4 n) a0 a1 a4 a7
        )
      )
    )
set_option maxRecDepth 100000 in
set_option maxHeartbeats 4000000 in
theorem tlL_isBest_153 {κ : hKx} {M : hM} {r : Int32} (P : Cp κ RL cL_isBest vsL_isBest (some .boolean) (some (.int r))) (hR : kR κ = rmL_isBest)  {a0 : Option Nat} {a1 : Option Nat} {a4 : Int32}  : ∀ (n : Nat) (a5 : Int32) (a7 : Int32), lL_isBest_153 M a0 a1 a4 n a5 a7 = some r → VW κ 0 0 M 153 [some (va_rf a0), some (va_rf a1), none, none, some (.int a4), some (.int a5), none, some (.int a7), none] [] := by
  have C := P.1
  intro n
  induction n with
  | zero =>
    intro a5 a7 h
    unfold lL_isBest_153 at h
    cases h
  | succ n ih =>
    intro a5 a7 h
    unfold lL_isBest_153 at h
    refine v_iload C (pc := 153) (i := 7) dL_isBest_153 rfl ?_
    refine v_aload_n C (pc := 155) (i := 1) dL_isBest_155 rfl ?_
    refine v_iconst C (pc := 156) (v := 0) dL_isBest_156 (by decide) ?_
    obtain ⟨x7, e7, h⟩ := Option.bind_eq_some_iff.mp h
    refine v_iald C (pc := 157) e7 dL_isBest_157 ?_
    refine v_aload_n C (pc := 158) (i := 1) dL_isBest_158 rfl ?_
    refine v_iconst C (pc := 159) (v := 0) dL_isBest_159 (by decide) ?_
    obtain ⟨x8, e8, h⟩ := Option.bind_eq_some_iff.mp h
    refine v_iald C (pc := 160) e8 dL_isBest_160 ?_
    refine v_imul C (pc := 161) dL_isBest_161 ?_
    refine v_icmp_ge C (pc := 162) (tgt := 244) dL_isBest_162 (by decide) (fun c9 => ?_) (fun c9 => ?_)
    · rw [if_pos c9] at h
      refine v_iload C (pc := 244) (i := 5) dL_isBest_244 rfl ?_
      obtain ⟨hb, h⟩ := hbz_inv h
      subst h
      exact v_pret (pc := 246) P rfl rfl (nar_bool hb) dL_isBest_246
    · rw [if_neg c9] at h
      refine v_iload C (pc := 165) (i := 5) dL_isBest_165 rfl ?_
      refine v_if_eq C (pc := 167) (tgt := 244) dL_isBest_167 (by decide) (fun c10 => ?_) (fun c10 => ?_)
      · rw [if_pos c10] at h
        refine v_iload C (pc := 244) (i := 5) dL_isBest_244 rfl ?_
        obtain ⟨hb, h⟩ := hbz_inv h
        subst h
        exact v_pret (pc := 246) P rfl rfl (nar_bool hb) dL_isBest_246
      · rw [if_neg c10] at h
        refine v_iload C (pc := 170) (i := 4) dL_isBest_170 rfl ?_
        refine v_iload C (pc := 172) (i := 7) dL_isBest_172 rfl ?_
        refine v_aload_n C (pc := 174) (i := 1) dL_isBest_174 rfl ?_
        refine v_iconst C (pc := 175) (v := 0) dL_isBest_175 (by decide) ?_
        obtain ⟨x11, e11, h⟩ := Option.bind_eq_some_iff.mp h
        refine v_iald C (pc := 176) e11 dL_isBest_176 ?_
        obtain ⟨x12, e12, h⟩ := Option.bind_eq_some_iff.mp h
        obtain ⟨hde12, rfl⟩ := dvI_inv e12
        refine v_idiv C (pc := 177) dL_isBest_177 hde12 ?_
        refine v_ishr C (pc := 178) dL_isBest_178 ?_
        refine v_iconst C (pc := 179) (v := 1) dL_isBest_179 (by decide) ?_
        refine v_iand C (pc := 180) dL_isBest_180 ?_
        refine v_iconst C (pc := 181) (v := 1) dL_isBest_181 (by decide) ?_
        refine v_icmp_ne C (pc := 182) (tgt := 204) dL_isBest_182 (by decide) (fun c13 => ?_) (fun c13 => ?_)
        · rw [if_neg c13] at h
          refine v_mask (lv' := [some (va_rf a0), some (va_rf a1), none, none, some (.int a4), none, none, some (.int a7), none]) [true, true, false, false, true, false, false, true, false] rfl rfl ?_
          exact tbL_isBest_204 P hR (fun q0 q1 h => ih q0 q1 h) h
        · rw [if_pos c13] at h
          refine v_iload C (pc := 185) (i := 4) dL_isBest_185 rfl ?_
          refine v_iload C (pc := 187) (i := 7) dL_isBest_187 rfl ?_
          refine v_aload_n C (pc := 189) (i := 1) dL_isBest_189 rfl ?_
          refine v_iconst C (pc := 190) (v := 0) dL_isBest_190 (by decide) ?_
          obtain ⟨x21, e21, h⟩ := Option.bind_eq_some_iff.mp h
          refine v_iald C (pc := 191) e21 dL_isBest_191 ?_
          obtain ⟨x22, e22, h⟩ := Option.bind_eq_some_iff.mp h
          obtain ⟨hde22, rfl⟩ := rmI_inv e22
          refine v_irem C (pc := 192) dL_isBest_192 hde22 ?_
          refine v_ishr C (pc := 193) dL_isBest_193 ?_
          refine v_iconst C (pc := 194) (v := 1) dL_isBest_194 (by decide) ?_
          refine v_iand C (pc := 195) dL_isBest_195 ?_
          refine v_iconst C (pc := 196) (v := 1) dL_isBest_196 (by decide) ?_
          refine v_icmp_ne C (pc := 197) (tgt := 204) dL_isBest_197 (by decide) (fun c23 => ?_) (fun c23 => ?_)
          · rw [if_neg c23] at h
            refine v_mask (lv' := [some (va_rf a0), some (va_rf a1), none, none, some (.int a4), none, none, some (.int a7), none]) [true, true, false, false, true, false, false, true, false] rfl rfl ?_
            exact tbL_isBest_204 P hR (fun q0 q1 h => ih q0 q1 h) h
          · rw [if_pos c23] at h
            refine v_iconst C (pc := 200) (v := 1) dL_isBest_200 (by decide) ?_
            refine v_goto C (pc := 201) (tgt := 205) dL_isBest_201 (by decide) ?_
            refine v_mask (lv' := [some (va_rf a0), some (va_rf a1), none, none, some (.int a4), none, none, some (.int a7), none]) [true, true, false, false, true, false, false, true, false] rfl rfl ?_
            exact tbL_isBest_205 P hR (fun q0 q1 h => ih q0 q1 h) h
def bL_isBest_140 (M : hM) (a0 : Option Nat) (a1 : Option Nat) (a4 : Int32) (s0 : Int32) (s1 : Int32) : Option Int32 :=
  if (s0 : Int32) = s1 then (
    lL_isBest_153 M a0 a1 a4 1000 1 0
  ) else (
    lL_isBest_153 M a0 a1 a4 1000 0 0
  )
set_option maxRecDepth 100000 in
set_option maxHeartbeats 4000000 in
theorem tbL_isBest_140 {κ : hKx} {M : hM} {r : Int32} (P : Cp κ RL cL_isBest vsL_isBest (some .boolean) (some (.int r))) (hR : kR κ = rmL_isBest)  {a0 : Option Nat} {a1 : Option Nat} {a4 : Int32} {s0 : Int32} {s1 : Int32}  (h : bL_isBest_140 M a0 a1 a4 s0 s1 = some r) : VW κ 0 0 M 140 [some (va_rf a0), some (va_rf a1), none, none, some (.int a4), none, none, none, none] [.int s1, .int s0] := by
  unfold bL_isBest_140 at h
  have C := P.1
  refine v_icmp_ne C (pc := 140) (tgt := 147) dL_isBest_140 (by decide) (fun c27 => ?_) (fun c27 => ?_)
  · rw [if_neg c27] at h
    refine v_iconst C (pc := 147) (v := 0) dL_isBest_147 (by decide) ?_
    refine v_istore C (pc := 148) (i := 5) (lv' := [some (va_rf a0), some (va_rf a1), none, none, some (.int a4), some (.int 0), none, none, none]) dL_isBest_148 rfl (lw_bi (j := 4) rfl) rfl ?_
    refine v_iconst C (pc := 150) (v := 0) dL_isBest_150 (by decide) ?_
    refine v_istore C (pc := 151) (i := 7) (lv' := [some (va_rf a0), some (va_rf a1), none, none, some (.int a4), some (.int 0), none, some (.int 0), none]) dL_isBest_151 rfl (lw_bn (j := 6) rfl) rfl ?_
    exact tlL_isBest_153 P hR  1000 _ _ h
  · rw [if_pos c27] at h
    refine v_iconst C (pc := 143) (v := 1) dL_isBest_143 (by decide) ?_
    refine v_goto C (pc := 144) (tgt := 148) dL_isBest_144 (by decide) ?_
    refine v_istore C (pc := 148) (i := 5) (lv' := [some (va_rf a0), some (va_rf a1), none, none, some (.int a4), some (.int 1), none, none, none]) dL_isBest_148 rfl (lw_bi (j := 4) rfl) rfl ?_
    refine v_iconst C (pc := 150) (v := 0) dL_isBest_150 (by decide) ?_
    refine v_istore C (pc := 151) (i := 7) (lv' := [some (va_rf a0), some (va_rf a1), none, none, some (.int a4), some (.int 1), none, some (.int 0), none]) dL_isBest_151 rfl (lw_bn (j := 6) rfl) rfl ?_
    exact tlL_isBest_153 P hR  1000 _ _ h
def bL_isBest_130 (M : hM) (a0 : Option Nat) (a1 : Option Nat) (a4 : Int32) (a6 : Int32) (s0 : Int32) : Option Int32 :=
  if (a6 : Int32) = 0 then (
    bL_isBest_140 M a0 a1 a4 s0 1
  ) else (
    bL_isBest_140 M a0 a1 a4 s0 0
  )
set_option maxRecDepth 100000 in
set_option maxHeartbeats 4000000 in
theorem tbL_isBest_130 {κ : hKx} {M : hM} {r : Int32} (P : Cp κ RL cL_isBest vsL_isBest (some .boolean) (some (.int r))) (hR : kR κ = rmL_isBest)  {a0 : Option Nat} {a1 : Option Nat} {a4 : Int32} {a6 : Int32} {s0 : Int32}  (h : bL_isBest_130 M a0 a1 a4 a6 s0 = some r) : VW κ 0 0 M 130 [some (va_rf a0), some (va_rf a1), none, none, some (.int a4), none, some (.int a6), none, none] [.int s0] := by
  unfold bL_isBest_130 at h
  have C := P.1
  refine v_iload C (pc := 130) (i := 6) dL_isBest_130 rfl ?_
  refine v_if_ne C (pc := 132) (tgt := 139) dL_isBest_132 (by decide) (fun c26 => ?_) (fun c26 => ?_)
  · rw [if_neg c26] at h
    refine v_iconst C (pc := 139) (v := 0) dL_isBest_139 (by decide) ?_
    refine v_mask (lv' := [some (va_rf a0), some (va_rf a1), none, none, some (.int a4), none, none, none, none]) [true, true, false, false, true, false, false, false, false] rfl rfl ?_
    exact tbL_isBest_140 P hR  h
  · rw [if_pos c26] at h
    refine v_iconst C (pc := 135) (v := 1) dL_isBest_135 (by decide) ?_
    refine v_goto C (pc := 136) (tgt := 140) dL_isBest_136 (by decide) ?_
    refine v_mask (lv' := [some (va_rf a0), some (va_rf a1), none, none, some (.int a4), none, none, none, none]) [true, true, false, false, true, false, false, false, false] rfl rfl ?_
    exact tbL_isBest_140 P hR  h
def lL_isBest_60 (M : hM) (a0 : Option Nat) (a1 : Option Nat) (a2 : Int32) (a3 : Int32) (a4 : Int32) (a5 : Int32) : Nat → Int32 → Int32 → Option Int32
  | 0, _ , _ => none
  | n + 1, a6, a7 =>
    (aI M 0 a1 0).bind fun x4 =>
    if (x4 : Int32) ≤ a7 then (
      if (a5 : Int32) = 0 then (
        lL_isBest_153 M a0 a1 a4 1000 0 0
      ) else (
        if ((a4 &&& (a6 ^^^ (-1))) : Int32) = 0 then (
          if (a4 : Int32) = 0 then (
            bL_isBest_130 M a0 a1 a4 a6 1
          ) else (
            bL_isBest_130 M a0 a1 a4 a6 0
          )
        ) else (
          lL_isBest_153 M a0 a1 a4 1000 0 0
        )
      )
    ) else (
      (fL_whyNotq M a0 (a2 / 8) (a2 - a2 / 8 * 8) a7 a3).bind fun x28 =>
      if (x28 : Int32) = 0 then (
        (lL_isBest_60 M a0 a1 a2 a3 a4 a5 n) (a6 + (1 <<< (a7 &&& 31))) (a7 + 1)
      ) else (
        (lL_isBest_60 M a0 a1 a2 a3 a4 a5 n) (a6 + 0) (a7 + 1)
      )
    )
set_option maxRecDepth 100000 in
set_option maxHeartbeats 4000000 in
theorem tlL_isBest_60 {κ : hKx} {M : hM} {r : Int32} (P : Cp κ RL cL_isBest vsL_isBest (some .boolean) (some (.int r))) (hR : kR κ = rmL_isBest)  {a0 : Option Nat} {a1 : Option Nat} {a2 : Int32} {a3 : Int32} {a4 : Int32} {a5 : Int32}  : ∀ (n : Nat) (a6 : Int32) (a7 : Int32), lL_isBest_60 M a0 a1 a2 a3 a4 a5 n a6 a7 = some r → VW κ 0 0 M 60 [some (va_rf a0), some (va_rf a1), some (.int a2), some (.int a3), some (.int a4), some (.int a5), some (.int a6), some (.int a7), none] [] := by
  have C := P.1
  intro n
  induction n with
  | zero =>
    intro a6 a7 h
    unfold lL_isBest_60 at h
    cases h
  | succ n ih =>
    intro a6 a7 h
    unfold lL_isBest_60 at h
    refine v_iload C (pc := 60) (i := 7) dL_isBest_60 rfl ?_
    refine v_aload_n C (pc := 62) (i := 1) dL_isBest_62 rfl ?_
    refine v_iconst C (pc := 63) (v := 0) dL_isBest_63 (by decide) ?_
    obtain ⟨x4, e4, h⟩ := Option.bind_eq_some_iff.mp h
    refine v_iald C (pc := 64) e4 dL_isBest_64 ?_
    refine v_icmp_ge C (pc := 65) (tgt := 105) dL_isBest_65 (by decide) (fun c5 => ?_) (fun c5 => ?_)
    · rw [if_pos c5] at h
      refine v_iload C (pc := 105) (i := 5) dL_isBest_105 rfl ?_
      refine v_if_eq C (pc := 107) (tgt := 147) dL_isBest_107 (by decide) (fun c6 => ?_) (fun c6 => ?_)
      · rw [if_pos c6] at h
        refine v_iconst C (pc := 147) (v := 0) dL_isBest_147 (by decide) ?_
        refine v_istore C (pc := 148) (i := 5) (lv' := [some (va_rf a0), some (va_rf a1), some (.int a2), some (.int a3), some (.int a4), some (.int 0), some (.int a6), some (.int a7), none]) dL_isBest_148 rfl (lw_bi (j := 4) rfl) rfl ?_
        refine v_iconst C (pc := 150) (v := 0) dL_isBest_150 (by decide) ?_
        refine v_istore C (pc := 151) (i := 7) (lv' := [some (va_rf a0), some (va_rf a1), some (.int a2), some (.int a3), some (.int a4), some (.int 0), some (.int a6), some (.int 0), none]) dL_isBest_151 rfl (lw_bi (j := 6) rfl) rfl ?_
        refine v_mask (lv' := [some (va_rf a0), some (va_rf a1), none, none, some (.int a4), some (.int 0), none, some (.int 0), none]) [true, true, false, false, true, true, false, true, false] rfl rfl ?_
        exact tlL_isBest_153 P hR  1000 _ _ h
      · rw [if_neg c6] at h
        refine v_iload C (pc := 110) (i := 4) dL_isBest_110 rfl ?_
        refine v_iload C (pc := 112) (i := 6) dL_isBest_112 rfl ?_
        refine v_iconst C (pc := 114) (v := (-1)) dL_isBest_114 (by decide) ?_
        refine v_ixor C (pc := 115) dL_isBest_115 ?_
        refine v_iand C (pc := 116) dL_isBest_116 ?_
        refine v_if_ne C (pc := 117) (tgt := 147) dL_isBest_117 (by decide) (fun c24 => ?_) (fun c24 => ?_)
        · rw [if_neg c24] at h
          refine v_iconst C (pc := 147) (v := 0) dL_isBest_147 (by decide) ?_
          refine v_istore C (pc := 148) (i := 5) (lv' := [some (va_rf a0), some (va_rf a1), some (.int a2), some (.int a3), some (.int a4), some (.int 0), some (.int a6), some (.int a7), none]) dL_isBest_148 rfl (lw_bi (j := 4) rfl) rfl ?_
          refine v_iconst C (pc := 150) (v := 0) dL_isBest_150 (by decide) ?_
          refine v_istore C (pc := 151) (i := 7) (lv' := [some (va_rf a0), some (va_rf a1), some (.int a2), some (.int a3), some (.int a4), some (.int 0), some (.int a6), some (.int 0), none]) dL_isBest_151 rfl (lw_bi (j := 6) rfl) rfl ?_
          refine v_mask (lv' := [some (va_rf a0), some (va_rf a1), none, none, some (.int a4), some (.int 0), none, some (.int 0), none]) [true, true, false, false, true, true, false, true, false] rfl rfl ?_
          exact tlL_isBest_153 P hR  1000 _ _ h
        · rw [if_pos c24] at h
          refine v_iload C (pc := 120) (i := 4) dL_isBest_120 rfl ?_
          refine v_if_ne C (pc := 122) (tgt := 129) dL_isBest_122 (by decide) (fun c25 => ?_) (fun c25 => ?_)
          · rw [if_neg c25] at h
            refine v_iconst C (pc := 129) (v := 0) dL_isBest_129 (by decide) ?_
            refine v_mask (lv' := [some (va_rf a0), some (va_rf a1), none, none, some (.int a4), none, some (.int a6), none, none]) [true, true, false, false, true, false, true, false, false] rfl rfl ?_
            exact tbL_isBest_130 P hR  h
          · rw [if_pos c25] at h
            refine v_iconst C (pc := 125) (v := 1) dL_isBest_125 (by decide) ?_
            refine v_goto C (pc := 126) (tgt := 130) dL_isBest_126 (by decide) ?_
            refine v_mask (lv' := [some (va_rf a0), some (va_rf a1), none, none, some (.int a4), none, some (.int a6), none, none]) [true, true, false, false, true, false, true, false, false] rfl rfl ?_
            exact tbL_isBest_130 P hR  h
    · rw [if_neg c5] at h
      refine v_iload C (pc := 68) (i := 6) dL_isBest_68 rfl ?_
      refine v_aload_n C (pc := 70) (i := 0) dL_isBest_70 rfl ?_
      refine v_iload_n C (pc := 71) (i := 2) dL_isBest_71 rfl ?_
      refine v_bipush C (pc := 72) (v := 8) dL_isBest_72 (by decide) ?_
      refine v_idiv C (pc := 74) dL_isBest_74 (by decide) ?_
      refine v_iload_n C (pc := 75) (i := 2) dL_isBest_75 rfl ?_
      refine v_bipush C (pc := 76) (v := 8) dL_isBest_76 (by decide) ?_
      refine v_irem C (pc := 78) dL_isBest_78 (by decide) ?_
      refine v_iload C (pc := 79) (i := 7) dL_isBest_79 rfl ?_
      refine v_iload_n C (pc := 81) (i := 3) dL_isBest_81 rfl ?_
      obtain ⟨x28, e28, h⟩ := Option.bind_eq_some_iff.mp h
      refine v_pSH C (pc := 82) [va_rf a0, .int (a2 / 8), .int (a2 - a2 / 8 * 8), .int a7, .int a3] 5 (cL_whyNotq_met (kl κ) (kG κ) _ e28) (good_l3 gL_isBest_L_whyNot) rfl hdsL_whyNot rfl rfl rfl (by rw [hR]; exact ⟨Nat.le_of_ble_eq_true rfl, Nat.le_of_ble_eq_true rfl⟩) ⟨Nat.zero_le _, Nat.zero_le _⟩ (Nat.le_of_ble_eq_true rfl) rfl dL_isBest_82 ?_
      refine v_if_ne C (pc := 85) (tgt := 95) dL_isBest_85 (by decide) (fun c29 => ?_) (fun c29 => ?_)
      · rw [if_neg c29] at h
        refine v_iconst C (pc := 95) (v := 0) dL_isBest_95 (by decide) ?_
        refine v_iadd C (pc := 96) dL_isBest_96 ?_
        refine v_istore C (pc := 97) (i := 6) (lv' := [some (va_rf a0), some (va_rf a1), some (.int a2), some (.int a3), some (.int a4), some (.int a5), some (.int (a6 + 0)), some (.int a7), none]) dL_isBest_97 rfl (lw_bi (j := 5) rfl) rfl ?_
        refine v_iinc C (pc := 99) (i := 7) (w := 1) (lv' := [some (va_rf a0), some (va_rf a1), some (.int a2), some (.int a3), some (.int a4), some (.int a5), some (.int (a6 + 0)), some (.int (a7 + 1)), none]) dL_isBest_99 rfl (by decide) rfl ?_
        refine v_goto C (pc := 102) (tgt := 60) dL_isBest_102 (by decide) ?_
        exact ih _ _ h
      · rw [if_pos c29] at h
        refine v_iconst C (pc := 88) (v := 1) dL_isBest_88 (by decide) ?_
        refine v_iload C (pc := 89) (i := 7) dL_isBest_89 rfl ?_
        refine v_ishl C (pc := 91) dL_isBest_91 ?_
        refine v_goto C (pc := 92) (tgt := 96) dL_isBest_92 (by decide) ?_
        refine v_iadd C (pc := 96) dL_isBest_96 ?_
        refine v_istore C (pc := 97) (i := 6) (lv' := [some (va_rf a0), some (va_rf a1), some (.int a2), some (.int a3), some (.int a4), some (.int a5), some (.int (a6 + (1 <<< (a7 &&& 31)))), some (.int a7), none]) dL_isBest_97 rfl (lw_bi (j := 5) rfl) rfl ?_
        refine v_iinc C (pc := 99) (i := 7) (w := 1) (lv' := [some (va_rf a0), some (va_rf a1), some (.int a2), some (.int a3), some (.int a4), some (.int a5), some (.int (a6 + (1 <<< (a7 &&& 31)))), some (.int (a7 + 1)), none]) dL_isBest_99 rfl (by decide) rfl ?_
        refine v_goto C (pc := 102) (tgt := 60) dL_isBest_102 (by decide) ?_
        exact ih _ _ h
def bL_isBest_52 (M : hM) (a0 : Option Nat) (a1 : Option Nat) (a2 : Int32) (a3 : Int32) (a4 : Int32) (s0 : Int32) : Option Int32 :=
  lL_isBest_60 M a0 a1 a2 a3 a4 s0 1000 0 0
set_option maxRecDepth 100000 in
set_option maxHeartbeats 4000000 in
theorem tbL_isBest_52 {κ : hKx} {M : hM} {r : Int32} (P : Cp κ RL cL_isBest vsL_isBest (some .boolean) (some (.int r))) (hR : kR κ = rmL_isBest)  {a0 : Option Nat} {a1 : Option Nat} {a2 : Int32} {a3 : Int32} {a4 : Int32} {s0 : Int32}  (h : bL_isBest_52 M a0 a1 a2 a3 a4 s0 = some r) : VW κ 0 0 M 52 [some (va_rf a0), some (va_rf a1), some (.int a2), some (.int a3), some (.int a4), none, none, none, none] [.int s0] := by
  unfold bL_isBest_52 at h
  have C := P.1
  refine v_istore C (pc := 52) (i := 5) (lv' := [some (va_rf a0), some (va_rf a1), some (.int a2), some (.int a3), some (.int a4), some (.int s0), none, none, none]) dL_isBest_52 rfl (lw_bi (j := 4) rfl) rfl ?_
  refine v_iconst C (pc := 54) (v := 0) dL_isBest_54 (by decide) ?_
  refine v_istore C (pc := 55) (i := 6) (lv' := [some (va_rf a0), some (va_rf a1), some (.int a2), some (.int a3), some (.int a4), some (.int s0), some (.int 0), none, none]) dL_isBest_55 rfl (lw_bi (j := 5) rfl) rfl ?_
  refine v_iconst C (pc := 57) (v := 0) dL_isBest_57 (by decide) ?_
  refine v_istore C (pc := 58) (i := 7) (lv' := [some (va_rf a0), some (va_rf a1), some (.int a2), some (.int a3), some (.int a4), some (.int s0), some (.int 0), some (.int 0), none]) dL_isBest_58 rfl (lw_bi (j := 6) rfl) rfl ?_
  exact tlL_isBest_60 P hR  1000 _ _ h
def bL_isBest_51 (M : hM) (a0 : Option Nat) (a1 : Option Nat) (a2 : Int32) (a3 : Int32) (a4 : Int32) : Option Int32 :=
  bL_isBest_52 M a0 a1 a2 a3 a4 0
set_option maxRecDepth 100000 in
set_option maxHeartbeats 4000000 in
theorem tbL_isBest_51 {κ : hKx} {M : hM} {r : Int32} (P : Cp κ RL cL_isBest vsL_isBest (some .boolean) (some (.int r))) (hR : kR κ = rmL_isBest)  {a0 : Option Nat} {a1 : Option Nat} {a2 : Int32} {a3 : Int32} {a4 : Int32}  (h : bL_isBest_51 M a0 a1 a2 a3 a4 = some r) : VW κ 0 0 M 51 [some (va_rf a0), some (va_rf a1), some (.int a2), some (.int a3), some (.int a4), none, none, none, none] [] := by
  unfold bL_isBest_51 at h
  have C := P.1
  refine v_iconst C (pc := 51) (v := 0) dL_isBest_51 (by decide) ?_
  exact tbL_isBest_52 P hR  h
def fL_isBest (M : hM) (a0 : Option Nat) (a1 : Option Nat) (a2 : Int32) (a3 : Int32) : Option Int32 :=
  (fL_bestq M a0 (a2 / 8) (a2 - a2 / 8 * 8) a3).bind fun x1 =>
  (fL_anewq M a0 (a2 / 8) (a2 - a2 / 8 * 8) a3).bind fun x2 =>
  if (x1 : Int32) = x2 then (
    if (x1 : Int32) < 0 then (
      bL_isBest_51 M a0 a1 a2 a3 x1
    ) else (
      (fL_bits x1).bind fun x31 =>
      if (3 : Int32) < x31 then (
        bL_isBest_51 M a0 a1 a2 a3 x1
      ) else (
        bL_isBest_52 M a0 a1 a2 a3 x1 1
      )
    )
  ) else (
    bL_isBest_51 M a0 a1 a2 a3 x1
  )
set_option maxRecDepth 100000 in
set_option maxHeartbeats 4000000 in
theorem cL_isBest_met (l : Launch) (G : hG) (M : hM) {a0 : Option Nat} {a1 : Option Nat} {a2 : Int32} {a3 : Int32} {r : Int32} (h : fL_isBest M a0 a1 a2 a3 = some r) : hPMet l yL_isBest vsL_isBest rmL_isBest [va_rf a0, va_rf a1, .int a2, .int a3] G M (some (.int r)) := by
  refine hp_entry (own := RL) (cc := cL_isBest) (maxL := 9) (ret := (some .boolean)) (lv := [some (va_rf a0), some (va_rf a1), some (.int a2), some (.int a3), none, none, none, none, none]) (by decide) rfl rfl (hcc (rf_cat _) (hcc (rf_cat _) (hcc rfl (hcc rfl hc0)))) (Nat.le_of_ble_eq_true rfl) rfl (fun κ hG hl hR P => ?_)
  subst hG; subst hl
  unfold fL_isBest at h
  have C := P.1
  refine v_aload_n C (pc := 0) (i := 0) dL_isBest_0 rfl ?_
  refine v_iload_n C (pc := 1) (i := 2) dL_isBest_1 rfl ?_
  refine v_bipush C (pc := 2) (v := 8) dL_isBest_2 (by decide) ?_
  refine v_idiv C (pc := 4) dL_isBest_4 (by decide) ?_
  refine v_iload_n C (pc := 5) (i := 2) dL_isBest_5 rfl ?_
  refine v_bipush C (pc := 6) (v := 8) dL_isBest_6 (by decide) ?_
  refine v_irem C (pc := 8) dL_isBest_8 (by decide) ?_
  refine v_iload_n C (pc := 9) (i := 3) dL_isBest_9 rfl ?_
  obtain ⟨x1, e1, h⟩ := Option.bind_eq_some_iff.mp h
  refine v_pSH C (pc := 10) [va_rf a0, .int (a2 / 8), .int (a2 - a2 / 8 * 8), .int a3] 4 (cL_bestq_met (kl κ) (kG κ) _ e1) (good_l3 gL_isBest_L_best) rfl hdsL_best rfl rfl rfl (by rw [hR]; exact ⟨Nat.le_of_ble_eq_true rfl, Nat.le_of_ble_eq_true rfl⟩) ⟨Nat.zero_le _, Nat.zero_le _⟩ (Nat.le_of_ble_eq_true rfl) rfl dL_isBest_10 ?_
  refine v_istore C (pc := 13) (i := 4) (lv' := [some (va_rf a0), some (va_rf a1), some (.int a2), some (.int a3), some (.int x1), none, none, none, none]) dL_isBest_13 rfl (lw_bi (j := 3) rfl) rfl ?_
  refine v_iload C (pc := 15) (i := 4) dL_isBest_15 rfl ?_
  refine v_aload_n C (pc := 17) (i := 0) dL_isBest_17 rfl ?_
  refine v_iload_n C (pc := 18) (i := 2) dL_isBest_18 rfl ?_
  refine v_bipush C (pc := 19) (v := 8) dL_isBest_19 (by decide) ?_
  refine v_idiv C (pc := 21) dL_isBest_21 (by decide) ?_
  refine v_iload_n C (pc := 22) (i := 2) dL_isBest_22 rfl ?_
  refine v_bipush C (pc := 23) (v := 8) dL_isBest_23 (by decide) ?_
  refine v_irem C (pc := 25) dL_isBest_25 (by decide) ?_
  refine v_iload_n C (pc := 26) (i := 3) dL_isBest_26 rfl ?_
  obtain ⟨x2, e2, h⟩ := Option.bind_eq_some_iff.mp h
  refine v_pSH C (pc := 27) [va_rf a0, .int (a2 / 8), .int (a2 - a2 / 8 * 8), .int a3] 4 (cL_anewq_met (kl κ) (kG κ) _ e2) (good_l3 gL_isBest_L_anew) rfl hdsL_anew rfl rfl rfl (by rw [hR]; exact ⟨Nat.le_of_ble_eq_true rfl, Nat.le_of_ble_eq_true rfl⟩) ⟨Nat.zero_le _, Nat.zero_le _⟩ (Nat.le_of_ble_eq_true rfl) rfl dL_isBest_27 ?_
  refine v_icmp_ne C (pc := 30) (tgt := 51) dL_isBest_30 (by decide) (fun c3 => ?_) (fun c3 => ?_)
  · rw [if_neg c3] at h
    exact tbL_isBest_51 P hR  h
  · rw [if_pos c3] at h
    refine v_iload C (pc := 33) (i := 4) dL_isBest_33 rfl ?_
    refine v_if_lt C (pc := 35) (tgt := 51) dL_isBest_35 (by decide) (fun c30 => ?_) (fun c30 => ?_)
    · rw [if_pos c30] at h
      exact tbL_isBest_51 P hR  h
    · rw [if_neg c30] at h
      refine v_iload C (pc := 38) (i := 4) dL_isBest_38 rfl ?_
      obtain ⟨x31, e31, h⟩ := Option.bind_eq_some_iff.mp h
      refine v_pS C (pc := 40) [.int x1] 1 (cL_bits_met (kl κ) (kG κ) _ e31) (good_l3 gL_isBest_L_bits) rfl hdsL_bits rfl rfl rfl (by rw [hR]; exact ⟨Nat.le_of_ble_eq_true rfl, Nat.le_of_ble_eq_true rfl⟩) ⟨Nat.zero_le _, Nat.zero_le _⟩ (Nat.le_of_ble_eq_true rfl) rfl dL_isBest_40 ?_
      refine v_iconst C (pc := 43) (v := 3) dL_isBest_43 (by decide) ?_
      refine v_icmp_gt C (pc := 44) (tgt := 51) dL_isBest_44 (by decide) (fun c32 => ?_) (fun c32 => ?_)
      · rw [if_pos c32] at h
        exact tbL_isBest_51 P hR  h
      · rw [if_neg c32] at h
        refine v_iconst C (pc := 47) (v := 1) dL_isBest_47 (by decide) ?_
        refine v_goto C (pc := 48) (tgt := 52) dL_isBest_48 (by decide) ?_
        exact tbL_isBest_52 P hR  h
/-! L_areNested -/
abbrev rmL_areNested : Room := { frames := 8, cells := 0, slots := 0, locals := 137 }
def vsL_areNested : List Cond := wsL_areNested ++ hL3
def bL_areNested_100 (M : hM) (a0 : Option Nat) (a3 : Int32) : Option Int32 :=
  (fL_nestsq M a0 a3 a3).bind fun x13 =>
  if (x13 : Int32) = 0 then (
    some 1
  ) else (
    some 0
  )
set_option maxRecDepth 100000 in
set_option maxHeartbeats 4000000 in
theorem tbL_areNested_100 {κ : hKx} {M : hM} {r : Int32} (P : Cp κ RL cL_areNested vsL_areNested (some .boolean) (some (.int r))) (hR : kR κ = rmL_areNested)  {a0 : Option Nat} {a3 : Int32}  (h : bL_areNested_100 M a0 a3 = some r) : VW κ 0 0 M 100 [some (va_rf a0), none, none, some (.int a3), none, none, none, none] [] := by
  unfold bL_areNested_100 at h
  have C := P.1
  refine v_aload_n C (pc := 100) (i := 0) dL_areNested_100 rfl ?_
  refine v_iload_n C (pc := 101) (i := 3) dL_areNested_101 rfl ?_
  refine v_iload_n C (pc := 102) (i := 3) dL_areNested_102 rfl ?_
  obtain ⟨x13, e13, h⟩ := Option.bind_eq_some_iff.mp h
  refine v_pSH C (pc := 103) [va_rf a0, .int a3, .int a3] 3 (cL_nestsq_met (kl κ) (kG κ) _ e13) (good_l3 gL_areNested_L_nests) rfl hdsL_nests rfl rfl rfl (by rw [hR]; exact ⟨Nat.le_of_ble_eq_true rfl, Nat.le_of_ble_eq_true rfl⟩) ⟨Nat.zero_le _, Nat.zero_le _⟩ (Nat.le_of_ble_eq_true rfl) rfl dL_areNested_103 ?_
  refine v_if_ne C (pc := 106) (tgt := 113) dL_areNested_106 (by decide) (fun c14 => ?_) (fun c14 => ?_)
  · rw [if_neg c14] at h
    refine v_iconst C (pc := 113) (v := 0) dL_areNested_113 (by decide) ?_
    have h := Option.some.inj h
    subst h
    exact v_pret (pc := 114) P rfl rfl (by decide +kernel) dL_areNested_114
  · rw [if_pos c14] at h
    refine v_iconst C (pc := 109) (v := 1) dL_areNested_109 (by decide) ?_
    refine v_goto C (pc := 110) (tgt := 114) dL_areNested_110 (by decide) ?_
    have h := Option.some.inj h
    subst h
    exact v_pret (pc := 114) P rfl rfl (by decide +kernel) dL_areNested_114
def bL_areNested_79 (M : hM) (a0 : Option Nat) (a3 : Int32) (a5 : Int32) (a6 : Int32) (a7 : Int32) : Option Int32 :=
  if (a6 : Int32) = 0 then (
    bL_areNested_100 M a0 a3
  ) else (
    if (a7 : Int32) = 0 then (
      bL_areNested_100 M a0 a3
    ) else (
      (fL_nestsq M a0 a3 a5).bind fun x16 =>
      if (x16 : Int32) = 1 then (
        bL_areNested_100 M a0 a3
      ) else (
        some 0
      )
    )
  )
set_option maxRecDepth 100000 in
set_option maxHeartbeats 4000000 in
theorem tbL_areNested_79 {κ : hKx} {M : hM} {r : Int32} (P : Cp κ RL cL_areNested vsL_areNested (some .boolean) (some (.int r))) (hR : kR κ = rmL_areNested)  {a0 : Option Nat} {a3 : Int32} {a5 : Int32} {a6 : Int32} {a7 : Int32}  (h : bL_areNested_79 M a0 a3 a5 a6 a7 = some r) : VW κ 0 0 M 79 [some (va_rf a0), none, none, some (.int a3), none, some (.int a5), some (.int a6), some (.int a7)] [] := by
  unfold bL_areNested_79 at h
  have C := P.1
  refine v_iload C (pc := 79) (i := 6) dL_areNested_79 rfl ?_
  refine v_if_eq C (pc := 81) (tgt := 100) dL_areNested_81 (by decide) (fun c12 => ?_) (fun c12 => ?_)
  · rw [if_pos c12] at h
    refine v_mask (lv' := [some (va_rf a0), none, none, some (.int a3), none, none, none, none]) [true, false, false, true, false, false, false, false] rfl rfl ?_
    exact tbL_areNested_100 P hR  h
  · rw [if_neg c12] at h
    refine v_iload C (pc := 84) (i := 7) dL_areNested_84 rfl ?_
    refine v_if_eq C (pc := 86) (tgt := 100) dL_areNested_86 (by decide) (fun c15 => ?_) (fun c15 => ?_)
    · rw [if_pos c15] at h
      refine v_mask (lv' := [some (va_rf a0), none, none, some (.int a3), none, none, none, none]) [true, false, false, true, false, false, false, false] rfl rfl ?_
      exact tbL_areNested_100 P hR  h
    · rw [if_neg c15] at h
      refine v_aload_n C (pc := 89) (i := 0) dL_areNested_89 rfl ?_
      refine v_iload_n C (pc := 90) (i := 3) dL_areNested_90 rfl ?_
      refine v_iload C (pc := 91) (i := 5) dL_areNested_91 rfl ?_
      obtain ⟨x16, e16, h⟩ := Option.bind_eq_some_iff.mp h
      refine v_pSH C (pc := 93) [va_rf a0, .int a3, .int a5] 3 (cL_nestsq_met (kl κ) (kG κ) _ e16) (good_l3 gL_areNested_L_nests) rfl hdsL_nests rfl rfl rfl (by rw [hR]; exact ⟨Nat.le_of_ble_eq_true rfl, Nat.le_of_ble_eq_true rfl⟩) ⟨Nat.zero_le _, Nat.zero_le _⟩ (Nat.le_of_ble_eq_true rfl) rfl dL_areNested_93 ?_
      refine v_iconst C (pc := 96) (v := 1) dL_areNested_96 (by decide) ?_
      refine v_icmp_ne C (pc := 97) (tgt := 113) dL_areNested_97 (by decide) (fun c17 => ?_) (fun c17 => ?_)
      · rw [if_neg c17] at h
        refine v_iconst C (pc := 113) (v := 0) dL_areNested_113 (by decide) ?_
        have h := Option.some.inj h
        subst h
        exact v_pret (pc := 114) P rfl rfl (by decide +kernel) dL_areNested_114
      · rw [if_pos c17] at h
        refine v_mask (lv' := [some (va_rf a0), none, none, some (.int a3), none, none, none, none]) [true, false, false, true, false, false, false, false] rfl rfl ?_
        exact tbL_areNested_100 P hR  h
def bL_areNested_61 (M : hM) (a0 : Option Nat) (a3 : Int32) (a4 : Int32) (a5 : Int32) (a6 : Int32) (s0 : Int32) : Option Int32 :=
  if (a6 : Int32) = 0 then (
    bL_areNested_79 M a0 a3 a5 a6 s0
  ) else (
    (fL_nestsq M a0 a4 a3).bind fun x18 =>
    if (x18 : Int32) = 1 then (
      some 0
    ) else (
      bL_areNested_79 M a0 a3 a5 a6 s0
    )
  )
set_option maxRecDepth 100000 in
set_option maxHeartbeats 4000000 in
theorem tbL_areNested_61 {κ : hKx} {M : hM} {r : Int32} (P : Cp κ RL cL_areNested vsL_areNested (some .boolean) (some (.int r))) (hR : kR κ = rmL_areNested)  {a0 : Option Nat} {a3 : Int32} {a4 : Int32} {a5 : Int32} {a6 : Int32} {s0 : Int32}  (h : bL_areNested_61 M a0 a3 a4 a5 a6 s0 = some r) : VW κ 0 0 M 61 [some (va_rf a0), none, none, some (.int a3), some (.int a4), some (.int a5), some (.int a6), none] [.int s0] := by
  unfold bL_areNested_61 at h
  have C := P.1
  refine v_istore C (pc := 61) (i := 7) (lv' := [some (va_rf a0), none, none, some (.int a3), some (.int a4), some (.int a5), some (.int a6), some (.int s0)]) dL_areNested_61 rfl (lw_bi (j := 6) rfl) rfl ?_
  refine v_iload C (pc := 63) (i := 6) dL_areNested_63 rfl ?_
  refine v_if_eq C (pc := 65) (tgt := 79) dL_areNested_65 (by decide) (fun c11 => ?_) (fun c11 => ?_)
  · rw [if_pos c11] at h
    refine v_mask (lv' := [some (va_rf a0), none, none, some (.int a3), none, some (.int a5), some (.int a6), some (.int s0)]) [true, false, false, true, false, true, true, true] rfl rfl ?_
    exact tbL_areNested_79 P hR  h
  · rw [if_neg c11] at h
    refine v_aload_n C (pc := 68) (i := 0) dL_areNested_68 rfl ?_
    refine v_iload C (pc := 69) (i := 4) dL_areNested_69 rfl ?_
    refine v_iload_n C (pc := 71) (i := 3) dL_areNested_71 rfl ?_
    obtain ⟨x18, e18, h⟩ := Option.bind_eq_some_iff.mp h
    refine v_pSH C (pc := 72) [va_rf a0, .int a4, .int a3] 3 (cL_nestsq_met (kl κ) (kG κ) _ e18) (good_l3 gL_areNested_L_nests) rfl hdsL_nests rfl rfl rfl (by rw [hR]; exact ⟨Nat.le_of_ble_eq_true rfl, Nat.le_of_ble_eq_true rfl⟩) ⟨Nat.zero_le _, Nat.zero_le _⟩ (Nat.le_of_ble_eq_true rfl) rfl dL_areNested_72 ?_
    refine v_iconst C (pc := 75) (v := 1) dL_areNested_75 (by decide) ?_
    refine v_icmp_eq C (pc := 76) (tgt := 113) dL_areNested_76 (by decide) (fun c19 => ?_) (fun c19 => ?_)
    · rw [if_pos c19] at h
      refine v_iconst C (pc := 113) (v := 0) dL_areNested_113 (by decide) ?_
      have h := Option.some.inj h
      subst h
      exact v_pret (pc := 114) P rfl rfl (by decide +kernel) dL_areNested_114
    · rw [if_neg c19] at h
      refine v_mask (lv' := [some (va_rf a0), none, none, some (.int a3), none, some (.int a5), some (.int a6), some (.int s0)]) [true, false, false, true, false, true, true, true] rfl rfl ?_
      exact tbL_areNested_79 P hR  h
def bL_areNested_42 (M : hM) (a0 : Option Nat) (a3 : Int32) (a4 : Int32) (a5 : Int32) (s0 : Int32) : Option Int32 :=
  (fL_nestsq M a0 a4 a5).bind fun x9 =>
  if (x9 : Int32) = 1 then (
    bL_areNested_61 M a0 a3 a4 a5 s0 1
  ) else (
    bL_areNested_61 M a0 a3 a4 a5 s0 0
  )
set_option maxRecDepth 100000 in
set_option maxHeartbeats 4000000 in
theorem tbL_areNested_42 {κ : hKx} {M : hM} {r : Int32} (P : Cp κ RL cL_areNested vsL_areNested (some .boolean) (some (.int r))) (hR : kR κ = rmL_areNested)  {a0 : Option Nat} {a3 : Int32} {a4 : Int32} {a5 : Int32} {s0 : Int32}  (h : bL_areNested_42 M a0 a3 a4 a5 s0 = some r) : VW κ 0 0 M 42 [some (va_rf a0), none, none, some (.int a3), some (.int a4), some (.int a5), none, none] [.int s0] := by
  unfold bL_areNested_42 at h
  have C := P.1
  refine v_istore C (pc := 42) (i := 6) (lv' := [some (va_rf a0), none, none, some (.int a3), some (.int a4), some (.int a5), some (.int s0), none]) dL_areNested_42 rfl (lw_bi (j := 5) rfl) rfl ?_
  refine v_aload_n C (pc := 44) (i := 0) dL_areNested_44 rfl ?_
  refine v_iload C (pc := 45) (i := 4) dL_areNested_45 rfl ?_
  refine v_iload C (pc := 47) (i := 5) dL_areNested_47 rfl ?_
  obtain ⟨x9, e9, h⟩ := Option.bind_eq_some_iff.mp h
  refine v_pSH C (pc := 49) [va_rf a0, .int a4, .int a5] 3 (cL_nestsq_met (kl κ) (kG κ) _ e9) (good_l3 gL_areNested_L_nests) rfl hdsL_nests rfl rfl rfl (by rw [hR]; exact ⟨Nat.le_of_ble_eq_true rfl, Nat.le_of_ble_eq_true rfl⟩) ⟨Nat.zero_le _, Nat.zero_le _⟩ (Nat.le_of_ble_eq_true rfl) rfl dL_areNested_49 ?_
  refine v_iconst C (pc := 52) (v := 1) dL_areNested_52 (by decide) ?_
  refine v_icmp_ne C (pc := 53) (tgt := 60) dL_areNested_53 (by decide) (fun c10 => ?_) (fun c10 => ?_)
  · rw [if_neg c10] at h
    refine v_iconst C (pc := 60) (v := 0) dL_areNested_60 (by decide) ?_
    exact tbL_areNested_61 P hR  h
  · rw [if_pos c10] at h
    refine v_iconst C (pc := 56) (v := 1) dL_areNested_56 (by decide) ?_
    refine v_goto C (pc := 57) (tgt := 61) dL_areNested_57 (by decide) ?_
    exact tbL_areNested_61 P hR  h
def fL_areNested (M : hM) (a0 : Option Nat) (a1 : Option Nat) (a2 : Int32) : Option Int32 :=
  (aI M 0 a1 0).bind fun x1 =>
  (rmI a2 x1).bind fun x2 =>
  (aI M 0 a1 0).bind fun x3 =>
  (rmI (a2 / 8) x3).bind fun x4 =>
  (aI M 0 a1 0).bind fun x5 =>
  (rmI (a2 / 64) x5).bind fun x6 =>
  (fL_nestsq M a0 (a2 - a2 / x1 * x1) ((a2 / 8) - (a2 / 8) / x3 * x3)).bind fun x7 =>
  if (x7 : Int32) = 1 then (
    bL_areNested_42 M a0 (a2 - a2 / x1 * x1) ((a2 / 8) - (a2 / 8) / x3 * x3) ((a2 / 64) - (a2 / 64) / x5 * x5) 1
  ) else (
    bL_areNested_42 M a0 (a2 - a2 / x1 * x1) ((a2 / 8) - (a2 / 8) / x3 * x3) ((a2 / 64) - (a2 / 64) / x5 * x5) 0
  )
set_option maxRecDepth 100000 in
set_option maxHeartbeats 4000000 in
theorem cL_areNested_met (l : Launch) (G : hG) (M : hM) {a0 : Option Nat} {a1 : Option Nat} {a2 : Int32} {r : Int32} (h : fL_areNested M a0 a1 a2 = some r) : hPMet l yL_areNested vsL_areNested rmL_areNested [va_rf a0, va_rf a1, .int a2] G M (some (.int r)) := by
  refine hp_entry (own := RL) (cc := cL_areNested) (maxL := 8) (ret := (some .boolean)) (lv := [some (va_rf a0), some (va_rf a1), some (.int a2), none, none, none, none, none]) (by decide) rfl rfl (hcc (rf_cat _) (hcc (rf_cat _) (hcc rfl hc0))) (Nat.le_of_ble_eq_true rfl) rfl (fun κ hG hl hR P => ?_)
  subst hG; subst hl
  unfold fL_areNested at h
  have C := P.1
  refine v_iload_n C (pc := 0) (i := 2) dL_areNested_0 rfl ?_
  refine v_aload_n C (pc := 1) (i := 1) dL_areNested_1 rfl ?_
  refine v_iconst C (pc := 2) (v := 0) dL_areNested_2 (by decide) ?_
  obtain ⟨x1, e1, h⟩ := Option.bind_eq_some_iff.mp h
  refine v_iald C (pc := 3) e1 dL_areNested_3 ?_
  obtain ⟨x2, e2, h⟩ := Option.bind_eq_some_iff.mp h
  obtain ⟨hde2, rfl⟩ := rmI_inv e2
  refine v_irem C (pc := 4) dL_areNested_4 hde2 ?_
  refine v_istore_n C (pc := 5) (i := 3) (lv' := [some (va_rf a0), some (va_rf a1), some (.int a2), some (.int (a2 - a2 / x1 * x1)), none, none, none, none]) dL_areNested_5 rfl (lw_bi (j := 2) rfl) rfl ?_
  refine v_iload_n C (pc := 6) (i := 2) dL_areNested_6 rfl ?_
  refine v_bipush C (pc := 7) (v := 8) dL_areNested_7 (by decide) ?_
  refine v_idiv C (pc := 9) dL_areNested_9 (by decide) ?_
  refine v_aload_n C (pc := 10) (i := 1) dL_areNested_10 rfl ?_
  refine v_iconst C (pc := 11) (v := 0) dL_areNested_11 (by decide) ?_
  obtain ⟨x3, e3, h⟩ := Option.bind_eq_some_iff.mp h
  refine v_iald C (pc := 12) e3 dL_areNested_12 ?_
  obtain ⟨x4, e4, h⟩ := Option.bind_eq_some_iff.mp h
  obtain ⟨hde4, rfl⟩ := rmI_inv e4
  refine v_irem C (pc := 13) dL_areNested_13 hde4 ?_
  refine v_istore C (pc := 14) (i := 4) (lv' := [some (va_rf a0), some (va_rf a1), some (.int a2), some (.int (a2 - a2 / x1 * x1)), some (.int ((a2 / 8) - (a2 / 8) / x3 * x3)), none, none, none]) dL_areNested_14 rfl (lw_bi (j := 3) rfl) rfl ?_
  refine v_iload_n C (pc := 16) (i := 2) dL_areNested_16 rfl ?_
  refine v_bipush C (pc := 17) (v := 64) dL_areNested_17 (by decide) ?_
  refine v_idiv C (pc := 19) dL_areNested_19 (by decide) ?_
  refine v_aload_n C (pc := 20) (i := 1) dL_areNested_20 rfl ?_
  refine v_iconst C (pc := 21) (v := 0) dL_areNested_21 (by decide) ?_
  obtain ⟨x5, e5, h⟩ := Option.bind_eq_some_iff.mp h
  refine v_iald C (pc := 22) e5 dL_areNested_22 ?_
  obtain ⟨x6, e6, h⟩ := Option.bind_eq_some_iff.mp h
  obtain ⟨hde6, rfl⟩ := rmI_inv e6
  refine v_irem C (pc := 23) dL_areNested_23 hde6 ?_
  refine v_istore C (pc := 24) (i := 5) (lv' := [some (va_rf a0), some (va_rf a1), some (.int a2), some (.int (a2 - a2 / x1 * x1)), some (.int ((a2 / 8) - (a2 / 8) / x3 * x3)), some (.int ((a2 / 64) - (a2 / 64) / x5 * x5)), none, none]) dL_areNested_24 rfl (lw_bi (j := 4) rfl) rfl ?_
  refine v_aload_n C (pc := 26) (i := 0) dL_areNested_26 rfl ?_
  refine v_iload_n C (pc := 27) (i := 3) dL_areNested_27 rfl ?_
  refine v_iload C (pc := 28) (i := 4) dL_areNested_28 rfl ?_
  obtain ⟨x7, e7, h⟩ := Option.bind_eq_some_iff.mp h
  refine v_pSH C (pc := 30) [va_rf a0, .int (a2 - a2 / x1 * x1), .int ((a2 / 8) - (a2 / 8) / x3 * x3)] 3 (cL_nestsq_met (kl κ) (kG κ) _ e7) (good_l3 gL_areNested_L_nests) rfl hdsL_nests rfl rfl rfl (by rw [hR]; exact ⟨Nat.le_of_ble_eq_true rfl, Nat.le_of_ble_eq_true rfl⟩) ⟨Nat.zero_le _, Nat.zero_le _⟩ (Nat.le_of_ble_eq_true rfl) rfl dL_areNested_30 ?_
  refine v_iconst C (pc := 33) (v := 1) dL_areNested_33 (by decide) ?_
  refine v_icmp_ne C (pc := 34) (tgt := 41) dL_areNested_34 (by decide) (fun c8 => ?_) (fun c8 => ?_)
  · rw [if_neg c8] at h
    refine v_iconst C (pc := 41) (v := 0) dL_areNested_41 (by decide) ?_
    refine v_mask (lv' := [some (va_rf a0), none, none, some (.int (a2 - a2 / x1 * x1)), some (.int ((a2 / 8) - (a2 / 8) / x3 * x3)), some (.int ((a2 / 64) - (a2 / 64) / x5 * x5)), none, none]) [true, false, false, true, true, true, false, false] rfl rfl ?_
    exact tbL_areNested_42 P hR  h
  · rw [if_pos c8] at h
    refine v_iconst C (pc := 37) (v := 1) dL_areNested_37 (by decide) ?_
    refine v_goto C (pc := 38) (tgt := 42) dL_areNested_38 (by decide) ?_
    refine v_mask (lv' := [some (va_rf a0), none, none, some (.int (a2 - a2 / x1 * x1)), some (.int ((a2 / 8) - (a2 / 8) / x3 * x3)), some (.int ((a2 / 64) - (a2 / 64) / x5 * x5)), none, none]) [true, false, false, true, true, true, false, false] rfl rfl ?_
    exact tbL_areNested_42 P hR  h
