/-! ===== the law's body ===== -/
theorem good_t {ws : List Cond} (h : GoodIn wsL_law ws) : GoodIn lw_tbl ws := fun w hw => ⟨wsL_law_in _ (h w hw).1, (h w hw).2⟩
theorem good_t3 {ws : List Cond} (h : GoodIn wsL_law ws) : GoodIn lw_tbl (ws ++ hL3) := fun w hw => (List.mem_append.mp hw).elim (fun q => ⟨wsL_law_in _ (h w q).1, (h w q).2⟩) (fun q => (show GoodIn lw_tbl hL3 from goodIn_r (big := lw_tbl) hL3 [113, 411, 190] (by decide +kernel) (by decide +kernel)) w q)
theorem iwL_law_X4 : ∀ w ∈ u_ws RX4 TX4 13, w ∈ lw_tbl := fun w h => inX4 w h
/-! the script's reader -/
abbrev rmL_drawn : Room := { frames := 0, cells := 0, slots := 0, locals := 0 }
def vsL_drawn : List Cond := wsL_drawn ++ hL3
def fL_drawn (L : Nat) (xs : Nat → Int32) (a1 : Int32) : Option Int32 :=
  if (Int32.ofNat L : Int32) ≤ a1 then (
    some (((14127341 * (a1 + 3)) + 16871) &&& 2147483647)
  ) else (
    if 0 ≤ a1.toInt ∧ a1.toInt < (L : Int) then some (xs a1.toNatClampNeg &&& 2147483647) else none
  )
set_option maxRecDepth 100000 in
set_option maxHeartbeats 4000000 in
theorem cL_drawn_met (l : Launch) (G : hG) (b L : Nat) (xs : Nat → Int32) {a1 : Int32} {r : Int32} (h : fL_drawn L xs a1 = some r) : hPMx l yL_drawn vsL_drawn rmL_drawn [va_rf (some b), .int a1] G b L xs (some (.int r)) := by
  refine hp_entryX (own := RL) (cc := cL_drawn) (maxL := 2) (ret := (some .int)) (lv := [some (va_rf (some b)), some (.int a1)]) (by decide) rfl rfl (hcc (rf_cat _) (hcc rfl hc0)) (Nat.le_of_ble_eq_true rfl) rfl (fun κ hG hl hR P hX => ?_)
  subst hG; subst hl
  unfold fL_drawn at h
  have C := P.1
  refine v_iload_n C (pc := 0) (i := 1) dL_drawn_0 rfl ?_
  refine v_aload_n C (pc := 1) (i := 0) dL_drawn_1 rfl ?_
  refine v_slenP P hX (pc := 2) dL_drawn_2 ?_
  refine v_icmp_ge C (pc := 3) (tgt := 12) dL_drawn_3 (by decide) (fun c2 => ?_) (fun c2 => ?_)
  · rw [if_pos c2] at h
    refine v_ldc C (pc := 12) (v := 14127341) (List.mem_append_left _ (List.mem_cons_of_mem _ (List.mem_of_getElem? (i := 0) rfl))) dL_drawn_12 ?_
    refine v_iload_n C (pc := 14) (i := 1) dL_drawn_14 rfl ?_
    refine v_iconst C (pc := 15) (v := 3) dL_drawn_15 (by decide) ?_
    refine v_iadd C (pc := 16) dL_drawn_16 ?_
    refine v_imul C (pc := 17) dL_drawn_17 ?_
    refine v_sipush C (pc := 18) (v := 16871) dL_drawn_18 (by decide) ?_
    refine v_iadd C (pc := 21) dL_drawn_21 ?_
    refine v_ldc C (pc := 22) (v := 2147483647) (List.mem_append_left _ (List.mem_cons_of_mem _ (List.mem_of_getElem? (i := 1) rfl))) dL_drawn_22 ?_
    refine v_iand C (pc := 24) dL_drawn_24 ?_
    have h := Option.some.inj h
    subst h
    exact v_pret (pc := 25) P rfl rfl (nar_int _) dL_drawn_25
  · rw [if_neg c2] at h
    refine v_aload_n C (pc := 6) (i := 0) dL_drawn_6 rfl ?_
    refine v_iload_n C (pc := 7) (i := 1) dL_drawn_7 rfl ?_
    by_cases hin : 0 ≤ a1.toInt ∧ a1.toInt < (L : Int)
    · rw [if_pos hin] at h
      refine v_sldP P hX (pc := 8) (h_in hin) dL_drawn_8 ?_
      refine v_goto C (pc := 9) (tgt := 22) dL_drawn_9 (by decide) ?_
      refine v_ldc C (pc := 22) (v := 2147483647) (List.mem_append_left _ (List.mem_cons_of_mem _ (List.mem_of_getElem? (i := 1) rfl))) dL_drawn_22 ?_
      refine v_iand C (pc := 24) dL_drawn_24 ?_
      have h := Option.some.inj h
      subst h
      exact v_pret (pc := 25) P rfl rfl (nar_int _) dL_drawn_25
    · rw [if_neg hin] at h
      cases h
def lw_a (k4 : hM → Int32 → Int32 → Prop) (b L : Nat) (xs : Nat → Int32) (M : hM)  : Prop :=
  k4 M 1 0
set_option maxRecDepth 100000 in
set_option maxHeartbeats 4000000 in
theorem tlw_a {κ : hKx} {sz b L : Nat} {xs : Nat → Int32} (F : Cw κ RL code lw_tbl (fun _ => none) sz) (hR : kR κ = room_1) (hX : va_X b L xs (ks κ) (ks κ).heap) (hb : b < sz) {cells slots : Nat} (hce : cells + 0 ≤ 600074) (hse : slots + 0 ≤ 7301549) {k4 : hM → Int32 → Int32 → Prop} {M : hM}  (hk4 : ∀ (M : hM) (a1 : Int32) (a2 : Int32), k4 M a1 a2 → VW κ (cells) (slots) M 4 [some (va_rf (some b)), some (.int a1), some (.int a2), none, none, none, none, none, none, none, none, none, none, none, none, none, none, none, none] []) (h : lw_a k4 b L xs M ) : VW κ cells slots M 0 [some (va_rf (some b)), none, none, none, none, none, none, none, none, none, none, none, none, none, none, none, none, none, none] [] := by
  unfold lw_a at h
  have C := F.1
  refine v_iconst C (pc := 0) (v := 1) dL_law_0 (by decide) ?_
  refine v_istore_n C (pc := 1) (i := 1) (lv' := [some (va_rf (some b)), some (.int 1), none, none, none, none, none, none, none, none, none, none, none, none, none, none, none, none, none]) dL_law_1 rfl (lw_br (j := 0) rfl) rfl ?_
  refine v_iconst C (pc := 2) (v := 0) dL_law_2 (by decide) ?_
  refine v_istore_n C (pc := 3) (i := 2) (lv' := [some (va_rf (some b)), some (.int 1), some (.int 0), none, none, none, none, none, none, none, none, none, none, none, none, none, none, none, none]) dL_law_3 rfl (lw_bi (j := 1) rfl) rfl ?_
  exact hk4 _ _ _ h
def lw_b (k47 : hM → Int32 → Int32 → Nat → Nat → Nat → Nat → Nat → Int32 → Prop) (k345 : hM → Int32 → Prop) (b L : Nat) (xs : Nat → Int32) (M : hM) (a1 a2 : Int32) : Prop :=
  if (3 : Int32) ≤ a2 then (
    k345 M a1
  ) else (
    if (a1 : Int32) = 0 then (
      k345 M a1
    ) else (
      ∀ q3 : Nat, M q3 = none →
      wX4_init (hst M q3 (.inr (4, [.null, .null, .null, .int 0, .int 0, .int 0, .int 0, .int 0, .int 0, .int 0, .int 0, .int 0, .int 0]))) q3 (fun M5 =>
      ∀ q6 : Nat, M5 q6 = none →
      ∀ q7 : Nat, (hst M5 q6 (.inl (0, 3, .inl (fun _ => 0)))) q7 = none →
      ∀ q8 : Nat, (hst (hst M5 q6 (.inl (0, 3, .inl (fun _ => 0)))) q7 (.inl (0, 6, .inl (fun _ => 0)))) q8 = none →
      ∀ q9 : Nat, (hst (hst (hst M5 q6 (.inl (0, 3, .inl (fun _ => 0)))) q7 (.inl (0, 6, .inl (fun _ => 0)))) q8 (.inl (0, 48, .inl (fun _ => 0)))) q9 = none →
      k47 (hst (hst (hst (hst M5 q6 (.inl (0, 3, .inl (fun _ => 0)))) q7 (.inl (0, 6, .inl (fun _ => 0)))) q8 (.inl (0, 48, .inl (fun _ => 0)))) q9 (.inl (0, 6, .inl (fun _ => 0)))) a1 a2 q3 q6 q7 q8 q9 0)
    )
  )
set_option maxRecDepth 100000 in
set_option maxHeartbeats 4000000 in
theorem tlw_b {κ : hKx} {sz b L : Nat} {xs : Nat → Int32} (F : Cw κ RL code lw_tbl (fun _ => none) sz) (hR : kR κ = room_1) (hX : va_X b L xs (ks κ) (ks κ).heap) (hb : b < sz) {cells slots : Nat} (hce : cells + 8 ≤ 600074) (hse : slots + 130 ≤ 7301549) {k47 : hM → Int32 → Int32 → Nat → Nat → Nat → Nat → Nat → Int32 → Prop} {k345 : hM → Int32 → Prop} {M : hM} {a1 a2 : Int32} (hk47 : ∀ (M : hM) (a1 : Int32) (a2 : Int32) (a3 : Nat) (a4 : Nat) (a5 : Nat) (a6 : Nat) (a7 : Nat) (a8 : Int32), k47 M a1 a2 a3 a4 a5 a6 a7 a8 → VW κ (cells + 8) (slots + 130) M 47 [some (va_rf (some b)), some (.int a1), some (.int a2), some (va_rf (some a3)), some (va_rf (some a4)), some (va_rf (some a5)), some (va_rf (some a6)), some (va_rf (some a7)), some (.int a8), none, none, none, none, none, none, none, none, none, none] []) (hk345 : ∀ (M : hM) (a1 : Int32), k345 M a1 → VW κ (cells) (slots) M 345 [none, some (.int a1), none, none, none, none, none, none, none, none, none, none, none, none, none, none, none, none, none] []) (h : lw_b k47 k345 b L xs M a1 a2) : VW κ cells slots M 4 [some (va_rf (some b)), some (.int a1), some (.int a2), none, none, none, none, none, none, none, none, none, none, none, none, none, none, none, none] [] := by
  unfold lw_b at h
  have C := F.1
  refine v_iload_n C (pc := 4) (i := 2) dL_law_4 rfl ?_
  refine v_iconst C (pc := 5) (v := 3) dL_law_5 (by decide) ?_
  refine v_icmp_ge C (pc := 6) (tgt := 345) dL_law_6 (by decide) (fun c1 => ?_) (fun c1 => ?_)
  · rw [if_pos c1] at h
    refine v_mask (lv' := [none, some (.int a1), none, none, none, none, none, none, none, none, none, none, none, none, none, none, none, none, none]) [false, true, false, false, false, false, false, false, false, false, false, false, false, false, false, false, false, false, false] rfl rfl ?_
    exact hk345 _ _ h
  · rw [if_neg c1] at h
    refine v_iload_n C (pc := 9) (i := 1) dL_law_9 rfl ?_
    refine v_if_eq C (pc := 10) (tgt := 345) dL_law_10 (by decide) (fun c2 => ?_) (fun c2 => ?_)
    · rw [if_pos c2] at h
      refine v_mask (lv' := [none, some (.int a1), none, none, none, none, none, none, none, none, none, none, none, none, none, none, none, none, none]) [false, true, false, false, false, false, false, false, false, false, false, false, false, false, false, false, false, false, false] rfl rfl ?_
      exact hk345 _ _ h
    · rw [if_neg c2] at h
      refine v_new F (pc := 13) (ci := 4) (fs := [.null, .null, .null, .int 0, .int 0, .int 0, .int 0, .int 0, .int 0, .int 0, .int 0, .int 0, .int 0]) iwL_law_X4 tyX4 tyX4_ok (List.mem_of_getElem? (i := 37) (by decide +kernel)) (List.mem_of_getElem? (i := 38) (by decide +kernel)) (List.mem_of_getElem? (i := 24) (by decide +kernel)) rfl hdfX4 (by rw [hR]; show _ ≤ 600074; omega) (by rw [hR]; show _ ≤ 7301549; omega) dL_law_13 (fun q3 hqq3 => ?_)
      have h := h q3 hqq3
      refine v_dup C (pc := 16) dL_law_16 (rf_cat _) ?_
      refine v_nI F (pc := 17) [] 0 (cX4_init_met (kl κ) F.2.2.2.1 (kG κ) _ h) (good_t gL_law_X4_init) rfl rfl (List.mem_of_getElem? (i := 24) (by decide +kernel)) (List.mem_of_getElem? (i := 39) (by decide +kernel)) (List.mem_of_getElem? (i := 40) (by decide +kernel)) hdsX4_init rfl rfl rfl (by rw [hR]; exact ⟨Nat.le_of_ble_eq_true rfl, Nat.le_of_ble_eq_true rfl⟩) (by rw [hR]; exact ⟨by show _ ≤ 600074; omega, by show _ ≤ 7301549; omega⟩) (Nat.le_of_ble_eq_true rfl) rfl dL_law_17 (hk_v fun M5 h => ?_)
      refine v_astore_n C (pc := 20) (i := 3) (lv' := [some (va_rf (some b)), some (.int a1), some (.int a2), some (va_rf (some q3)), none, none, none, none, none, none, none, none, none, none, none, none, none, none, none]) dL_law_20 rfl (lw_bi (j := 2) rfl) rfl ?_
      refine v_iconst C (pc := 21) (v := 3) dL_law_21 (by decide) ?_
      refine v_newa F (pc := 22) 0 (atype := .int) (ty := .int) (N := 3) (x := (3, .inl (fun _ => 0))) rfl (List.mem_of_getElem? (i := 550) (by decide +kernel)) rfl (fun q => q) (fun _ => rfl) (by decide) (by decide) (by decide) (by rw [hR]; show _ ≤ 600074; omega) (by rw [hR]; show _ ≤ 7301549; omega) dL_law_22 (fun q6 hqq6 => ?_)
      have h := h q6 hqq6
      refine v_astore C (pc := 24) (i := 4) (lv' := [some (va_rf (some b)), some (.int a1), some (.int a2), some (va_rf (some q3)), some (va_rf (some q6)), none, none, none, none, none, none, none, none, none, none, none, none, none, none]) dL_law_24 rfl (lw_br (j := 3) rfl) rfl ?_
      refine v_bipush C (pc := 26) (v := 6) dL_law_26 (by decide) ?_
      refine v_newa F (pc := 28) 0 (atype := .int) (ty := .int) (N := 6) (x := (6, .inl (fun _ => 0))) rfl (List.mem_of_getElem? (i := 550) (by decide +kernel)) rfl (fun q => q) (fun _ => rfl) (by decide) (by decide) (by decide) (by rw [hR]; show _ ≤ 600074; omega) (by rw [hR]; show _ ≤ 7301549; omega) dL_law_28 (fun q7 hqq7 => ?_)
      have h := h q7 hqq7
      refine v_astore C (pc := 30) (i := 5) (lv' := [some (va_rf (some b)), some (.int a1), some (.int a2), some (va_rf (some q3)), some (va_rf (some q6)), some (va_rf (some q7)), none, none, none, none, none, none, none, none, none, none, none, none, none]) dL_law_30 rfl (lw_br (j := 4) rfl) rfl ?_
      refine v_bipush C (pc := 32) (v := 48) dL_law_32 (by decide) ?_
      refine v_newa F (pc := 34) 0 (atype := .int) (ty := .int) (N := 48) (x := (48, .inl (fun _ => 0))) rfl (List.mem_of_getElem? (i := 550) (by decide +kernel)) rfl (fun q => q) (fun _ => rfl) (by decide) (by decide) (by decide) (by rw [hR]; show _ ≤ 600074; omega) (by rw [hR]; show _ ≤ 7301549; omega) dL_law_34 (fun q8 hqq8 => ?_)
      have h := h q8 hqq8
      refine v_astore C (pc := 36) (i := 6) (lv' := [some (va_rf (some b)), some (.int a1), some (.int a2), some (va_rf (some q3)), some (va_rf (some q6)), some (va_rf (some q7)), some (va_rf (some q8)), none, none, none, none, none, none, none, none, none, none, none, none]) dL_law_36 rfl (lw_br (j := 5) rfl) rfl ?_
      refine v_bipush C (pc := 38) (v := 6) dL_law_38 (by decide) ?_
      refine v_newa F (pc := 40) 0 (atype := .int) (ty := .int) (N := 6) (x := (6, .inl (fun _ => 0))) rfl (List.mem_of_getElem? (i := 550) (by decide +kernel)) rfl (fun q => q) (fun _ => rfl) (by decide) (by decide) (by decide) (by rw [hR]; show _ ≤ 600074; omega) (by rw [hR]; show _ ≤ 7301549; omega) dL_law_40 (fun q9 hqq9 => ?_)
      have h := h q9 hqq9
      refine v_astore C (pc := 42) (i := 7) (lv' := [some (va_rf (some b)), some (.int a1), some (.int a2), some (va_rf (some q3)), some (va_rf (some q6)), some (va_rf (some q7)), some (va_rf (some q8)), some (va_rf (some q9)), none, none, none, none, none, none, none, none, none, none, none]) dL_law_42 rfl (lw_br (j := 6) rfl) rfl ?_
      refine v_iconst C (pc := 44) (v := 0) dL_law_44 (by decide) ?_
      refine v_istore C (pc := 45) (i := 8) (lv' := [some (va_rf (some b)), some (.int a1), some (.int a2), some (va_rf (some q3)), some (va_rf (some q6)), some (va_rf (some q7)), some (va_rf (some q8)), some (va_rf (some q9)), some (.int 0), none, none, none, none, none, none, none, none, none, none]) dL_law_45 rfl (lw_br (j := 7) rfl) rfl ?_
      refine v_widen (k := cells + 8) (n := slots + 130) (by omega) (by omega) ?_
      exact hk47 _ _ _ _ _ _ _ _ _ h
def bL_law_307 (k4 : hM → Int32 → Int32 → Prop) (k47 : hM → Int32 → Int32 → Prop) (b L : Nat) (xs : Nat → Int32) (M : hM) (a2 : Int32) (a3 : Nat) (a4 : Nat) (a5 : Nat) (a6 : Nat) (a7 : Nat) (a8 : Int32) (a9 : Int32) : Prop :=
  wL_isLawful M (some a3) (some a4) (some a5) (some a6) (some a7) (a9 - a9 / 100000 * 100000) (fun M30 x29 =>
  if (x29 : Int32) = 0 then (
    k47 M30 0 (a8 + 1)
  ) else (
    k47 M30 1 (a8 + 1)
  ))
set_option maxRecDepth 100000 in
set_option maxHeartbeats 4000000 in
theorem tbL_law_307 {κ : hKx} {sz b L : Nat} {xs : Nat → Int32} (F : Cw κ RL code lw_tbl (fun _ => none) sz) (hR : kR κ = room_1) (hX : va_X b L xs (ks κ) (ks κ).heap) (hb : b < sz) {cells slots : Nat} (hce : cells + 20 ≤ 600074) (hse : slots + 211 ≤ 7301549) {k4 : hM → Int32 → Int32 → Prop} {k47 : hM → Int32 → Int32 → Prop} {M : hM} {a2 : Int32} {a3 : Nat} {a4 : Nat} {a5 : Nat} {a6 : Nat} {a7 : Nat} {a8 : Int32} {a9 : Int32} (hk4 : ∀ (M : hM) (a1 : Int32) (a2 : Int32), k4 M a1 a2 → VW κ (cells) (slots) M 4 [some (va_rf (some b)), some (.int a1), some (.int a2), none, none, none, none, none, none, none, none, none, none, none, none, none, none, none, none] []) (hk47 : ∀ (M : hM) (a1 : Int32) (a8 : Int32), k47 M a1 a8 → VW κ (cells + 20) (slots + 211) M 47 [some (va_rf (some b)), some (.int a1), some (.int a2), some (va_rf (some a3)), some (va_rf (some a4)), some (va_rf (some a5)), some (va_rf (some a6)), some (va_rf (some a7)), some (.int a8), none, none, none, none, none, none, none, none, none, none] []) (h : bL_law_307 k4 k47 b L xs M a2 a3 a4 a5 a6 a7 a8 a9) : VW κ (cells + 20) (slots + 211) M 307 [some (va_rf (some b)), none, some (.int a2), some (va_rf (some a3)), some (va_rf (some a4)), some (va_rf (some a5)), some (va_rf (some a6)), some (va_rf (some a7)), some (.int a8), some (.int a9), none, none, none, none, none, none, none, none, none] [] := by
  unfold bL_law_307 at h
  have C := F.1
  refine v_aload_n C (pc := 307) (i := 3) dL_law_307 rfl ?_
  refine v_aload C (pc := 308) (i := 4) dL_law_308 rfl ?_
  refine v_aload C (pc := 310) (i := 5) dL_law_310 rfl ?_
  refine v_aload C (pc := 312) (i := 6) dL_law_312 rfl ?_
  refine v_aload C (pc := 314) (i := 7) dL_law_314 rfl ?_
  refine v_iload C (pc := 316) (i := 9) dL_law_316 rfl ?_
  refine v_ldc C (pc := 318) (v := 100000) (List.mem_of_getElem? (i := 783) (by decide +kernel)) dL_law_318 ?_
  refine v_irem C (pc := 320) dL_law_320 (by decide) ?_
  refine v_nSC F (pc := 321) [va_rf (some a3), va_rf (some a4), va_rf (some a5), va_rf (some a6), va_rf (some a7), .int (a9 - a9 / 100000 * 100000)] 6 (cL_isLawful_met (kl κ) F.2.2.2.1 (kG κ) _ h) (good_t3 gL_law_L_isLawful) rfl hdsL_isLawful rfl rfl rfl (by rw [hR]; exact ⟨Nat.le_of_ble_eq_true rfl, Nat.le_of_ble_eq_true rfl⟩) (by rw [hR]; exact ⟨by show _ ≤ 600074; omega, by show _ ≤ 7301549; omega⟩) (Nat.le_of_ble_eq_true rfl) rfl dL_law_321 (hk_i fun M30 x29 h => ?_)
  refine v_if_eq C (pc := 324) (tgt := 331) dL_law_324 (by decide) (fun c31 => ?_) (fun c31 => ?_)
  · rw [if_pos c31] at h
    refine v_iconst C (pc := 331) (v := 0) dL_law_331 (by decide) ?_
    refine v_istore_n C (pc := 332) (i := 1) (lv' := [some (va_rf (some b)), some (.int 0), some (.int a2), some (va_rf (some a3)), some (va_rf (some a4)), some (va_rf (some a5)), some (va_rf (some a6)), some (va_rf (some a7)), some (.int a8), some (.int a9), none, none, none, none, none, none, none, none, none]) dL_law_332 rfl (lw_br (j := 0) rfl) rfl ?_
    refine v_iinc C (pc := 333) (i := 8) (w := 1) (lv' := [some (va_rf (some b)), some (.int 0), some (.int a2), some (va_rf (some a3)), some (va_rf (some a4)), some (va_rf (some a5)), some (va_rf (some a6)), some (va_rf (some a7)), some (.int (a8 + 1)), some (.int a9), none, none, none, none, none, none, none, none, none]) dL_law_333 rfl (by decide) rfl ?_
    refine v_goto C (pc := 336) (tgt := 47) dL_law_336 (by decide) ?_
    refine v_mask (lv' := [some (va_rf (some b)), some (.int 0), some (.int a2), some (va_rf (some a3)), some (va_rf (some a4)), some (va_rf (some a5)), some (va_rf (some a6)), some (va_rf (some a7)), some (.int (a8 + 1)), none, none, none, none, none, none, none, none, none, none]) [true, true, true, true, true, true, true, true, true, false, false, false, false, false, false, false, false, false, false] rfl rfl ?_
    exact hk47 _ _ _ h
  · rw [if_neg c31] at h
    refine v_iconst C (pc := 327) (v := 1) dL_law_327 (by decide) ?_
    refine v_goto C (pc := 328) (tgt := 332) dL_law_328 (by decide) ?_
    refine v_istore_n C (pc := 332) (i := 1) (lv' := [some (va_rf (some b)), some (.int 1), some (.int a2), some (va_rf (some a3)), some (va_rf (some a4)), some (va_rf (some a5)), some (va_rf (some a6)), some (va_rf (some a7)), some (.int a8), some (.int a9), none, none, none, none, none, none, none, none, none]) dL_law_332 rfl (lw_br (j := 0) rfl) rfl ?_
    refine v_iinc C (pc := 333) (i := 8) (w := 1) (lv' := [some (va_rf (some b)), some (.int 1), some (.int a2), some (va_rf (some a3)), some (va_rf (some a4)), some (va_rf (some a5)), some (va_rf (some a6)), some (va_rf (some a7)), some (.int (a8 + 1)), some (.int a9), none, none, none, none, none, none, none, none, none]) dL_law_333 rfl (by decide) rfl ?_
    refine v_goto C (pc := 336) (tgt := 47) dL_law_336 (by decide) ?_
    refine v_mask (lv' := [some (va_rf (some b)), some (.int 1), some (.int a2), some (va_rf (some a3)), some (va_rf (some a4)), some (va_rf (some a5)), some (va_rf (some a6)), some (va_rf (some a7)), some (.int (a8 + 1)), none, none, none, none, none, none, none, none, none, none]) [true, true, true, true, true, true, true, true, true, false, false, false, false, false, false, false, false, false, false] rfl rfl ?_
    exact hk47 _ _ _ h
def bL_law_272 (k4 : hM → Int32 → Int32 → Prop) (k47 : hM → Int32 → Int32 → Prop) (b L : Nat) (xs : Nat → Int32) (M : hM) (a2 : Int32) (a3 : Nat) (a4 : Nat) (a5 : Nat) (a6 : Nat) (a7 : Nat) (a8 : Int32) (a9 : Int32) (a12 : Int32) (a13 : Int32) (a14 : Int32) (a15 : Int32) (a16 : Int64) : Prop :=
  if (a13 : Int32) = 0 then (
    bL_law_307 k4 k47 b L xs M a2 a3 a4 a5 a6 a7 a8 a9
  ) else (
    if (a14 : Int32) < 0 then (
      bL_law_307 k4 k47 b L xs M a2 a3 a4 a5 a6 a7 a8 a9
    ) else (
      ∃ x33, aI M 0 (some a4) 0 = some x33 ∧
      if (x33 : Int32) = a15 then (
        ∃ x35, fL_known M (some a3) (some a4) a12 a14 = some x35 ∧
        if ((lg_cmp x35 a16) : Int32) = 0 then (
          bL_law_307 k4 k47 b L xs M a2 a3 a4 a5 a6 a7 a8 a9
        ) else (
          k47 M 0 (a8 + 1)
        )
      ) else (
        bL_law_307 k4 k47 b L xs M a2 a3 a4 a5 a6 a7 a8 a9
      )
    )
  )
set_option maxRecDepth 100000 in
set_option maxHeartbeats 4000000 in
theorem tbL_law_272 {κ : hKx} {sz b L : Nat} {xs : Nat → Int32} (F : Cw κ RL code lw_tbl (fun _ => none) sz) (hR : kR κ = room_1) (hX : va_X b L xs (ks κ) (ks κ).heap) (hb : b < sz) {cells slots : Nat} (hce : cells + 20 ≤ 600074) (hse : slots + 211 ≤ 7301549) {k4 : hM → Int32 → Int32 → Prop} {k47 : hM → Int32 → Int32 → Prop} {M : hM} {a2 : Int32} {a3 : Nat} {a4 : Nat} {a5 : Nat} {a6 : Nat} {a7 : Nat} {a8 : Int32} {a9 : Int32} {a12 : Int32} {a13 : Int32} {a14 : Int32} {a15 : Int32} {a16 : Int64} (hk4 : ∀ (M : hM) (a1 : Int32) (a2 : Int32), k4 M a1 a2 → VW κ (cells) (slots) M 4 [some (va_rf (some b)), some (.int a1), some (.int a2), none, none, none, none, none, none, none, none, none, none, none, none, none, none, none, none] []) (hk47 : ∀ (M : hM) (a1 : Int32) (a8 : Int32), k47 M a1 a8 → VW κ (cells + 20) (slots + 211) M 47 [some (va_rf (some b)), some (.int a1), some (.int a2), some (va_rf (some a3)), some (va_rf (some a4)), some (va_rf (some a5)), some (va_rf (some a6)), some (va_rf (some a7)), some (.int a8), none, none, none, none, none, none, none, none, none, none] []) (h : bL_law_272 k4 k47 b L xs M a2 a3 a4 a5 a6 a7 a8 a9 a12 a13 a14 a15 a16) : VW κ (cells + 20) (slots + 211) M 272 [some (va_rf (some b)), none, some (.int a2), some (va_rf (some a3)), some (va_rf (some a4)), some (va_rf (some a5)), some (va_rf (some a6)), some (va_rf (some a7)), some (.int a8), some (.int a9), none, none, some (.int a12), some (.int a13), some (.int a14), some (.int a15), some (.long a16), none, none] [] := by
  unfold bL_law_272 at h
  have C := F.1
  refine v_iload C (pc := 272) (i := 13) dL_law_272 rfl ?_
  refine v_if_eq C (pc := 274) (tgt := 307) dL_law_274 (by decide) (fun c28 => ?_) (fun c28 => ?_)
  · rw [if_pos c28] at h
    refine v_mask (lv' := [some (va_rf (some b)), none, some (.int a2), some (va_rf (some a3)), some (va_rf (some a4)), some (va_rf (some a5)), some (va_rf (some a6)), some (va_rf (some a7)), some (.int a8), some (.int a9), none, none, none, none, none, none, none, none, none]) [true, false, true, true, true, true, true, true, true, true, false, false, false, false, false, false, false, false, false] rfl rfl ?_
    exact tbL_law_307 F hR hX hb hce hse hk4 hk47 h
  · rw [if_neg c28] at h
    refine v_iload C (pc := 277) (i := 14) dL_law_277 rfl ?_
    refine v_if_lt C (pc := 279) (tgt := 307) dL_law_279 (by decide) (fun c32 => ?_) (fun c32 => ?_)
    · rw [if_pos c32] at h
      refine v_mask (lv' := [some (va_rf (some b)), none, some (.int a2), some (va_rf (some a3)), some (va_rf (some a4)), some (va_rf (some a5)), some (va_rf (some a6)), some (va_rf (some a7)), some (.int a8), some (.int a9), none, none, none, none, none, none, none, none, none]) [true, false, true, true, true, true, true, true, true, true, false, false, false, false, false, false, false, false, false] rfl rfl ?_
      exact tbL_law_307 F hR hX hb hce hse hk4 hk47 h
    · rw [if_neg c32] at h
      refine v_aload C (pc := 282) (i := 4) dL_law_282 rfl ?_
      refine v_iconst C (pc := 284) (v := 0) dL_law_284 (by decide) ?_
      obtain ⟨x33, e33, h⟩ := h
      refine v_iald C (pc := 285) e33 dL_law_285 ?_
      refine v_iload C (pc := 286) (i := 15) dL_law_286 rfl ?_
      refine v_icmp_ne C (pc := 288) (tgt := 307) dL_law_288 (by decide) (fun c34 => ?_) (fun c34 => ?_)
      · rw [if_neg c34] at h
        refine v_mask (lv' := [some (va_rf (some b)), none, some (.int a2), some (va_rf (some a3)), some (va_rf (some a4)), some (va_rf (some a5)), some (va_rf (some a6)), some (va_rf (some a7)), some (.int a8), some (.int a9), none, none, none, none, none, none, none, none, none]) [true, false, true, true, true, true, true, true, true, true, false, false, false, false, false, false, false, false, false] rfl rfl ?_
        exact tbL_law_307 F hR hX hb hce hse hk4 hk47 h
      · rw [if_pos c34] at h
        refine v_aload_n C (pc := 291) (i := 3) dL_law_291 rfl ?_
        refine v_aload C (pc := 292) (i := 4) dL_law_292 rfl ?_
        refine v_iload C (pc := 294) (i := 12) dL_law_294 rfl ?_
        refine v_iload C (pc := 296) (i := 14) dL_law_296 rfl ?_
        obtain ⟨x35, e35, h⟩ := h
        refine v_pS C (pc := 298) [va_rf (some a3), va_rf (some a4), .int a12, .int a14] 4 (cL_known_met (kl κ) (kG κ) _ e35) (good_t3 gL_law_L_known) rfl hdsL_known rfl rfl rfl (by rw [hR]; exact ⟨Nat.le_of_ble_eq_true rfl, Nat.le_of_ble_eq_true rfl⟩) (by rw [hR]; exact ⟨by show _ ≤ 600074; omega, by show _ ≤ 7301549; omega⟩) (Nat.le_of_ble_eq_true rfl) rfl dL_law_298 ?_
        refine v_lload C (pc := 301) (i := 16) dL_law_301 rfl ?_
        refine v_lcmp C (pc := 303) dL_law_303 ?_
        refine v_if_ne C (pc := 304) (tgt := 331) dL_law_304 (by decide) (fun c36 => ?_) (fun c36 => ?_)
        · rw [if_neg c36] at h
          refine v_iconst C (pc := 331) (v := 0) dL_law_331 (by decide) ?_
          refine v_istore_n C (pc := 332) (i := 1) (lv' := [some (va_rf (some b)), some (.int 0), some (.int a2), some (va_rf (some a3)), some (va_rf (some a4)), some (va_rf (some a5)), some (va_rf (some a6)), some (va_rf (some a7)), some (.int a8), some (.int a9), none, none, some (.int a12), some (.int a13), some (.int a14), some (.int a15), some (.long a16), none, none]) dL_law_332 rfl (lw_br (j := 0) rfl) rfl ?_
          refine v_iinc C (pc := 333) (i := 8) (w := 1) (lv' := [some (va_rf (some b)), some (.int 0), some (.int a2), some (va_rf (some a3)), some (va_rf (some a4)), some (va_rf (some a5)), some (va_rf (some a6)), some (va_rf (some a7)), some (.int (a8 + 1)), some (.int a9), none, none, some (.int a12), some (.int a13), some (.int a14), some (.int a15), some (.long a16), none, none]) dL_law_333 rfl (by decide) rfl ?_
          refine v_goto C (pc := 336) (tgt := 47) dL_law_336 (by decide) ?_
          refine v_mask (lv' := [some (va_rf (some b)), some (.int 0), some (.int a2), some (va_rf (some a3)), some (va_rf (some a4)), some (va_rf (some a5)), some (va_rf (some a6)), some (va_rf (some a7)), some (.int (a8 + 1)), none, none, none, none, none, none, none, none, none, none]) [true, true, true, true, true, true, true, true, true, false, false, false, false, false, false, false, false, false, false] rfl rfl ?_
          exact hk47 _ _ _ h
        · rw [if_pos c36] at h
          refine v_mask (lv' := [some (va_rf (some b)), none, some (.int a2), some (va_rf (some a3)), some (va_rf (some a4)), some (va_rf (some a5)), some (va_rf (some a6)), some (va_rf (some a7)), some (.int a8), some (.int a9), none, none, none, none, none, none, none, none, none]) [true, false, true, true, true, true, true, true, true, true, false, false, false, false, false, false, false, false, false] rfl rfl ?_
          exact tbL_law_307 F hR hX hb hce hse hk4 hk47 h
def bL_law_229 (k4 : hM → Int32 → Int32 → Prop) (k47 : hM → Int32 → Int32 → Prop) (b L : Nat) (xs : Nat → Int32) (M : hM) (a2 : Int32) (a3 : Nat) (a4 : Nat) (a5 : Nat) (a6 : Nat) (a7 : Nat) (a8 : Int32) (a9 : Int32) (a10 : Int64) (a12 : Int32) (a13 : Int32) (a14 : Int32) (a15 : Int32) (s0 : Int64) : Prop :=
  wL_does M (some a3) (some a4) (some a5) a9 (fun M24 x23 =>
  if (x23 : Int32) = (-9) then (
    k47 M24 0 (a8 + 1)
  ) else (
    ∃ x26, fL_isRefused x23 = some x26 ∧
    if (x26 : Int32) = 0 then (
      bL_law_272 k4 k47 b L xs M24 a2 a3 a4 a5 a6 a7 a8 a9 a12 a13 a14 a15 s0
    ) else (
      ∃ x37, fL_mix M24 (some a3) (some a4) (some a5) = some x37 ∧
      if ((lg_cmp x37 a10) : Int32) = 0 then (
        bL_law_272 k4 k47 b L xs M24 a2 a3 a4 a5 a6 a7 a8 a9 a12 a13 a14 a15 s0
      ) else (
        k47 M24 0 (a8 + 1)
      )
    )
  ))
set_option maxRecDepth 100000 in
set_option maxHeartbeats 4000000 in
theorem tbL_law_229 {κ : hKx} {sz b L : Nat} {xs : Nat → Int32} (F : Cw κ RL code lw_tbl (fun _ => none) sz) (hR : kR κ = room_1) (hX : va_X b L xs (ks κ) (ks κ).heap) (hb : b < sz) {cells slots : Nat} (hce : cells + 20 ≤ 600074) (hse : slots + 211 ≤ 7301549) {k4 : hM → Int32 → Int32 → Prop} {k47 : hM → Int32 → Int32 → Prop} {M : hM} {a2 : Int32} {a3 : Nat} {a4 : Nat} {a5 : Nat} {a6 : Nat} {a7 : Nat} {a8 : Int32} {a9 : Int32} {a10 : Int64} {a12 : Int32} {a13 : Int32} {a14 : Int32} {a15 : Int32} {s0 : Int64} (hk4 : ∀ (M : hM) (a1 : Int32) (a2 : Int32), k4 M a1 a2 → VW κ (cells) (slots) M 4 [some (va_rf (some b)), some (.int a1), some (.int a2), none, none, none, none, none, none, none, none, none, none, none, none, none, none, none, none] []) (hk47 : ∀ (M : hM) (a1 : Int32) (a8 : Int32), k47 M a1 a8 → VW κ (cells + 20) (slots + 211) M 47 [some (va_rf (some b)), some (.int a1), some (.int a2), some (va_rf (some a3)), some (va_rf (some a4)), some (va_rf (some a5)), some (va_rf (some a6)), some (va_rf (some a7)), some (.int a8), none, none, none, none, none, none, none, none, none, none] []) (h : bL_law_229 k4 k47 b L xs M a2 a3 a4 a5 a6 a7 a8 a9 a10 a12 a13 a14 a15 s0) : VW κ (cells) (slots) M 229 [some (va_rf (some b)), none, some (.int a2), some (va_rf (some a3)), some (va_rf (some a4)), some (va_rf (some a5)), some (va_rf (some a6)), some (va_rf (some a7)), some (.int a8), some (.int a9), some (.long a10), none, some (.int a12), some (.int a13), some (.int a14), some (.int a15), none, none, none] [.long s0] := by
  unfold bL_law_229 at h
  have C := F.1
  refine v_lstore C (pc := 229) (i := 16) (lv' := [some (va_rf (some b)), none, some (.int a2), some (va_rf (some a3)), some (va_rf (some a4)), some (va_rf (some a5)), some (va_rf (some a6)), some (va_rf (some a7)), some (.int a8), some (.int a9), some (.long a10), none, some (.int a12), some (.int a13), some (.int a14), some (.int a15), some (.long s0), none, none]) dL_law_229 rfl (lw_bi (j := 15) rfl) rfl ?_
  refine v_aload_n C (pc := 231) (i := 3) dL_law_231 rfl ?_
  refine v_aload C (pc := 232) (i := 4) dL_law_232 rfl ?_
  refine v_aload C (pc := 234) (i := 5) dL_law_234 rfl ?_
  refine v_iload C (pc := 236) (i := 9) dL_law_236 rfl ?_
  refine v_nSC F (pc := 238) [va_rf (some a3), va_rf (some a4), va_rf (some a5), .int a9] 4 (cL_does_met (kl κ) F.2.2.2.1 (kG κ) _ h) (good_t3 gL_law_L_does) rfl hdsL_does rfl rfl rfl (by rw [hR]; exact ⟨Nat.le_of_ble_eq_true rfl, Nat.le_of_ble_eq_true rfl⟩) (by rw [hR]; exact ⟨by show _ ≤ 600074; omega, by show _ ≤ 7301549; omega⟩) (Nat.le_of_ble_eq_true rfl) rfl dL_law_238 (hk_i fun M24 x23 h => ?_)
  refine v_istore C (pc := 241) (i := 18) (lv' := [some (va_rf (some b)), none, some (.int a2), some (va_rf (some a3)), some (va_rf (some a4)), some (va_rf (some a5)), some (va_rf (some a6)), some (va_rf (some a7)), some (.int a8), some (.int a9), some (.long a10), none, some (.int a12), some (.int a13), some (.int a14), some (.int a15), some (.long s0), none, some (.int x23)]) dL_law_241 rfl (lw_bn (j := 17) rfl) rfl ?_
  refine v_iload C (pc := 243) (i := 18) dL_law_243 rfl ?_
  refine v_bipush C (pc := 245) (v := (-9)) dL_law_245 (by decide) ?_
  refine v_icmp_eq C (pc := 247) (tgt := 331) dL_law_247 (by decide) (fun c25 => ?_) (fun c25 => ?_)
  · rw [if_pos c25] at h
    refine v_iconst C (pc := 331) (v := 0) dL_law_331 (by decide) ?_
    refine v_istore_n C (pc := 332) (i := 1) (lv' := [some (va_rf (some b)), some (.int 0), some (.int a2), some (va_rf (some a3)), some (va_rf (some a4)), some (va_rf (some a5)), some (va_rf (some a6)), some (va_rf (some a7)), some (.int a8), some (.int a9), some (.long a10), none, some (.int a12), some (.int a13), some (.int a14), some (.int a15), some (.long s0), none, some (.int x23)]) dL_law_332 rfl (lw_br (j := 0) rfl) rfl ?_
    refine v_iinc C (pc := 333) (i := 8) (w := 1) (lv' := [some (va_rf (some b)), some (.int 0), some (.int a2), some (va_rf (some a3)), some (va_rf (some a4)), some (va_rf (some a5)), some (va_rf (some a6)), some (va_rf (some a7)), some (.int (a8 + 1)), some (.int a9), some (.long a10), none, some (.int a12), some (.int a13), some (.int a14), some (.int a15), some (.long s0), none, some (.int x23)]) dL_law_333 rfl (by decide) rfl ?_
    refine v_goto C (pc := 336) (tgt := 47) dL_law_336 (by decide) ?_
    refine v_mask (lv' := [some (va_rf (some b)), some (.int 0), some (.int a2), some (va_rf (some a3)), some (va_rf (some a4)), some (va_rf (some a5)), some (va_rf (some a6)), some (va_rf (some a7)), some (.int (a8 + 1)), none, none, none, none, none, none, none, none, none, none]) [true, true, true, true, true, true, true, true, true, false, false, false, false, false, false, false, false, false, false] rfl rfl ?_
    exact hk47 _ _ _ h
  · rw [if_neg c25] at h
    refine v_iload C (pc := 250) (i := 18) dL_law_250 rfl ?_
    obtain ⟨x26, e26, h⟩ := h
    refine v_pS C (pc := 252) [.int x23] 1 (cL_isRefused_met (kl κ) (kG κ) _ e26) (good_t3 gL_law_L_isRefused) rfl hdsL_isRefused rfl rfl rfl (by rw [hR]; exact ⟨Nat.le_of_ble_eq_true rfl, Nat.le_of_ble_eq_true rfl⟩) (by rw [hR]; exact ⟨by show _ ≤ 600074; omega, by show _ ≤ 7301549; omega⟩) (Nat.le_of_ble_eq_true rfl) rfl dL_law_252 ?_
    refine v_if_eq C (pc := 255) (tgt := 272) dL_law_255 (by decide) (fun c27 => ?_) (fun c27 => ?_)
    · rw [if_pos c27] at h
      refine v_mask (lv' := [some (va_rf (some b)), none, some (.int a2), some (va_rf (some a3)), some (va_rf (some a4)), some (va_rf (some a5)), some (va_rf (some a6)), some (va_rf (some a7)), some (.int a8), some (.int a9), none, none, some (.int a12), some (.int a13), some (.int a14), some (.int a15), some (.long s0), none, none]) [true, false, true, true, true, true, true, true, true, true, false, false, true, true, true, true, true, false, false] rfl rfl ?_
      exact tbL_law_272 F hR hX hb hce hse hk4 hk47 h
    · rw [if_neg c27] at h
      refine v_aload_n C (pc := 258) (i := 3) dL_law_258 rfl ?_
      refine v_aload C (pc := 259) (i := 4) dL_law_259 rfl ?_
      refine v_aload C (pc := 261) (i := 5) dL_law_261 rfl ?_
      obtain ⟨x37, e37, h⟩ := h
      refine v_pS C (pc := 263) [va_rf (some a3), va_rf (some a4), va_rf (some a5)] 3 (cL_mix_met (kl κ) (kG κ) _ e37) (good_t3 gL_law_L_mix) rfl hdsL_mix rfl rfl rfl (by rw [hR]; exact ⟨Nat.le_of_ble_eq_true rfl, Nat.le_of_ble_eq_true rfl⟩) (by rw [hR]; exact ⟨by show _ ≤ 600074; omega, by show _ ≤ 7301549; omega⟩) (Nat.le_of_ble_eq_true rfl) rfl dL_law_263 ?_
      refine v_lload C (pc := 266) (i := 10) dL_law_266 rfl ?_
      refine v_lcmp C (pc := 268) dL_law_268 ?_
      refine v_if_ne C (pc := 269) (tgt := 331) dL_law_269 (by decide) (fun c38 => ?_) (fun c38 => ?_)
      · rw [if_neg c38] at h
        refine v_iconst C (pc := 331) (v := 0) dL_law_331 (by decide) ?_
        refine v_istore_n C (pc := 332) (i := 1) (lv' := [some (va_rf (some b)), some (.int 0), some (.int a2), some (va_rf (some a3)), some (va_rf (some a4)), some (va_rf (some a5)), some (va_rf (some a6)), some (va_rf (some a7)), some (.int a8), some (.int a9), some (.long a10), none, some (.int a12), some (.int a13), some (.int a14), some (.int a15), some (.long s0), none, some (.int x23)]) dL_law_332 rfl (lw_br (j := 0) rfl) rfl ?_
        refine v_iinc C (pc := 333) (i := 8) (w := 1) (lv' := [some (va_rf (some b)), some (.int 0), some (.int a2), some (va_rf (some a3)), some (va_rf (some a4)), some (va_rf (some a5)), some (va_rf (some a6)), some (va_rf (some a7)), some (.int (a8 + 1)), some (.int a9), some (.long a10), none, some (.int a12), some (.int a13), some (.int a14), some (.int a15), some (.long s0), none, some (.int x23)]) dL_law_333 rfl (by decide) rfl ?_
        refine v_goto C (pc := 336) (tgt := 47) dL_law_336 (by decide) ?_
        refine v_mask (lv' := [some (va_rf (some b)), some (.int 0), some (.int a2), some (va_rf (some a3)), some (va_rf (some a4)), some (va_rf (some a5)), some (va_rf (some a6)), some (va_rf (some a7)), some (.int (a8 + 1)), none, none, none, none, none, none, none, none, none, none]) [true, true, true, true, true, true, true, true, true, false, false, false, false, false, false, false, false, false, false] rfl rfl ?_
        exact hk47 _ _ _ h
      · rw [if_pos c38] at h
        refine v_mask (lv' := [some (va_rf (some b)), none, some (.int a2), some (va_rf (some a3)), some (va_rf (some a4)), some (va_rf (some a5)), some (va_rf (some a6)), some (va_rf (some a7)), some (.int a8), some (.int a9), none, none, some (.int a12), some (.int a13), some (.int a14), some (.int a15), some (.long s0), none, none]) [true, false, true, true, true, true, true, true, true, true, false, false, true, true, true, true, true, false, false] rfl rfl ?_
        exact tbL_law_272 F hR hX hb hce hse hk4 hk47 h
def bL_law_228 (k4 : hM → Int32 → Int32 → Prop) (k47 : hM → Int32 → Int32 → Prop) (b L : Nat) (xs : Nat → Int32) (M : hM) (a2 : Int32) (a3 : Nat) (a4 : Nat) (a5 : Nat) (a6 : Nat) (a7 : Nat) (a8 : Int32) (a9 : Int32) (a10 : Int64) (a12 : Int32) (a13 : Int32) (a14 : Int32) (a15 : Int32) : Prop :=
  bL_law_229 k4 k47 b L xs M a2 a3 a4 a5 a6 a7 a8 a9 a10 a12 a13 a14 a15 0
set_option maxRecDepth 100000 in
set_option maxHeartbeats 4000000 in
theorem tbL_law_228 {κ : hKx} {sz b L : Nat} {xs : Nat → Int32} (F : Cw κ RL code lw_tbl (fun _ => none) sz) (hR : kR κ = room_1) (hX : va_X b L xs (ks κ) (ks κ).heap) (hb : b < sz) {cells slots : Nat} (hce : cells + 20 ≤ 600074) (hse : slots + 211 ≤ 7301549) {k4 : hM → Int32 → Int32 → Prop} {k47 : hM → Int32 → Int32 → Prop} {M : hM} {a2 : Int32} {a3 : Nat} {a4 : Nat} {a5 : Nat} {a6 : Nat} {a7 : Nat} {a8 : Int32} {a9 : Int32} {a10 : Int64} {a12 : Int32} {a13 : Int32} {a14 : Int32} {a15 : Int32} (hk4 : ∀ (M : hM) (a1 : Int32) (a2 : Int32), k4 M a1 a2 → VW κ (cells) (slots) M 4 [some (va_rf (some b)), some (.int a1), some (.int a2), none, none, none, none, none, none, none, none, none, none, none, none, none, none, none, none] []) (hk47 : ∀ (M : hM) (a1 : Int32) (a8 : Int32), k47 M a1 a8 → VW κ (cells + 20) (slots + 211) M 47 [some (va_rf (some b)), some (.int a1), some (.int a2), some (va_rf (some a3)), some (va_rf (some a4)), some (va_rf (some a5)), some (va_rf (some a6)), some (va_rf (some a7)), some (.int a8), none, none, none, none, none, none, none, none, none, none] []) (h : bL_law_228 k4 k47 b L xs M a2 a3 a4 a5 a6 a7 a8 a9 a10 a12 a13 a14 a15) : VW κ (cells) (slots) M 228 [some (va_rf (some b)), none, some (.int a2), some (va_rf (some a3)), some (va_rf (some a4)), some (va_rf (some a5)), some (va_rf (some a6)), some (va_rf (some a7)), some (.int a8), some (.int a9), some (.long a10), none, some (.int a12), some (.int a13), some (.int a14), some (.int a15), none, none, none] [] := by
  unfold bL_law_228 at h
  have C := F.1
  refine v_lconst C (pc := 228) (v := 0) dL_law_228 (by decide) ?_
  exact tbL_law_229 F hR hX hb hce hse hk4 hk47 h
def bL_law_189 (k4 : hM → Int32 → Int32 → Prop) (k47 : hM → Int32 → Int32 → Prop) (b L : Nat) (xs : Nat → Int32) (M : hM) (a2 : Int32) (a3 : Nat) (a4 : Nat) (a5 : Nat) (a6 : Nat) (a7 : Nat) (a8 : Int32) (a9 : Int32) (a10 : Int64) (a12 : Int32) (s0 : Int32) : Prop :=
  ∃ y20, hC M 4 (some a3) = some y20 ∧
  ∃ x19, fX4_day M a3 = some x19 ∧
  ∃ x21, aI M 0 (some a4) 0 = some x21 ∧
  if (s0 : Int32) = 0 then (
    bL_law_228 k4 k47 b L xs M a2 a3 a4 a5 a6 a7 a8 a9 a10 a12 s0 (x19 - 1) x21
  ) else (
    if ((x19 - 1) : Int32) < 0 then (
      bL_law_228 k4 k47 b L xs M a2 a3 a4 a5 a6 a7 a8 a9 a10 a12 s0 (x19 - 1) x21
    ) else (
      ∃ x40, fL_known M (some a3) (some a4) a12 (x19 - 1) = some x40 ∧
      bL_law_229 k4 k47 b L xs M a2 a3 a4 a5 a6 a7 a8 a9 a10 a12 s0 (x19 - 1) x21 x40
    )
  )
set_option maxRecDepth 100000 in
set_option maxHeartbeats 4000000 in
theorem tbL_law_189 {κ : hKx} {sz b L : Nat} {xs : Nat → Int32} (F : Cw κ RL code lw_tbl (fun _ => none) sz) (hR : kR κ = room_1) (hX : va_X b L xs (ks κ) (ks κ).heap) (hb : b < sz) {cells slots : Nat} (hce : cells + 20 ≤ 600074) (hse : slots + 211 ≤ 7301549) {k4 : hM → Int32 → Int32 → Prop} {k47 : hM → Int32 → Int32 → Prop} {M : hM} {a2 : Int32} {a3 : Nat} {a4 : Nat} {a5 : Nat} {a6 : Nat} {a7 : Nat} {a8 : Int32} {a9 : Int32} {a10 : Int64} {a12 : Int32} {s0 : Int32} (hk4 : ∀ (M : hM) (a1 : Int32) (a2 : Int32), k4 M a1 a2 → VW κ (cells) (slots) M 4 [some (va_rf (some b)), some (.int a1), some (.int a2), none, none, none, none, none, none, none, none, none, none, none, none, none, none, none, none] []) (hk47 : ∀ (M : hM) (a1 : Int32) (a8 : Int32), k47 M a1 a8 → VW κ (cells + 20) (slots + 211) M 47 [some (va_rf (some b)), some (.int a1), some (.int a2), some (va_rf (some a3)), some (va_rf (some a4)), some (va_rf (some a5)), some (va_rf (some a6)), some (va_rf (some a7)), some (.int a8), none, none, none, none, none, none, none, none, none, none] []) (h : bL_law_189 k4 k47 b L xs M a2 a3 a4 a5 a6 a7 a8 a9 a10 a12 s0) : VW κ (cells) (slots) M 189 [some (va_rf (some b)), none, some (.int a2), some (va_rf (some a3)), some (va_rf (some a4)), some (va_rf (some a5)), some (va_rf (some a6)), some (va_rf (some a7)), some (.int a8), some (.int a9), some (.long a10), none, some (.int a12), none, none, none, none, none, none] [.int s0] := by
  unfold bL_law_189 at h
  have C := F.1
  refine v_istore C (pc := 189) (i := 13) (lv' := [some (va_rf (some b)), none, some (.int a2), some (va_rf (some a3)), some (va_rf (some a4)), some (va_rf (some a5)), some (va_rf (some a6)), some (va_rf (some a7)), some (.int a8), some (.int a9), some (.long a10), none, some (.int a12), some (.int s0), none, none, none, none, none]) dL_law_189 rfl (lw_bi (j := 12) rfl) rfl ?_
  refine v_aload_n C (pc := 191) (i := 3) dL_law_191 rfl ?_
  obtain ⟨y20, hy20, h⟩ := h
  obtain ⟨fsy20, hfy20⟩ := hC_some hy20
  obtain ⟨x19, e19, h⟩ := h
  refine v_pV C (pc := 192) (ci := 4) [] 0 (cX4_day_met (kl κ) (kG κ) _ e19) hfy20 rfl (good_t gL_law_X4_day) rfl hdX4_day rfl rfl rfl (by rw [hR]; exact ⟨Nat.le_of_ble_eq_true rfl, Nat.le_of_ble_eq_true rfl⟩) (by rw [hR]; exact ⟨by show _ ≤ 600074; omega, by show _ ≤ 7301549; omega⟩) (Nat.le_of_ble_eq_true rfl) rfl dL_law_192 ?_
  refine v_iconst C (pc := 195) (v := 1) dL_law_195 (by decide) ?_
  refine v_isub C (pc := 196) dL_law_196 ?_
  refine v_istore C (pc := 197) (i := 14) (lv' := [some (va_rf (some b)), none, some (.int a2), some (va_rf (some a3)), some (va_rf (some a4)), some (va_rf (some a5)), some (va_rf (some a6)), some (va_rf (some a7)), some (.int a8), some (.int a9), some (.long a10), none, some (.int a12), some (.int s0), some (.int (x19 - 1)), none, none, none, none]) dL_law_197 rfl (lw_bi (j := 13) rfl) rfl ?_
  refine v_aload C (pc := 199) (i := 4) dL_law_199 rfl ?_
  refine v_iconst C (pc := 201) (v := 0) dL_law_201 (by decide) ?_
  obtain ⟨x21, e21, h⟩ := h
  refine v_iald C (pc := 202) e21 dL_law_202 ?_
  refine v_istore C (pc := 203) (i := 15) (lv' := [some (va_rf (some b)), none, some (.int a2), some (va_rf (some a3)), some (va_rf (some a4)), some (va_rf (some a5)), some (va_rf (some a6)), some (va_rf (some a7)), some (.int a8), some (.int a9), some (.long a10), none, some (.int a12), some (.int s0), some (.int (x19 - 1)), some (.int x21), none, none, none]) dL_law_203 rfl (lw_bi (j := 14) rfl) rfl ?_
  refine v_iload C (pc := 205) (i := 13) dL_law_205 rfl ?_
  refine v_if_eq C (pc := 207) (tgt := 228) dL_law_207 (by decide) (fun c22 => ?_) (fun c22 => ?_)
  · rw [if_pos c22] at h
    exact tbL_law_228 F hR hX hb hce hse hk4 hk47 h
  · rw [if_neg c22] at h
    refine v_iload C (pc := 210) (i := 14) dL_law_210 rfl ?_
    refine v_if_lt C (pc := 212) (tgt := 228) dL_law_212 (by decide) (fun c39 => ?_) (fun c39 => ?_)
    · rw [if_pos c39] at h
      exact tbL_law_228 F hR hX hb hce hse hk4 hk47 h
    · rw [if_neg c39] at h
      refine v_aload_n C (pc := 215) (i := 3) dL_law_215 rfl ?_
      refine v_aload C (pc := 216) (i := 4) dL_law_216 rfl ?_
      refine v_iload C (pc := 218) (i := 12) dL_law_218 rfl ?_
      refine v_iload C (pc := 220) (i := 14) dL_law_220 rfl ?_
      obtain ⟨x40, e40, h⟩ := h
      refine v_pS C (pc := 222) [va_rf (some a3), va_rf (some a4), .int a12, .int (x19 - 1)] 4 (cL_known_met (kl κ) (kG κ) _ e40) (good_t3 gL_law_L_known) rfl hdsL_known rfl rfl rfl (by rw [hR]; exact ⟨Nat.le_of_ble_eq_true rfl, Nat.le_of_ble_eq_true rfl⟩) (by rw [hR]; exact ⟨by show _ ≤ 600074; omega, by show _ ≤ 7301549; omega⟩) (Nat.le_of_ble_eq_true rfl) rfl dL_law_222 ?_
      refine v_goto C (pc := 225) (tgt := 229) dL_law_225 (by decide) ?_
      exact tbL_law_229 F hR hX hb hce hse hk4 hk47 h
def bL_law_188 (k4 : hM → Int32 → Int32 → Prop) (k47 : hM → Int32 → Int32 → Prop) (b L : Nat) (xs : Nat → Int32) (M : hM) (a2 : Int32) (a3 : Nat) (a4 : Nat) (a5 : Nat) (a6 : Nat) (a7 : Nat) (a8 : Int32) (a9 : Int32) (a10 : Int64) (a12 : Int32) : Prop :=
  bL_law_189 k4 k47 b L xs M a2 a3 a4 a5 a6 a7 a8 a9 a10 a12 0
set_option maxRecDepth 100000 in
set_option maxHeartbeats 4000000 in
theorem tbL_law_188 {κ : hKx} {sz b L : Nat} {xs : Nat → Int32} (F : Cw κ RL code lw_tbl (fun _ => none) sz) (hR : kR κ = room_1) (hX : va_X b L xs (ks κ) (ks κ).heap) (hb : b < sz) {cells slots : Nat} (hce : cells + 20 ≤ 600074) (hse : slots + 211 ≤ 7301549) {k4 : hM → Int32 → Int32 → Prop} {k47 : hM → Int32 → Int32 → Prop} {M : hM} {a2 : Int32} {a3 : Nat} {a4 : Nat} {a5 : Nat} {a6 : Nat} {a7 : Nat} {a8 : Int32} {a9 : Int32} {a10 : Int64} {a12 : Int32} (hk4 : ∀ (M : hM) (a1 : Int32) (a2 : Int32), k4 M a1 a2 → VW κ (cells) (slots) M 4 [some (va_rf (some b)), some (.int a1), some (.int a2), none, none, none, none, none, none, none, none, none, none, none, none, none, none, none, none] []) (hk47 : ∀ (M : hM) (a1 : Int32) (a8 : Int32), k47 M a1 a8 → VW κ (cells + 20) (slots + 211) M 47 [some (va_rf (some b)), some (.int a1), some (.int a2), some (va_rf (some a3)), some (va_rf (some a4)), some (va_rf (some a5)), some (va_rf (some a6)), some (va_rf (some a7)), some (.int a8), none, none, none, none, none, none, none, none, none, none] []) (h : bL_law_188 k4 k47 b L xs M a2 a3 a4 a5 a6 a7 a8 a9 a10 a12) : VW κ (cells) (slots) M 188 [some (va_rf (some b)), none, some (.int a2), some (va_rf (some a3)), some (va_rf (some a4)), some (va_rf (some a5)), some (va_rf (some a6)), some (va_rf (some a7)), some (.int a8), some (.int a9), some (.long a10), none, some (.int a12), none, none, none, none, none, none] [] := by
  unfold bL_law_188 at h
  have C := F.1
  refine v_iconst C (pc := 188) (v := 0) dL_law_188 (by decide) ?_
  exact tbL_law_189 F hR hX hb hce hse hk4 hk47 h
def bL_law_133 (k4 : hM → Int32 → Int32 → Prop) (k47 : hM → Int32 → Int32 → Prop) (b L : Nat) (xs : Nat → Int32) (M : hM) (a2 : Int32) (a3 : Nat) (a4 : Nat) (a5 : Nat) (a6 : Nat) (a7 : Nat) (a8 : Int32) (s0 : Int32) : Prop :=
  ∃ x16, fL_mix M (some a3) (some a4) (some a5) = some x16 ∧
  ∃ x17, aI M 0 (some a4) 1 = some x17 ∧
  if (x17 : Int32) ≤ ((s0 - s0 / 24 * 24) / 8) then (
    bL_law_188 k4 k47 b L xs M a2 a3 a4 a5 a6 a7 a8 s0 x16 (s0 - s0 / 24 * 24)
  ) else (
    ∃ x41, aI M 0 (some a5) ((s0 - s0 / 24 * 24) / 8) = some x41 ∧
    if (((x41 >>> (((s0 - s0 / 24 * 24) - (s0 - s0 / 24 * 24) / 8 * 8) &&& 31)) &&& 1) : Int32) = 1 then (
      bL_law_189 k4 k47 b L xs M a2 a3 a4 a5 a6 a7 a8 s0 x16 (s0 - s0 / 24 * 24) 1
    ) else (
      bL_law_188 k4 k47 b L xs M a2 a3 a4 a5 a6 a7 a8 s0 x16 (s0 - s0 / 24 * 24)
    )
  )
set_option maxRecDepth 100000 in
set_option maxHeartbeats 4000000 in
theorem tbL_law_133 {κ : hKx} {sz b L : Nat} {xs : Nat → Int32} (F : Cw κ RL code lw_tbl (fun _ => none) sz) (hR : kR κ = room_1) (hX : va_X b L xs (ks κ) (ks κ).heap) (hb : b < sz) {cells slots : Nat} (hce : cells + 20 ≤ 600074) (hse : slots + 211 ≤ 7301549) {k4 : hM → Int32 → Int32 → Prop} {k47 : hM → Int32 → Int32 → Prop} {M : hM} {a2 : Int32} {a3 : Nat} {a4 : Nat} {a5 : Nat} {a6 : Nat} {a7 : Nat} {a8 : Int32} {s0 : Int32} (hk4 : ∀ (M : hM) (a1 : Int32) (a2 : Int32), k4 M a1 a2 → VW κ (cells) (slots) M 4 [some (va_rf (some b)), some (.int a1), some (.int a2), none, none, none, none, none, none, none, none, none, none, none, none, none, none, none, none] []) (hk47 : ∀ (M : hM) (a1 : Int32) (a8 : Int32), k47 M a1 a8 → VW κ (cells + 20) (slots + 211) M 47 [some (va_rf (some b)), some (.int a1), some (.int a2), some (va_rf (some a3)), some (va_rf (some a4)), some (va_rf (some a5)), some (va_rf (some a6)), some (va_rf (some a7)), some (.int a8), none, none, none, none, none, none, none, none, none, none] []) (h : bL_law_133 k4 k47 b L xs M a2 a3 a4 a5 a6 a7 a8 s0) : VW κ (cells) (slots) M 133 [some (va_rf (some b)), none, some (.int a2), some (va_rf (some a3)), some (va_rf (some a4)), some (va_rf (some a5)), some (va_rf (some a6)), some (va_rf (some a7)), some (.int a8), none, none, none, none, none, none, none, none, none, none] [.int s0] := by
  unfold bL_law_133 at h
  have C := F.1
  refine v_istore C (pc := 133) (i := 9) (lv' := [some (va_rf (some b)), none, some (.int a2), some (va_rf (some a3)), some (va_rf (some a4)), some (va_rf (some a5)), some (va_rf (some a6)), some (va_rf (some a7)), some (.int a8), some (.int s0), none, none, none, none, none, none, none, none, none]) dL_law_133 rfl (lw_bi (j := 8) rfl) rfl ?_
  refine v_aload_n C (pc := 135) (i := 3) dL_law_135 rfl ?_
  refine v_aload C (pc := 136) (i := 4) dL_law_136 rfl ?_
  refine v_aload C (pc := 138) (i := 5) dL_law_138 rfl ?_
  obtain ⟨x16, e16, h⟩ := h
  refine v_pS C (pc := 140) [va_rf (some a3), va_rf (some a4), va_rf (some a5)] 3 (cL_mix_met (kl κ) (kG κ) _ e16) (good_t3 gL_law_L_mix) rfl hdsL_mix rfl rfl rfl (by rw [hR]; exact ⟨Nat.le_of_ble_eq_true rfl, Nat.le_of_ble_eq_true rfl⟩) (by rw [hR]; exact ⟨by show _ ≤ 600074; omega, by show _ ≤ 7301549; omega⟩) (Nat.le_of_ble_eq_true rfl) rfl dL_law_140 ?_
  refine v_lstore C (pc := 143) (i := 10) (lv' := [some (va_rf (some b)), none, some (.int a2), some (va_rf (some a3)), some (va_rf (some a4)), some (va_rf (some a5)), some (va_rf (some a6)), some (va_rf (some a7)), some (.int a8), some (.int s0), some (.long x16), none, none, none, none, none, none, none, none]) dL_law_143 rfl (lw_bi (j := 9) rfl) rfl ?_
  refine v_iload C (pc := 145) (i := 9) dL_law_145 rfl ?_
  refine v_bipush C (pc := 147) (v := 24) dL_law_147 (by decide) ?_
  refine v_irem C (pc := 149) dL_law_149 (by decide) ?_
  refine v_istore C (pc := 150) (i := 12) (lv' := [some (va_rf (some b)), none, some (.int a2), some (va_rf (some a3)), some (va_rf (some a4)), some (va_rf (some a5)), some (va_rf (some a6)), some (va_rf (some a7)), some (.int a8), some (.int s0), some (.long x16), none, some (.int (s0 - s0 / 24 * 24)), none, none, none, none, none, none]) dL_law_150 rfl (lw_bn (j := 11) rfl) rfl ?_
  refine v_iload C (pc := 152) (i := 12) dL_law_152 rfl ?_
  refine v_bipush C (pc := 154) (v := 8) dL_law_154 (by decide) ?_
  refine v_idiv C (pc := 156) dL_law_156 (by decide) ?_
  refine v_aload C (pc := 157) (i := 4) dL_law_157 rfl ?_
  refine v_iconst C (pc := 159) (v := 1) dL_law_159 (by decide) ?_
  obtain ⟨x17, e17, h⟩ := h
  refine v_iald C (pc := 160) e17 dL_law_160 ?_
  refine v_icmp_ge C (pc := 161) (tgt := 188) dL_law_161 (by decide) (fun c18 => ?_) (fun c18 => ?_)
  · rw [if_pos c18] at h
    exact tbL_law_188 F hR hX hb hce hse hk4 hk47 h
  · rw [if_neg c18] at h
    refine v_aload C (pc := 164) (i := 5) dL_law_164 rfl ?_
    refine v_iload C (pc := 166) (i := 12) dL_law_166 rfl ?_
    refine v_bipush C (pc := 168) (v := 8) dL_law_168 (by decide) ?_
    refine v_idiv C (pc := 170) dL_law_170 (by decide) ?_
    obtain ⟨x41, e41, h⟩ := h
    refine v_iald C (pc := 171) e41 dL_law_171 ?_
    refine v_iload C (pc := 172) (i := 12) dL_law_172 rfl ?_
    refine v_bipush C (pc := 174) (v := 8) dL_law_174 (by decide) ?_
    refine v_irem C (pc := 176) dL_law_176 (by decide) ?_
    refine v_ishr C (pc := 177) dL_law_177 ?_
    refine v_iconst C (pc := 178) (v := 1) dL_law_178 (by decide) ?_
    refine v_iand C (pc := 179) dL_law_179 ?_
    refine v_iconst C (pc := 180) (v := 1) dL_law_180 (by decide) ?_
    refine v_icmp_ne C (pc := 181) (tgt := 188) dL_law_181 (by decide) (fun c42 => ?_) (fun c42 => ?_)
    · rw [if_neg c42] at h
      exact tbL_law_188 F hR hX hb hce hse hk4 hk47 h
    · rw [if_pos c42] at h
      refine v_iconst C (pc := 184) (v := 1) dL_law_184 (by decide) ?_
      refine v_goto C (pc := 185) (tgt := 189) dL_law_185 (by decide) ?_
      exact tbL_law_189 F hR hX hb hce hse hk4 hk47 h
def lw_c (k4 : hM → Int32 → Int32 → Prop) (k47 : hM → Int32 → Int32 → Prop) (b L : Nat) (xs : Nat → Int32) (M : hM) (a1 a2 : Int32) (a3 a4 a5 a6 a7 : Nat) (a8 : Int32) : Prop :=
  if (56 : Int32) ≤ a8 then (
    k4 M a1 (a2 + 1)
  ) else (
    if (a1 : Int32) = 0 then (
      k4 M a1 (a2 + 1)
    ) else (
      ∃ x12, fL_drawn L xs ((56 * a2) + a8) = some x12 ∧
      if (4 : Int32) ≤ a8 then (
        if (6 : Int32) ≤ a8 then (
          if (18 : Int32) ≤ a8 then (
            bL_law_133 k4 k47 b L xs M a2 a3 a4 a5 a6 a7 a8 (x12 - x12 / 2000000000 * 2000000000)
          ) else (
            bL_law_133 k4 k47 b L xs M a2 a3 a4 a5 a6 a7 a8 ((26 * ((x12 - x12 / 2000000000 * 2000000000) / 26)) + 2)
          )
        ) else (
          bL_law_133 k4 k47 b L xs M a2 a3 a4 a5 a6 a7 a8 ((26 * ((x12 - x12 / 2000000000 * 2000000000) / 26)) + 1)
        )
      ) else (
        bL_law_133 k4 k47 b L xs M a2 a3 a4 a5 a6 a7 a8 (26 * ((x12 - x12 / 2000000000 * 2000000000) / 26))
      )
    )
  )
set_option maxRecDepth 100000 in
set_option maxHeartbeats 4000000 in
theorem tlw_c {κ : hKx} {sz b L : Nat} {xs : Nat → Int32} (F : Cw κ RL code lw_tbl (fun _ => none) sz) (hR : kR κ = room_1) (hX : va_X b L xs (ks κ) (ks κ).heap) (hb : b < sz) {cells slots : Nat} (hce : cells + 20 ≤ 600074) (hse : slots + 211 ≤ 7301549) {k4 : hM → Int32 → Int32 → Prop} {k47 : hM → Int32 → Int32 → Prop} {M : hM} {a1 a2 : Int32} {a3 a4 a5 a6 a7 : Nat} {a8 : Int32} (hk4 : ∀ (M : hM) (a1 : Int32) (a2 : Int32), k4 M a1 a2 → VW κ (cells) (slots) M 4 [some (va_rf (some b)), some (.int a1), some (.int a2), none, none, none, none, none, none, none, none, none, none, none, none, none, none, none, none] []) (hk47 : ∀ (M : hM) (a1 : Int32) (a8 : Int32), k47 M a1 a8 → VW κ (cells + 20) (slots + 211) M 47 [some (va_rf (some b)), some (.int a1), some (.int a2), some (va_rf (some a3)), some (va_rf (some a4)), some (va_rf (some a5)), some (va_rf (some a6)), some (va_rf (some a7)), some (.int a8), none, none, none, none, none, none, none, none, none, none] []) (h : lw_c k4 k47 b L xs M a1 a2 a3 a4 a5 a6 a7 a8) : VW κ cells slots M 47 [some (va_rf (some b)), some (.int a1), some (.int a2), some (va_rf (some a3)), some (va_rf (some a4)), some (va_rf (some a5)), some (va_rf (some a6)), some (va_rf (some a7)), some (.int a8), none, none, none, none, none, none, none, none, none, none] [] := by
  unfold lw_c at h
  have C := F.1
  refine v_iload C (pc := 47) (i := 8) dL_law_47 rfl ?_
  refine v_bipush C (pc := 49) (v := 56) dL_law_49 (by decide) ?_
  refine v_icmp_ge C (pc := 51) (tgt := 339) dL_law_51 (by decide) (fun c10 => ?_) (fun c10 => ?_)
  · rw [if_pos c10] at h
    refine v_iinc C (pc := 339) (i := 2) (w := 1) (lv' := [some (va_rf (some b)), some (.int a1), some (.int (a2 + 1)), some (va_rf (some a3)), some (va_rf (some a4)), some (va_rf (some a5)), some (va_rf (some a6)), some (va_rf (some a7)), some (.int a8), none, none, none, none, none, none, none, none, none, none]) dL_law_339 rfl (by decide) rfl ?_
    refine v_goto C (pc := 342) (tgt := 4) dL_law_342 (by decide) ?_
    refine v_mask (lv' := [some (va_rf (some b)), some (.int a1), some (.int (a2 + 1)), none, none, none, none, none, none, none, none, none, none, none, none, none, none, none, none]) [true, true, true, false, false, false, false, false, false, false, false, false, false, false, false, false, false, false, false] rfl rfl ?_
    exact hk4 _ _ _ h
  · rw [if_neg c10] at h
    refine v_iload_n C (pc := 54) (i := 1) dL_law_54 rfl ?_
    refine v_if_eq C (pc := 55) (tgt := 339) dL_law_55 (by decide) (fun c11 => ?_) (fun c11 => ?_)
    · rw [if_pos c11] at h
      refine v_iinc C (pc := 339) (i := 2) (w := 1) (lv' := [some (va_rf (some b)), some (.int a1), some (.int (a2 + 1)), some (va_rf (some a3)), some (va_rf (some a4)), some (va_rf (some a5)), some (va_rf (some a6)), some (va_rf (some a7)), some (.int a8), none, none, none, none, none, none, none, none, none, none]) dL_law_339 rfl (by decide) rfl ?_
      refine v_goto C (pc := 342) (tgt := 4) dL_law_342 (by decide) ?_
      refine v_mask (lv' := [some (va_rf (some b)), some (.int a1), some (.int (a2 + 1)), none, none, none, none, none, none, none, none, none, none, none, none, none, none, none, none]) [true, true, true, false, false, false, false, false, false, false, false, false, false, false, false, false, false, false, false] rfl rfl ?_
      exact hk4 _ _ _ h
    · rw [if_neg c11] at h
      refine v_aload_n C (pc := 58) (i := 0) dL_law_58 rfl ?_
      refine v_bipush C (pc := 59) (v := 56) dL_law_59 (by decide) ?_
      refine v_iload_n C (pc := 61) (i := 2) dL_law_61 rfl ?_
      refine v_imul C (pc := 62) dL_law_62 ?_
      refine v_iload C (pc := 63) (i := 8) dL_law_63 rfl ?_
      refine v_iadd C (pc := 65) dL_law_65 ?_
      obtain ⟨x12, e12, h⟩ := h
      refine v_pSX F hX hb (pc := 66) [va_rf (some b), .int ((56 * a2) + a8)] 2 (cL_drawn_met (kl κ) (kG κ) b L xs e12) (good_t3 gL_law_L_drawn) rfl hdsL_drawn rfl rfl rfl (by rw [hR]; exact ⟨Nat.le_of_ble_eq_true rfl, Nat.le_of_ble_eq_true rfl⟩) (by rw [hR]; exact ⟨by show _ ≤ 600074; omega, by show _ ≤ 7301549; omega⟩) (Nat.le_of_ble_eq_true rfl) rfl dL_law_66 ?_
      refine v_ldc C (pc := 69) (v := 2000000000) (List.mem_of_getElem? (i := 782) (by decide +kernel)) dL_law_69 ?_
      refine v_irem C (pc := 71) dL_law_71 (by decide) ?_
      refine v_istore C (pc := 72) (i := 9) (lv' := [some (va_rf (some b)), some (.int a1), some (.int a2), some (va_rf (some a3)), some (va_rf (some a4)), some (va_rf (some a5)), some (va_rf (some a6)), some (va_rf (some a7)), some (.int a8), some (.int (x12 - x12 / 2000000000 * 2000000000)), none, none, none, none, none, none, none, none, none]) dL_law_72 rfl (lw_bi (j := 8) rfl) rfl ?_
      refine v_iload C (pc := 74) (i := 8) dL_law_74 rfl ?_
      refine v_iconst C (pc := 76) (v := 4) dL_law_76 (by decide) ?_
      refine v_icmp_ge C (pc := 77) (tgt := 91) dL_law_77 (by decide) (fun c13 => ?_) (fun c13 => ?_)
      · rw [if_pos c13] at h
        refine v_iload C (pc := 91) (i := 8) dL_law_91 rfl ?_
        refine v_bipush C (pc := 93) (v := 6) dL_law_93 (by decide) ?_
        refine v_icmp_ge C (pc := 95) (tgt := 111) dL_law_95 (by decide) (fun c14 => ?_) (fun c14 => ?_)
        · rw [if_pos c14] at h
          refine v_iload C (pc := 111) (i := 8) dL_law_111 rfl ?_
          refine v_bipush C (pc := 113) (v := 18) dL_law_113 (by decide) ?_
          refine v_icmp_ge C (pc := 115) (tgt := 131) dL_law_115 (by decide) (fun c15 => ?_) (fun c15 => ?_)
          · rw [if_pos c15] at h
            refine v_iload C (pc := 131) (i := 9) dL_law_131 rfl ?_
            refine v_mask (lv' := [some (va_rf (some b)), none, some (.int a2), some (va_rf (some a3)), some (va_rf (some a4)), some (va_rf (some a5)), some (va_rf (some a6)), some (va_rf (some a7)), some (.int a8), none, none, none, none, none, none, none, none, none, none]) [true, false, true, true, true, true, true, true, true, false, false, false, false, false, false, false, false, false, false] rfl rfl ?_
            exact tbL_law_133 F hR hX hb hce hse hk4 hk47 h
          · rw [if_neg c15] at h
            refine v_bipush C (pc := 118) (v := 26) dL_law_118 (by decide) ?_
            refine v_iload C (pc := 120) (i := 9) dL_law_120 rfl ?_
            refine v_bipush C (pc := 122) (v := 26) dL_law_122 (by decide) ?_
            refine v_idiv C (pc := 124) dL_law_124 (by decide) ?_
            refine v_imul C (pc := 125) dL_law_125 ?_
            refine v_iconst C (pc := 126) (v := 2) dL_law_126 (by decide) ?_
            refine v_iadd C (pc := 127) dL_law_127 ?_
            refine v_goto C (pc := 128) (tgt := 133) dL_law_128 (by decide) ?_
            refine v_mask (lv' := [some (va_rf (some b)), none, some (.int a2), some (va_rf (some a3)), some (va_rf (some a4)), some (va_rf (some a5)), some (va_rf (some a6)), some (va_rf (some a7)), some (.int a8), none, none, none, none, none, none, none, none, none, none]) [true, false, true, true, true, true, true, true, true, false, false, false, false, false, false, false, false, false, false] rfl rfl ?_
            exact tbL_law_133 F hR hX hb hce hse hk4 hk47 h
        · rw [if_neg c14] at h
          refine v_bipush C (pc := 98) (v := 26) dL_law_98 (by decide) ?_
          refine v_iload C (pc := 100) (i := 9) dL_law_100 rfl ?_
          refine v_bipush C (pc := 102) (v := 26) dL_law_102 (by decide) ?_
          refine v_idiv C (pc := 104) dL_law_104 (by decide) ?_
          refine v_imul C (pc := 105) dL_law_105 ?_
          refine v_iconst C (pc := 106) (v := 1) dL_law_106 (by decide) ?_
          refine v_iadd C (pc := 107) dL_law_107 ?_
          refine v_goto C (pc := 108) (tgt := 133) dL_law_108 (by decide) ?_
          refine v_mask (lv' := [some (va_rf (some b)), none, some (.int a2), some (va_rf (some a3)), some (va_rf (some a4)), some (va_rf (some a5)), some (va_rf (some a6)), some (va_rf (some a7)), some (.int a8), none, none, none, none, none, none, none, none, none, none]) [true, false, true, true, true, true, true, true, true, false, false, false, false, false, false, false, false, false, false] rfl rfl ?_
          exact tbL_law_133 F hR hX hb hce hse hk4 hk47 h
      · rw [if_neg c13] at h
        refine v_bipush C (pc := 80) (v := 26) dL_law_80 (by decide) ?_
        refine v_iload C (pc := 82) (i := 9) dL_law_82 rfl ?_
        refine v_bipush C (pc := 84) (v := 26) dL_law_84 (by decide) ?_
        refine v_idiv C (pc := 86) dL_law_86 (by decide) ?_
        refine v_imul C (pc := 87) dL_law_87 ?_
        refine v_goto C (pc := 88) (tgt := 133) dL_law_88 (by decide) ?_
        refine v_mask (lv' := [some (va_rf (some b)), none, some (.int a2), some (va_rf (some a3)), some (va_rf (some a4)), some (va_rf (some a5)), some (va_rf (some a6)), some (va_rf (some a7)), some (.int a8), none, none, none, none, none, none, none, none, none, none]) [true, false, true, true, true, true, true, true, true, false, false, false, false, false, false, false, false, false, false] rfl rfl ?_
        exact tbL_law_133 F hR hX hb hce hse hk4 hk47 h
