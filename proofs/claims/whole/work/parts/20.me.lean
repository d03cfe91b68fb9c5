/-! X5_trial -/
abbrev rmX5_trial : Room := { frames := 3, cells := 0, slots := 0, locals := 74 }
theorem iwX5_trial_X5 : ∀ w ∈ u_ws RX5 TX5 38, w ∈ wsX5_trial := fun _ h => List.mem_cons_of_mem _ (List.mem_append_right _ (h))
theorem flX5_trial_104 : Cond.fieldLink RX5 104 "ChargehouseModel" "counts" "[I" ∈ wsX5_trial := List.mem_cons_of_mem _ (List.mem_append_left _ (List.mem_append_left _ (List.mem_of_getElem? (i := 4) rfl)))
theorem flX5_trial_111 : Cond.fieldLink RX5 111 "ChargehouseModel" "offences" "I" ∈ wsX5_trial := List.mem_cons_of_mem _ (List.mem_append_left _ (List.mem_append_left _ (List.mem_of_getElem? (i := 1) rfl)))
theorem flX5_trial_135 : Cond.fieldLink RX5 135 "ChargehouseModel" "day" "I" ∈ wsX5_trial := List.mem_cons_of_mem _ (List.mem_append_left _ (List.mem_append_left _ (List.mem_of_getElem? (i := 3) rfl)))
theorem flX5_trial_62 : Cond.fieldLink RX5 62 "ChargehouseModel" "state" "[I" ∈ wsX5_trial := List.mem_cons_of_mem _ (List.mem_append_left _ (List.mem_append_left _ (List.mem_of_getElem? (i := 0) rfl)))
theorem flX5_trial_65 : Cond.fieldLink RX5 65 "ChargehouseModel" "charges" "[I" ∈ wsX5_trial := List.mem_cons_of_mem _ (List.mem_append_left _ (List.mem_append_left _ (List.mem_of_getElem? (i := 2) rfl)))
theorem flX5_trial_92 : Cond.fieldLink RX5 92 "ChargehouseModel" "convicted" "[I" ∈ wsX5_trial := List.mem_cons_of_mem _ (List.mem_append_left _ (List.mem_append_left _ (List.mem_of_getElem? (i := 5) rfl)))
def bX5_trial_129 (o : Nat) (k79 : hM → Int32 → Int32 → Prop) (Q : hM → Int32 → Prop) (M : hM) (a4 : Int32) (a7 : Int32) (s0 : Int32) : Prop :=
  k79 M (s0 ||| 0) (a7 + 1)
set_option maxRecDepth 100000 in
set_option maxHeartbeats 4000000 in
theorem tbX5_trial_129 {κ : hKx} {M0 : hM} {sz : Nat} {o : Nat} {Q : hM → Int32 → Prop} (E : Ce κ RX5 cX5_trial wsX5_trial (some .int) M0 sz (hQi Q) (fun _ _ => False) 0 0) (hR : kR κ = rmX5_trial) (ht : ∀ x ∈ (kc κ).exceptionTable.toList, False) {k79 : hM → Int32 → Int32 → Prop} {M : hM} {a4 : Int32} {a7 : Int32} {s0 : Int32} (hk79 : ∀ (M : hM) (a6 : Int32) (a7 : Int32), k79 M a6 a7 → VW κ 0 0 M 79 [some (va_rf (some o)), none, none, none, some (.int a4), none, some (.int a6), some (.int a7)] []) (h : bX5_trial_129 o k79 Q M a4 a7 s0) : VW κ 0 0 M 129 [some (va_rf (some o)), none, none, none, some (.int a4), none, none, some (.int a7)] [.int s0] := by
  unfold bX5_trial_129 at h
  have F := E.1
  have C := F.1
  refine v_iconst C (pc := 129) (v := 0) dX5_trial_129 (by decide) ?_
  refine v_ior C (pc := 130) dX5_trial_130 ?_
  refine v_istore C (pc := 131) (i := 6) (lv' := [some (va_rf (some o)), none, none, none, some (.int a4), none, some (.int (s0 ||| 0)), some (.int a7)]) dX5_trial_131 rfl rfl ?_
  refine v_iinc C (pc := 133) (i := 7) (w := 1) (lv' := [some (va_rf (some o)), none, none, none, some (.int a4), none, some (.int (s0 ||| 0)), some (.int (a7 + 1))]) dX5_trial_133 rfl (by decide) rfl ?_
  refine v_goto C (pc := 136) (tgt := 79) dX5_trial_136 (by decide) ?_
  exact hk79 _ _ _ h
def lX5_trial_79 (o : Nat) (Q : hM → Int32 → Prop) (a4 : Int32) : Nat → hM → Int32 → Int32 → Prop
  | 0, _, _ , _ => False
  | n + 1, M, a6, a7 =>
    ∃ x10, gI M 5 2 (some o) = some x10 ∧
    if (x10 : Int32) ≤ a7 then (
      ∃ x12, gR M 5 37 (some o) = some x12 ∧
      ∃ x13, aI M 0 x12 0 = some x13 ∧
      ∃ x14, fX5_size a6 = some x14 ∧
      ∃ M15, sI M 0 x12 0 (x13 + x14) = some M15 ∧
      ∃ x16, gR M15 5 37 (some o) = some x16 ∧
      ∃ x17, aI M15 0 x16 1 = some x17 ∧
      ∃ x18, gR M15 5 23 (some o) = some x18 ∧
      ∃ x19, aI M15 0 x18 a4 = some x19 ∧
      ∃ x20, fX5_size (x19 &&& (a6 ^^^ (-1))) = some x20 ∧
      ∃ M21, sI M15 0 x16 1 (x17 + x20) = some M21 ∧
      ∃ x22, gR M21 5 32 (some o) = some x22 ∧
      ∃ x23, aI M21 0 x22 a4 = some x23 ∧
      ∃ M24, sI M21 0 x22 a4 (x23 ||| a6) = some M24 ∧
      ∃ y26, hC M24 5 (some o) = some y26 ∧
      wX5_spend M24 o a4 (fun M27 =>
      Q M27 a6)
    ) else (
      ∃ x28, gR M 5 23 (some o) = some x28 ∧
      ∃ x29, aI M 0 x28 a4 = some x29 ∧
      ∃ x30, fX5_has x29 a7 = some x30 ∧
      if (x30 : Int32) = 0 then (
        bX5_trial_129 o (lX5_trial_79 o Q a4 n) Q M a4 a7 a6
      ) else (
        ∃ x32, gI M 5 1 (some o) = some x32 ∧
        ∃ y34, hC M 5 (some o) = some y34 ∧
        ∃ x33, fX5_areStrong M o a4 a7 8 x32 = some x33 ∧
        if (x33 : Int32) = 0 then (
          bX5_trial_129 o (lX5_trial_79 o Q a4 n) Q M a4 a7 a6
        ) else (
          (lX5_trial_79 o Q a4 n) M (a6 ||| (1 <<< (a7 &&& 31))) (a7 + 1)
        )
      )
    )
set_option maxRecDepth 100000 in
set_option maxHeartbeats 4000000 in
theorem tlX5_trial_79 {κ : hKx} {M0 : hM} {sz : Nat} {o : Nat} {Q : hM → Int32 → Prop} (E : Ce κ RX5 cX5_trial wsX5_trial (some .int) M0 sz (hQi Q) (fun _ _ => False) 0 0) (hR : kR κ = rmX5_trial) (ht : ∀ x ∈ (kc κ).exceptionTable.toList, False)  {a4 : Int32}  : ∀ (n : Nat) (M : hM) (a6 : Int32) (a7 : Int32), lX5_trial_79 o Q a4 n M a6 a7 → VW κ 0 0 M 79 [some (va_rf (some o)), none, none, none, some (.int a4), none, some (.int a6), some (.int a7)] [] := by
  have F := E.1
  have C := F.1
  intro n
  induction n with
  | zero =>
    intro M a6 a7 h
    unfold lX5_trial_79 at h
    exact h.elim
  | succ n ih =>
    intro M a6 a7 h
    unfold lX5_trial_79 at h
    refine v_iload C (pc := 79) (i := 7) dX5_trial_79 rfl ?_
    refine v_aload_n C (pc := 81) (i := 0) dX5_trial_81 rfl ?_
    obtain ⟨x10, e10, h⟩ := h
    refine v_getI C (pc := 82) (ci := 5) 2 iwX5_trial_X5 rfl (by decide) flX5_trial_111 e10 dX5_trial_82 ?_
    refine v_icmp_ge C (pc := 85) (tgt := 139) dX5_trial_85 (by decide) (fun c11 => ?_) (fun c11 => ?_)
    · rw [if_pos c11] at h
      refine v_aload_n C (pc := 139) (i := 0) dX5_trial_139 rfl ?_
      obtain ⟨x12, e12, h⟩ := h
      refine v_getR C (pc := 140) (ci := 5) 37 iwX5_trial_X5 rfl (by decide) flX5_trial_104 e12 dX5_trial_140 ?_
      refine v_iconst C (pc := 143) (v := 0) dX5_trial_143 (by decide) ?_
      refine v_dup2 C (pc := 144) dX5_trial_144 (rfl) (rf_cat _) ?_
      obtain ⟨x13, e13, h⟩ := h
      refine v_iald C (pc := 145) e13 dX5_trial_145 ?_
      refine v_iload C (pc := 146) (i := 6) dX5_trial_146 rfl ?_
      obtain ⟨x14, e14, h⟩ := h
      refine v_pS C (pc := 148) [.int a6] 1 (cX5_size_met (kl κ) (kG κ) _ e14) gX5_trial_X5_size rfl hdsX5_size rfl rfl rfl (by rw [hR]; exact ⟨Nat.le_of_ble_eq_true rfl, Nat.le_of_ble_eq_true rfl⟩) (by rw [hR]; decide) (Nat.le_of_ble_eq_true rfl) rfl dX5_trial_148 ?_
      refine v_iadd C (pc := 151) dX5_trial_151 ?_
      obtain ⟨M15, e15, h⟩ := h
      refine v_iast F (pc := 152) e15 dX5_trial_152 ?_
      refine v_aload_n C (pc := 153) (i := 0) dX5_trial_153 rfl ?_
      obtain ⟨x16, e16, h⟩ := h
      refine v_getR C (pc := 154) (ci := 5) 37 iwX5_trial_X5 rfl (by decide) flX5_trial_104 e16 dX5_trial_154 ?_
      refine v_iconst C (pc := 157) (v := 1) dX5_trial_157 (by decide) ?_
      refine v_dup2 C (pc := 158) dX5_trial_158 (rfl) (rf_cat _) ?_
      obtain ⟨x17, e17, h⟩ := h
      refine v_iald C (pc := 159) e17 dX5_trial_159 ?_
      refine v_aload_n C (pc := 160) (i := 0) dX5_trial_160 rfl ?_
      obtain ⟨x18, e18, h⟩ := h
      refine v_getR C (pc := 161) (ci := 5) 23 iwX5_trial_X5 rfl (by decide) flX5_trial_65 e18 dX5_trial_161 ?_
      refine v_iload C (pc := 164) (i := 4) dX5_trial_164 rfl ?_
      obtain ⟨x19, e19, h⟩ := h
      refine v_iald C (pc := 166) e19 dX5_trial_166 ?_
      refine v_iload C (pc := 167) (i := 6) dX5_trial_167 rfl ?_
      refine v_iconst C (pc := 169) (v := (-1)) dX5_trial_169 (by decide) ?_
      refine v_ixor C (pc := 170) dX5_trial_170 ?_
      refine v_iand C (pc := 171) dX5_trial_171 ?_
      obtain ⟨x20, e20, h⟩ := h
      refine v_pS C (pc := 172) [.int (x19 &&& (a6 ^^^ (-1)))] 1 (cX5_size_met (kl κ) (kG κ) _ e20) gX5_trial_X5_size rfl hdsX5_size rfl rfl rfl (by rw [hR]; exact ⟨Nat.le_of_ble_eq_true rfl, Nat.le_of_ble_eq_true rfl⟩) (by rw [hR]; decide) (Nat.le_of_ble_eq_true rfl) rfl dX5_trial_172 ?_
      refine v_iadd C (pc := 175) dX5_trial_175 ?_
      obtain ⟨M21, e21, h⟩ := h
      refine v_iast F (pc := 176) e21 dX5_trial_176 ?_
      refine v_aload_n C (pc := 177) (i := 0) dX5_trial_177 rfl ?_
      obtain ⟨x22, e22, h⟩ := h
      refine v_getR C (pc := 178) (ci := 5) 32 iwX5_trial_X5 rfl (by decide) flX5_trial_92 e22 dX5_trial_178 ?_
      refine v_iload C (pc := 181) (i := 4) dX5_trial_181 rfl ?_
      refine v_dup2 C (pc := 183) dX5_trial_183 (rfl) (rf_cat _) ?_
      obtain ⟨x23, e23, h⟩ := h
      refine v_iald C (pc := 184) e23 dX5_trial_184 ?_
      refine v_iload C (pc := 185) (i := 6) dX5_trial_185 rfl ?_
      refine v_ior C (pc := 187) dX5_trial_187 ?_
      obtain ⟨M24, e24, h⟩ := h
      refine v_iast F (pc := 188) e24 dX5_trial_188 ?_
      refine v_aload_n C (pc := 189) (i := 0) dX5_trial_189 rfl ?_
      refine v_iload C (pc := 190) (i := 4) dX5_trial_190 rfl ?_
      obtain ⟨y26, hy26, h⟩ := h
      obtain ⟨fsy26, hfy26⟩ := hC_some hy26
      refine v_nV F (pc := 192) (ci := 5) [.int a4] 1 (cX5_spend_met (kl κ) F.2.2.2.1 (kG κ) _ h) hfy26 rfl gX5_trial_X5_spend rfl hdX5_spend rfl rfl rfl (by rw [hR]; exact ⟨Nat.le_of_ble_eq_true rfl, Nat.le_of_ble_eq_true rfl⟩) (by rw [hR]; decide) (Nat.le_of_ble_eq_true rfl) rfl dX5_trial_192 (hk_v fun M27 h => ?_)
      refine v_iload C (pc := 195) (i := 6) dX5_trial_195 rfl ?_
      exact v_eret (pc := 197) E rfl (nar_int _) ⟨_, rfl, h⟩ (by decide) (by decide) dX5_trial_197
    · rw [if_neg c11] at h
      refine v_iload C (pc := 88) (i := 6) dX5_trial_88 rfl ?_
      refine v_aload_n C (pc := 90) (i := 0) dX5_trial_90 rfl ?_
      obtain ⟨x28, e28, h⟩ := h
      refine v_getR C (pc := 91) (ci := 5) 23 iwX5_trial_X5 rfl (by decide) flX5_trial_65 e28 dX5_trial_91 ?_
      refine v_iload C (pc := 94) (i := 4) dX5_trial_94 rfl ?_
      obtain ⟨x29, e29, h⟩ := h
      refine v_iald C (pc := 96) e29 dX5_trial_96 ?_
      refine v_iload C (pc := 97) (i := 7) dX5_trial_97 rfl ?_
      obtain ⟨x30, e30, h⟩ := h
      refine v_pS C (pc := 99) [.int x29, .int a7] 2 (cX5_has_met (kl κ) (kG κ) _ e30) gX5_trial_X5_has rfl hdsX5_has rfl rfl rfl (by rw [hR]; exact ⟨Nat.le_of_ble_eq_true rfl, Nat.le_of_ble_eq_true rfl⟩) (by rw [hR]; decide) (Nat.le_of_ble_eq_true rfl) rfl dX5_trial_99 ?_
      refine v_if_eq C (pc := 102) (tgt := 129) dX5_trial_102 (by decide) (fun c31 => ?_) (fun c31 => ?_)
      · rw [if_pos c31] at h
        refine v_mask (lv' := [some (va_rf (some o)), none, none, none, some (.int a4), none, none, some (.int a7)]) [true, false, false, false, true, false, false, true] rfl rfl ?_
        exact tbX5_trial_129 E hR ht (fun q0 q1 q2 h => ih q0 q1 q2 h) h
      · rw [if_neg c31] at h
        refine v_aload_n C (pc := 105) (i := 0) dX5_trial_105 rfl ?_
        refine v_iload C (pc := 106) (i := 4) dX5_trial_106 rfl ?_
        refine v_iload C (pc := 108) (i := 7) dX5_trial_108 rfl ?_
        refine v_bipush C (pc := 110) (v := 8) dX5_trial_110 (by decide) ?_
        refine v_aload_n C (pc := 112) (i := 0) dX5_trial_112 rfl ?_
        obtain ⟨x32, e32, h⟩ := h
        refine v_getI C (pc := 113) (ci := 5) 1 iwX5_trial_X5 rfl (by decide) flX5_trial_135 e32 dX5_trial_113 ?_
        obtain ⟨y34, hy34, h⟩ := h
        obtain ⟨fsy34, hfy34⟩ := hC_some hy34
        obtain ⟨x33, e33, h⟩ := h
        refine v_pV C (pc := 116) (ci := 5) [.int a4, .int a7, .int 8, .int x32] 4 (cX5_areStrong_met (kl κ) (kG κ) _ e33) hfy34 rfl gX5_trial_X5_areStrong rfl hdX5_areStrong rfl rfl rfl (by rw [hR]; exact ⟨Nat.le_of_ble_eq_true rfl, Nat.le_of_ble_eq_true rfl⟩) (by rw [hR]; decide) (Nat.le_of_ble_eq_true rfl) rfl dX5_trial_116 ?_
        refine v_if_eq C (pc := 119) (tgt := 129) dX5_trial_119 (by decide) (fun c35 => ?_) (fun c35 => ?_)
        · rw [if_pos c35] at h
          refine v_mask (lv' := [some (va_rf (some o)), none, none, none, some (.int a4), none, none, some (.int a7)]) [true, false, false, false, true, false, false, true] rfl rfl ?_
          exact tbX5_trial_129 E hR ht (fun q0 q1 q2 h => ih q0 q1 q2 h) h
        · rw [if_neg c35] at h
          refine v_iconst C (pc := 122) (v := 1) dX5_trial_122 (by decide) ?_
          refine v_iload C (pc := 123) (i := 7) dX5_trial_123 rfl ?_
          refine v_ishl C (pc := 125) dX5_trial_125 ?_
          refine v_goto C (pc := 126) (tgt := 130) dX5_trial_126 (by decide) ?_
          refine v_ior C (pc := 130) dX5_trial_130 ?_
          refine v_istore C (pc := 131) (i := 6) (lv' := [some (va_rf (some o)), none, none, none, some (.int a4), none, some (.int (a6 ||| (1 <<< (a7 &&& 31)))), some (.int a7)]) dX5_trial_131 rfl rfl ?_
          refine v_iinc C (pc := 133) (i := 7) (w := 1) (lv' := [some (va_rf (some o)), none, none, none, some (.int a4), none, some (.int (a6 ||| (1 <<< (a7 &&& 31)))), some (.int (a7 + 1))]) dX5_trial_133 rfl (by decide) rfl ?_
          refine v_goto C (pc := 136) (tgt := 79) dX5_trial_136 (by decide) ?_
          exact ih _ _ _ h
def bX5_trial_65 (o : Nat) (Q : hM → Int32 → Prop) (M : hM) (a4 : Int32) (s0 : Option Nat) (s1 : Int32) : Prop :=
  ∃ y7, hC M 5 s0 = some y7 ∧
  wX5_refused M y7 s1 (fun M8 x6 =>
  if (x6 : Int32) = 0 then (
    lX5_trial_79 o Q a4 1000 M8 0 0
  ) else (
    Q M8 0
  ))
set_option maxRecDepth 100000 in
set_option maxHeartbeats 4000000 in
theorem tbX5_trial_65 {κ : hKx} {M0 : hM} {sz : Nat} {o : Nat} {Q : hM → Int32 → Prop} (E : Ce κ RX5 cX5_trial wsX5_trial (some .int) M0 sz (hQi Q) (fun _ _ => False) 0 0) (hR : kR κ = rmX5_trial) (ht : ∀ x ∈ (kc κ).exceptionTable.toList, False)  {M : hM} {a4 : Int32} {s0 : Option Nat} {s1 : Int32}  (h : bX5_trial_65 o Q M a4 s0 s1) : VW κ 0 0 M 65 [some (va_rf (some o)), none, none, none, some (.int a4), none, none, none] [.int s1, va_rf s0] := by
  unfold bX5_trial_65 at h
  have F := E.1
  have C := F.1
  obtain ⟨y7, hy7, hh⟩ := h
  skip
  obtain ⟨rfl, fsy7, hfy7⟩ := hC_inv hy7
  have h := hh
  clear hh
  refine v_nV F (pc := 65) (ci := 5) [.int s1] 1 (cX5_refused_met (kl κ) F.2.2.2.1 (kG κ) _ h) hfy7 rfl gX5_trial_X5_refused rfl hdX5_refused rfl rfl rfl (by rw [hR]; exact ⟨Nat.le_of_ble_eq_true rfl, Nat.le_of_ble_eq_true rfl⟩) (by rw [hR]; decide) (Nat.le_of_ble_eq_true rfl) rfl dX5_trial_65 (hk_i fun M8 x6 h => ?_)
  refine v_if_eq C (pc := 68) (tgt := 73) dX5_trial_68 (by decide) (fun c9 => ?_) (fun c9 => ?_)
  · rw [if_pos c9] at h
    refine v_iconst C (pc := 73) (v := 0) dX5_trial_73 (by decide) ?_
    refine v_istore C (pc := 74) (i := 6) (lv' := [some (va_rf (some o)), none, none, none, some (.int a4), none, some (.int 0), none]) dX5_trial_74 rfl rfl ?_
    refine v_iconst C (pc := 76) (v := 0) dX5_trial_76 (by decide) ?_
    refine v_istore C (pc := 77) (i := 7) (lv' := [some (va_rf (some o)), none, none, none, some (.int a4), none, some (.int 0), some (.int 0)]) dX5_trial_77 rfl rfl ?_
    exact tlX5_trial_79 E hR ht  1000 _ _ _ h
  · rw [if_neg c9] at h
    refine v_iconst C (pc := 71) (v := 0) dX5_trial_71 (by decide) ?_
    exact v_eret (pc := 72) E rfl (nar_int _) ⟨_, rfl, h⟩ (by decide) (by decide) dX5_trial_72
def bX5_trial_44 (o : Nat) (Q : hM → Int32 → Prop) (M : hM) (a3 : Int32) (a4 : Int32) (s0 : Int32) : Prop :=
  if (a3 : Int32) = 0 then (
    bX5_trial_65 o Q M a4 (some o) 1
  ) else (
    if (s0 : Int32) = 0 then (
      bX5_trial_65 o Q M a4 (some o) 2
    ) else (
      bX5_trial_65 o Q M a4 (some o) 0
    )
  )
set_option maxRecDepth 100000 in
set_option maxHeartbeats 4000000 in
theorem tbX5_trial_44 {κ : hKx} {M0 : hM} {sz : Nat} {o : Nat} {Q : hM → Int32 → Prop} (E : Ce κ RX5 cX5_trial wsX5_trial (some .int) M0 sz (hQi Q) (fun _ _ => False) 0 0) (hR : kR κ = rmX5_trial) (ht : ∀ x ∈ (kc κ).exceptionTable.toList, False)  {M : hM} {a3 : Int32} {a4 : Int32} {s0 : Int32}  (h : bX5_trial_44 o Q M a3 a4 s0) : VW κ 0 0 M 44 [some (va_rf (some o)), none, none, some (.int a3), some (.int a4), none, none, none] [.int s0] := by
  unfold bX5_trial_44 at h
  have F := E.1
  have C := F.1
  refine v_istore C (pc := 44) (i := 5) (lv' := [some (va_rf (some o)), none, none, some (.int a3), some (.int a4), some (.int s0), none, none]) dX5_trial_44 rfl rfl ?_
  refine v_aload_n C (pc := 46) (i := 0) dX5_trial_46 rfl ?_
  refine v_iload_n C (pc := 47) (i := 3) dX5_trial_47 rfl ?_
  refine v_if_ne C (pc := 48) (tgt := 55) dX5_trial_48 (by decide) (fun c4 => ?_) (fun c4 => ?_)
  · rw [if_neg c4] at h
    refine v_iload C (pc := 55) (i := 5) dX5_trial_55 rfl ?_
    refine v_if_eq C (pc := 57) (tgt := 64) dX5_trial_57 (by decide) (fun c5 => ?_) (fun c5 => ?_)
    · rw [if_pos c5] at h
      refine v_iconst C (pc := 64) (v := 2) dX5_trial_64 (by decide) ?_
      refine v_mask (lv' := [some (va_rf (some o)), none, none, none, some (.int a4), none, none, none]) [true, false, false, false, true, false, false, false] rfl rfl ?_
      exact tbX5_trial_65 E hR ht  h
    · rw [if_neg c5] at h
      refine v_iconst C (pc := 60) (v := 0) dX5_trial_60 (by decide) ?_
      refine v_goto C (pc := 61) (tgt := 65) dX5_trial_61 (by decide) ?_
      refine v_mask (lv' := [some (va_rf (some o)), none, none, none, some (.int a4), none, none, none]) [true, false, false, false, true, false, false, false] rfl rfl ?_
      exact tbX5_trial_65 E hR ht  h
  · rw [if_pos c4] at h
    refine v_iconst C (pc := 51) (v := 1) dX5_trial_51 (by decide) ?_
    refine v_goto C (pc := 52) (tgt := 65) dX5_trial_52 (by decide) ?_
    refine v_mask (lv' := [some (va_rf (some o)), none, none, none, some (.int a4), none, none, none]) [true, false, false, false, true, false, false, false] rfl rfl ?_
    exact tbX5_trial_65 E hR ht  h
def bX5_trial_43 (o : Nat) (Q : hM → Int32 → Prop) (M : hM) (a3 : Int32) (a4 : Int32) : Prop :=
  bX5_trial_44 o Q M a3 a4 0
set_option maxRecDepth 100000 in
set_option maxHeartbeats 4000000 in
theorem tbX5_trial_43 {κ : hKx} {M0 : hM} {sz : Nat} {o : Nat} {Q : hM → Int32 → Prop} (E : Ce κ RX5 cX5_trial wsX5_trial (some .int) M0 sz (hQi Q) (fun _ _ => False) 0 0) (hR : kR κ = rmX5_trial) (ht : ∀ x ∈ (kc κ).exceptionTable.toList, False)  {M : hM} {a3 : Int32} {a4 : Int32}  (h : bX5_trial_43 o Q M a3 a4) : VW κ 0 0 M 43 [some (va_rf (some o)), none, none, some (.int a3), some (.int a4), none, none, none] [] := by
  unfold bX5_trial_43 at h
  have F := E.1
  have C := F.1
  refine v_iconst C (pc := 43) (v := 0) dX5_trial_43 (by decide) ?_
  exact tbX5_trial_44 E hR ht  h
def wX5_trial (M : hM) (o : Nat) (a1 : Int32) (a2 : Int32) (Q : hM → Int32 → Prop) : Prop :=
  ∃ y2, hC M 5 (some o) = some y2 ∧
  ∃ x1, fX5_isIn M o a1 a2 = some x1 ∧
  if (x1 : Int32) = 0 then (
    bX5_trial_43 o Q M x1 ((8 * a1) + a2)
  ) else (
    ∃ x36, gR M 5 22 (some o) = some x36 ∧
    ∃ x37, aI M 0 x36 ((8 * a1) + a2) = some x37 ∧
    if (x37 : Int32) = 2 then (
      ∃ y40, hC M 5 (some o) = some y40 ∧
      ∃ x39, fX5_lacking M o a1 a2 = some x39 ∧
      if (x39 : Int32) = 0 then (
        bX5_trial_44 o Q M x1 ((8 * a1) + a2) 1
      ) else (
        bX5_trial_43 o Q M x1 ((8 * a1) + a2)
      )
    ) else (
      bX5_trial_43 o Q M x1 ((8 * a1) + a2)
    )
  )
set_option maxRecDepth 100000 in
set_option maxHeartbeats 4000000 in
theorem cX5_trial_met (l : Launch) (hfl : l.stackTraces = false) (G : hG) (M : hM) {o : Nat} {a1 : Int32} {a2 : Int32} {Q : hM → Int32 → Prop} (h : wX5_trial M o a1 a2 Q) : hEMet l yX5_trial wsX5_trial rmX5_trial [.ref o, .int a1, .int a2] G M (hQi Q) (fun _ _ => False) 0 0 := by
  refine he_entry (own := RX5) (cc := cX5_trial) (maxL := 8) (ret := (some .int)) (lv := [some (va_rf (some o)), some (.int a1), some (.int a2), none, none, none, none, none]) hfl (by decide) rfl rfl (hcc rfl (hcc rfl (hcc rfl hc0))) (Nat.le_of_ble_eq_true rfl) rfl (fun κ sz hG hl hR E ht hn => ?_)
  subst hG; subst hl
  unfold wX5_trial at h
  have F := E.1
  have C := F.1
  refine v_aload_n C (pc := 0) (i := 0) dX5_trial_0 rfl ?_
  refine v_iload_n C (pc := 1) (i := 1) dX5_trial_1 rfl ?_
  refine v_iload_n C (pc := 2) (i := 2) dX5_trial_2 rfl ?_
  obtain ⟨y2, hy2, h⟩ := h
  obtain ⟨fsy2, hfy2⟩ := hC_some hy2
  obtain ⟨x1, e1, h⟩ := h
  refine v_pV C (pc := 3) (ci := 5) [.int a1, .int a2] 2 (cX5_isIn_met (kl κ) (kG κ) _ e1) hfy2 rfl gX5_trial_X5_isIn rfl hdX5_isIn rfl rfl rfl (by rw [hR]; exact ⟨Nat.le_of_ble_eq_true rfl, Nat.le_of_ble_eq_true rfl⟩) (by rw [hR]; decide) (Nat.le_of_ble_eq_true rfl) rfl dX5_trial_3 ?_
  refine v_istore_n C (pc := 6) (i := 3) (lv' := [some (va_rf (some o)), some (.int a1), some (.int a2), some (.int x1), none, none, none, none]) dX5_trial_6 rfl rfl ?_
  refine v_bipush C (pc := 7) (v := 8) dX5_trial_7 (by decide) ?_
  refine v_iload_n C (pc := 9) (i := 1) dX5_trial_9 rfl ?_
  refine v_imul C (pc := 10) dX5_trial_10 ?_
  refine v_iload_n C (pc := 11) (i := 2) dX5_trial_11 rfl ?_
  refine v_iadd C (pc := 12) dX5_trial_12 ?_
  refine v_istore C (pc := 13) (i := 4) (lv' := [some (va_rf (some o)), some (.int a1), some (.int a2), some (.int x1), some (.int ((8 * a1) + a2)), none, none, none]) dX5_trial_13 rfl rfl ?_
  refine v_iload_n C (pc := 15) (i := 3) dX5_trial_15 rfl ?_
  refine v_if_eq C (pc := 16) (tgt := 43) dX5_trial_16 (by decide) (fun c3 => ?_) (fun c3 => ?_)
  · rw [if_pos c3] at h
    refine v_mask (lv' := [some (va_rf (some o)), none, none, some (.int x1), some (.int ((8 * a1) + a2)), none, none, none]) [true, false, false, true, true, false, false, false] rfl rfl ?_
    exact tbX5_trial_43 E hR ht  h
  · rw [if_neg c3] at h
    refine v_aload_n C (pc := 19) (i := 0) dX5_trial_19 rfl ?_
    obtain ⟨x36, e36, h⟩ := h
    refine v_getR C (pc := 20) (ci := 5) 22 iwX5_trial_X5 rfl (by decide) flX5_trial_62 e36 dX5_trial_20 ?_
    refine v_iload C (pc := 23) (i := 4) dX5_trial_23 rfl ?_
    obtain ⟨x37, e37, h⟩ := h
    refine v_iald C (pc := 25) e37 dX5_trial_25 ?_
    refine v_iconst C (pc := 26) (v := 2) dX5_trial_26 (by decide) ?_
    refine v_icmp_ne C (pc := 27) (tgt := 43) dX5_trial_27 (by decide) (fun c38 => ?_) (fun c38 => ?_)
    · rw [if_neg c38] at h
      refine v_mask (lv' := [some (va_rf (some o)), none, none, some (.int x1), some (.int ((8 * a1) + a2)), none, none, none]) [true, false, false, true, true, false, false, false] rfl rfl ?_
      exact tbX5_trial_43 E hR ht  h
    · rw [if_pos c38] at h
      refine v_aload_n C (pc := 30) (i := 0) dX5_trial_30 rfl ?_
      refine v_iload_n C (pc := 31) (i := 1) dX5_trial_31 rfl ?_
      refine v_iload_n C (pc := 32) (i := 2) dX5_trial_32 rfl ?_
      obtain ⟨y40, hy40, h⟩ := h
      obtain ⟨fsy40, hfy40⟩ := hC_some hy40
      obtain ⟨x39, e39, h⟩ := h
      refine v_pV C (pc := 33) (ci := 5) [.int a1, .int a2] 2 (cX5_lacking_met (kl κ) (kG κ) _ e39) hfy40 rfl gX5_trial_X5_lacking rfl hdX5_lacking rfl rfl rfl (by rw [hR]; exact ⟨Nat.le_of_ble_eq_true rfl, Nat.le_of_ble_eq_true rfl⟩) (by rw [hR]; decide) (Nat.le_of_ble_eq_true rfl) rfl dX5_trial_33 ?_
      refine v_if_ne C (pc := 36) (tgt := 43) dX5_trial_36 (by decide) (fun c41 => ?_) (fun c41 => ?_)
      · rw [if_neg c41] at h
        refine v_mask (lv' := [some (va_rf (some o)), none, none, some (.int x1), some (.int ((8 * a1) + a2)), none, none, none]) [true, false, false, true, true, false, false, false] rfl rfl ?_
        exact tbX5_trial_43 E hR ht  h
      · rw [if_pos c41] at h
        refine v_iconst C (pc := 39) (v := 1) dX5_trial_39 (by decide) ?_
        refine v_goto C (pc := 40) (tgt := 44) dX5_trial_40 (by decide) ?_
        refine v_mask (lv' := [some (va_rf (some o)), none, none, some (.int x1), some (.int ((8 * a1) + a2)), none, none, none]) [true, false, false, true, true, false, false, false] rfl rfl ?_
        exact tbX5_trial_44 E hR ht  h
/-! X5_plea -/
abbrev rmX5_plea : Room := { frames := 2, cells := 0, slots := 0, locals := 44 }
theorem iwX5_plea_X5 : ∀ w ∈ u_ws RX5 TX5 38, w ∈ wsX5_plea := fun _ h => List.mem_cons_of_mem _ (List.mem_append_right _ (h))
theorem flX5_plea_104 : Cond.fieldLink RX5 104 "ChargehouseModel" "counts" "[I" ∈ wsX5_plea := List.mem_cons_of_mem _ (List.mem_append_left _ (List.mem_append_left _ (List.mem_of_getElem? (i := 6) rfl)))
theorem flX5_plea_135 : Cond.fieldLink RX5 135 "ChargehouseModel" "day" "I" ∈ wsX5_plea := List.mem_cons_of_mem _ (List.mem_append_left _ (List.mem_append_left _ (List.mem_of_getElem? (i := 2) rfl)))
theorem flX5_plea_62 : Cond.fieldLink RX5 62 "ChargehouseModel" "state" "[I" ∈ wsX5_plea := List.mem_cons_of_mem _ (List.mem_append_left _ (List.mem_append_left _ (List.mem_of_getElem? (i := 0) rfl)))
theorem flX5_plea_65 : Cond.fieldLink RX5 65 "ChargehouseModel" "charges" "[I" ∈ wsX5_plea := List.mem_cons_of_mem _ (List.mem_append_left _ (List.mem_append_left _ (List.mem_of_getElem? (i := 1) rfl)))
theorem flX5_plea_68 : Cond.fieldLink RX5 68 "ChargehouseModel" "since" "[I" ∈ wsX5_plea := List.mem_cons_of_mem _ (List.mem_append_left _ (List.mem_append_left _ (List.mem_of_getElem? (i := 3) rfl)))
theorem flX5_plea_89 : Cond.fieldLink RX5 89 "ChargehouseModel" "months" "[I" ∈ wsX5_plea := List.mem_cons_of_mem _ (List.mem_append_left _ (List.mem_append_left _ (List.mem_of_getElem? (i := 4) rfl)))
theorem flX5_plea_92 : Cond.fieldLink RX5 92 "ChargehouseModel" "convicted" "[I" ∈ wsX5_plea := List.mem_cons_of_mem _ (List.mem_append_left _ (List.mem_append_left _ (List.mem_of_getElem? (i := 5) rfl)))
def bX5_plea_167 (o : Nat) (Q : hM → Int32 → Prop) (M : hM) (a3 : Int32) (a5 : Int32) (s0 : Int32) : Prop :=
  ∃ y19, hC M 5 (some o) = some y19 ∧
  ∃ x18, fX5_heavy M o a3 = some x18 ∧
  ∃ x20, gR M 5 31 (some o) = some x20 ∧
  ∃ x21, aI M 0 x20 a5 = some x21 ∧
  ∃ M22, sI M 0 x20 a5 (x21 + (((12 * x18) * (100 - s0)) / 100)) = some M22 ∧
  ∃ x23, gR M22 5 32 (some o) = some x23 ∧
  ∃ x24, aI M22 0 x23 a5 = some x24 ∧
  ∃ M25, sI M22 0 x23 a5 (x24 ||| a3) = some M25 ∧
  ∃ x26, gR M25 5 37 (some o) = some x26 ∧
  ∃ x27, aI M25 0 x26 0 = some x27 ∧
  ∃ x28, fX5_size a3 = some x28 ∧
  ∃ M29, sI M25 0 x26 0 (x27 + x28) = some M29 ∧
  ∃ x30, gR M29 5 37 (some o) = some x30 ∧
  ∃ x31, aI M29 0 x30 2 = some x31 ∧
  ∃ M32, sI M29 0 x30 2 (x31 + 1) = some M32 ∧
  ∃ y34, hC M32 5 (some o) = some y34 ∧
  wX5_spend M32 o a5 (fun M35 =>
  Q M35 (((12 * x18) * (100 - s0)) / 100))
set_option maxRecDepth 100000 in
set_option maxHeartbeats 4000000 in
theorem tbX5_plea_167 {κ : hKx} {M0 : hM} {sz : Nat} {o : Nat} {Q : hM → Int32 → Prop} (E : Ce κ RX5 cX5_plea wsX5_plea (some .int) M0 sz (hQi Q) (fun _ _ => False) 0 0) (hR : kR κ = rmX5_plea) (ht : ∀ x ∈ (kc κ).exceptionTable.toList, False)  {M : hM} {a3 : Int32} {a5 : Int32} {s0 : Int32}  (h : bX5_plea_167 o Q M a3 a5 s0) : VW κ 0 0 M 167 [some (va_rf (some o)), none, none, some (.int a3), none, some (.int a5), none, none, none, none, none] [.int s0] := by
  unfold bX5_plea_167 at h
  have F := E.1
  have C := F.1
  refine v_istore C (pc := 167) (i := 9) (lv' := [some (va_rf (some o)), none, none, some (.int a3), none, some (.int a5), none, none, none, some (.int s0), none]) dX5_plea_167 rfl rfl ?_
  refine v_bipush C (pc := 169) (v := 12) dX5_plea_169 (by decide) ?_
  refine v_aload_n C (pc := 171) (i := 0) dX5_plea_171 rfl ?_
  refine v_iload_n C (pc := 172) (i := 3) dX5_plea_172 rfl ?_
  obtain ⟨y19, hy19, h⟩ := h
  obtain ⟨fsy19, hfy19⟩ := hC_some hy19
  obtain ⟨x18, e18, h⟩ := h
  refine v_pV C (pc := 173) (ci := 5) [.int a3] 1 (cX5_heavy_met (kl κ) (kG κ) _ e18) hfy19 rfl gX5_plea_X5_heavy rfl hdX5_heavy rfl rfl rfl (by rw [hR]; exact ⟨Nat.le_of_ble_eq_true rfl, Nat.le_of_ble_eq_true rfl⟩) (by rw [hR]; decide) (Nat.le_of_ble_eq_true rfl) rfl dX5_plea_173 ?_
  refine v_imul C (pc := 176) dX5_plea_176 ?_
  refine v_bipush C (pc := 177) (v := 100) dX5_plea_177 (by decide) ?_
  refine v_iload C (pc := 179) (i := 9) dX5_plea_179 rfl ?_
  refine v_isub C (pc := 181) dX5_plea_181 ?_
  refine v_imul C (pc := 182) dX5_plea_182 ?_
  refine v_bipush C (pc := 183) (v := 100) dX5_plea_183 (by decide) ?_
  refine v_idiv C (pc := 185) dX5_plea_185 (by decide) ?_
  refine v_istore C (pc := 186) (i := 10) (lv' := [some (va_rf (some o)), none, none, some (.int a3), none, some (.int a5), none, none, none, some (.int s0), some (.int (((12 * x18) * (100 - s0)) / 100))]) dX5_plea_186 rfl rfl ?_
  refine v_aload_n C (pc := 188) (i := 0) dX5_plea_188 rfl ?_
  obtain ⟨x20, e20, h⟩ := h
  refine v_getR C (pc := 189) (ci := 5) 31 iwX5_plea_X5 rfl (by decide) flX5_plea_89 e20 dX5_plea_189 ?_
  refine v_iload C (pc := 192) (i := 5) dX5_plea_192 rfl ?_
  refine v_dup2 C (pc := 194) dX5_plea_194 (rfl) (rf_cat _) ?_
  obtain ⟨x21, e21, h⟩ := h
  refine v_iald C (pc := 195) e21 dX5_plea_195 ?_
  refine v_iload C (pc := 196) (i := 10) dX5_plea_196 rfl ?_
  refine v_iadd C (pc := 198) dX5_plea_198 ?_
  obtain ⟨M22, e22, h⟩ := h
  refine v_iast F (pc := 199) e22 dX5_plea_199 ?_
  refine v_aload_n C (pc := 200) (i := 0) dX5_plea_200 rfl ?_
  obtain ⟨x23, e23, h⟩ := h
  refine v_getR C (pc := 201) (ci := 5) 32 iwX5_plea_X5 rfl (by decide) flX5_plea_92 e23 dX5_plea_201 ?_
  refine v_iload C (pc := 204) (i := 5) dX5_plea_204 rfl ?_
  refine v_dup2 C (pc := 206) dX5_plea_206 (rfl) (rf_cat _) ?_
  obtain ⟨x24, e24, h⟩ := h
  refine v_iald C (pc := 207) e24 dX5_plea_207 ?_
  refine v_iload_n C (pc := 208) (i := 3) dX5_plea_208 rfl ?_
  refine v_ior C (pc := 209) dX5_plea_209 ?_
  obtain ⟨M25, e25, h⟩ := h
  refine v_iast F (pc := 210) e25 dX5_plea_210 ?_
  refine v_aload_n C (pc := 211) (i := 0) dX5_plea_211 rfl ?_
  obtain ⟨x26, e26, h⟩ := h
  refine v_getR C (pc := 212) (ci := 5) 37 iwX5_plea_X5 rfl (by decide) flX5_plea_104 e26 dX5_plea_212 ?_
  refine v_iconst C (pc := 215) (v := 0) dX5_plea_215 (by decide) ?_
  refine v_dup2 C (pc := 216) dX5_plea_216 (rfl) (rf_cat _) ?_
  obtain ⟨x27, e27, h⟩ := h
  refine v_iald C (pc := 217) e27 dX5_plea_217 ?_
  refine v_iload_n C (pc := 218) (i := 3) dX5_plea_218 rfl ?_
  obtain ⟨x28, e28, h⟩ := h
  refine v_pS C (pc := 219) [.int a3] 1 (cX5_size_met (kl κ) (kG κ) _ e28) gX5_plea_X5_size rfl hdsX5_size rfl rfl rfl (by rw [hR]; exact ⟨Nat.le_of_ble_eq_true rfl, Nat.le_of_ble_eq_true rfl⟩) (by rw [hR]; decide) (Nat.le_of_ble_eq_true rfl) rfl dX5_plea_219 ?_
  refine v_iadd C (pc := 222) dX5_plea_222 ?_
  obtain ⟨M29, e29, h⟩ := h
  refine v_iast F (pc := 223) e29 dX5_plea_223 ?_
  refine v_aload_n C (pc := 224) (i := 0) dX5_plea_224 rfl ?_
  obtain ⟨x30, e30, h⟩ := h
  refine v_getR C (pc := 225) (ci := 5) 37 iwX5_plea_X5 rfl (by decide) flX5_plea_104 e30 dX5_plea_225 ?_
  refine v_iconst C (pc := 228) (v := 2) dX5_plea_228 (by decide) ?_
  refine v_dup2 C (pc := 229) dX5_plea_229 (rfl) (rf_cat _) ?_
  obtain ⟨x31, e31, h⟩ := h
  refine v_iald C (pc := 230) e31 dX5_plea_230 ?_
  refine v_iconst C (pc := 231) (v := 1) dX5_plea_231 (by decide) ?_
  refine v_iadd C (pc := 232) dX5_plea_232 ?_
  obtain ⟨M32, e32, h⟩ := h
  refine v_iast F (pc := 233) e32 dX5_plea_233 ?_
  refine v_aload_n C (pc := 234) (i := 0) dX5_plea_234 rfl ?_
  refine v_iload C (pc := 235) (i := 5) dX5_plea_235 rfl ?_
  obtain ⟨y34, hy34, h⟩ := h
  obtain ⟨fsy34, hfy34⟩ := hC_some hy34
  refine v_nV F (pc := 237) (ci := 5) [.int a5] 1 (cX5_spend_met (kl κ) F.2.2.2.1 (kG κ) _ h) hfy34 rfl gX5_plea_X5_spend rfl hdX5_spend rfl rfl rfl (by rw [hR]; exact ⟨Nat.le_of_ble_eq_true rfl, Nat.le_of_ble_eq_true rfl⟩) (by rw [hR]; decide) (Nat.le_of_ble_eq_true rfl) rfl dX5_plea_237 (hk_v fun M35 h => ?_)
  refine v_iload C (pc := 240) (i := 10) dX5_plea_240 rfl ?_
  exact v_eret (pc := 242) E rfl (nar_int _) ⟨_, rfl, h⟩ (by decide) (by decide) dX5_plea_242
def bX5_plea_119 (o : Nat) (Q : hM → Int32 → Prop) (M : hM) (a3 : Int32) (a5 : Int32) (s0 : Option Nat) (s1 : Int32) : Prop :=
  ∃ y10, hC M 5 s0 = some y10 ∧
  wX5_refused M y10 s1 (fun M11 x9 =>
  if (x9 : Int32) = 0 then (
    ∃ x13, gI M11 5 1 (some o) = some x13 ∧
    ∃ x14, gR M11 5 24 (some o) = some x14 ∧
    ∃ x15, aI M11 0 x14 a5 = some x15 ∧
    if (10 : Int32) < (x13 - x15) then (
      if (30 : Int32) < (x13 - x15) then (
        bX5_plea_167 o Q M11 a3 a5 10
      ) else (
        bX5_plea_167 o Q M11 a3 a5 25
      )
    ) else (
      bX5_plea_167 o Q M11 a3 a5 33
    )
  ) else (
    Q M11 0
  ))
set_option maxRecDepth 100000 in
set_option maxHeartbeats 4000000 in
theorem tbX5_plea_119 {κ : hKx} {M0 : hM} {sz : Nat} {o : Nat} {Q : hM → Int32 → Prop} (E : Ce κ RX5 cX5_plea wsX5_plea (some .int) M0 sz (hQi Q) (fun _ _ => False) 0 0) (hR : kR κ = rmX5_plea) (ht : ∀ x ∈ (kc κ).exceptionTable.toList, False)  {M : hM} {a3 : Int32} {a5 : Int32} {s0 : Option Nat} {s1 : Int32}  (h : bX5_plea_119 o Q M a3 a5 s0 s1) : VW κ 0 0 M 119 [some (va_rf (some o)), none, none, some (.int a3), none, some (.int a5), none, none, none, none, none] [.int s1, va_rf s0] := by
  unfold bX5_plea_119 at h
  have F := E.1
  have C := F.1
  obtain ⟨y10, hy10, hh⟩ := h
  skip
  obtain ⟨rfl, fsy10, hfy10⟩ := hC_inv hy10
  have h := hh
  clear hh
  refine v_nV F (pc := 119) (ci := 5) [.int s1] 1 (cX5_refused_met (kl κ) F.2.2.2.1 (kG κ) _ h) hfy10 rfl gX5_plea_X5_refused rfl hdX5_refused rfl rfl rfl (by rw [hR]; exact ⟨Nat.le_of_ble_eq_true rfl, Nat.le_of_ble_eq_true rfl⟩) (by rw [hR]; decide) (Nat.le_of_ble_eq_true rfl) rfl dX5_plea_119 (hk_i fun M11 x9 h => ?_)
  refine v_if_eq C (pc := 122) (tgt := 127) dX5_plea_122 (by decide) (fun c12 => ?_) (fun c12 => ?_)
  · rw [if_pos c12] at h
    refine v_aload_n C (pc := 127) (i := 0) dX5_plea_127 rfl ?_
    obtain ⟨x13, e13, h⟩ := h
    refine v_getI C (pc := 128) (ci := 5) 1 iwX5_plea_X5 rfl (by decide) flX5_plea_135 e13 dX5_plea_128 ?_
    refine v_aload_n C (pc := 131) (i := 0) dX5_plea_131 rfl ?_
    obtain ⟨x14, e14, h⟩ := h
    refine v_getR C (pc := 132) (ci := 5) 24 iwX5_plea_X5 rfl (by decide) flX5_plea_68 e14 dX5_plea_132 ?_
    refine v_iload C (pc := 135) (i := 5) dX5_plea_135 rfl ?_
    obtain ⟨x15, e15, h⟩ := h
    refine v_iald C (pc := 137) e15 dX5_plea_137 ?_
    refine v_isub C (pc := 138) dX5_plea_138 ?_
    refine v_istore C (pc := 139) (i := 8) (lv' := [some (va_rf (some o)), none, none, some (.int a3), none, some (.int a5), none, none, some (.int (x13 - x15)), none, none]) dX5_plea_139 rfl rfl ?_
    refine v_iload C (pc := 141) (i := 8) dX5_plea_141 rfl ?_
    refine v_bipush C (pc := 143) (v := 10) dX5_plea_143 (by decide) ?_
    refine v_icmp_gt C (pc := 145) (tgt := 153) dX5_plea_145 (by decide) (fun c16 => ?_) (fun c16 => ?_)
    · rw [if_pos c16] at h
      refine v_iload C (pc := 153) (i := 8) dX5_plea_153 rfl ?_
      refine v_bipush C (pc := 155) (v := 30) dX5_plea_155 (by decide) ?_
      refine v_icmp_gt C (pc := 157) (tgt := 165) dX5_plea_157 (by decide) (fun c17 => ?_) (fun c17 => ?_)
      · rw [if_pos c17] at h
        refine v_bipush C (pc := 165) (v := 10) dX5_plea_165 (by decide) ?_
        refine v_mask (lv' := [some (va_rf (some o)), none, none, some (.int a3), none, some (.int a5), none, none, none, none, none]) [true, false, false, true, false, true, false, false, false, false, false] rfl rfl ?_
        exact tbX5_plea_167 E hR ht  h
      · rw [if_neg c17] at h
        refine v_bipush C (pc := 160) (v := 25) dX5_plea_160 (by decide) ?_
        refine v_goto C (pc := 162) (tgt := 167) dX5_plea_162 (by decide) ?_
        refine v_mask (lv' := [some (va_rf (some o)), none, none, some (.int a3), none, some (.int a5), none, none, none, none, none]) [true, false, false, true, false, true, false, false, false, false, false] rfl rfl ?_
        exact tbX5_plea_167 E hR ht  h
    · rw [if_neg c16] at h
      refine v_bipush C (pc := 148) (v := 33) dX5_plea_148 (by decide) ?_
      refine v_goto C (pc := 150) (tgt := 167) dX5_plea_150 (by decide) ?_
      refine v_mask (lv' := [some (va_rf (some o)), none, none, some (.int a3), none, some (.int a5), none, none, none, none, none]) [true, false, false, true, false, true, false, false, false, false, false] rfl rfl ?_
      exact tbX5_plea_167 E hR ht  h
  · rw [if_neg c12] at h
    refine v_iconst C (pc := 125) (v := 0) dX5_plea_125 (by decide) ?_
    exact v_eret (pc := 126) E rfl (nar_int _) ⟨_, rfl, h⟩ (by decide) (by decide) dX5_plea_126
def bX5_plea_88 (o : Nat) (Q : hM → Int32 → Prop) (M : hM) (a3 : Int32) (a4 : Int32) (a5 : Int32) (a6 : Int32) (s0 : Int32) : Prop :=
  if (a4 : Int32) = 0 then (
    bX5_plea_119 o Q M a3 a5 (some o) 1
  ) else (
    if (a6 : Int32) = 0 then (
      bX5_plea_119 o Q M a3 a5 (some o) 2
    ) else (
      if (s0 : Int32) = 0 then (
        bX5_plea_119 o Q M a3 a5 (some o) 3
      ) else (
        bX5_plea_119 o Q M a3 a5 (some o) 0
      )
    )
  )
set_option maxRecDepth 100000 in
set_option maxHeartbeats 4000000 in
theorem tbX5_plea_88 {κ : hKx} {M0 : hM} {sz : Nat} {o : Nat} {Q : hM → Int32 → Prop} (E : Ce κ RX5 cX5_plea wsX5_plea (some .int) M0 sz (hQi Q) (fun _ _ => False) 0 0) (hR : kR κ = rmX5_plea) (ht : ∀ x ∈ (kc κ).exceptionTable.toList, False)  {M : hM} {a3 : Int32} {a4 : Int32} {a5 : Int32} {a6 : Int32} {s0 : Int32}  (h : bX5_plea_88 o Q M a3 a4 a5 a6 s0) : VW κ 0 0 M 88 [some (va_rf (some o)), none, none, some (.int a3), some (.int a4), some (.int a5), some (.int a6), none, none, none, none] [.int s0] := by
  unfold bX5_plea_88 at h
  have F := E.1
  have C := F.1
  refine v_istore C (pc := 88) (i := 7) (lv' := [some (va_rf (some o)), none, none, some (.int a3), some (.int a4), some (.int a5), some (.int a6), some (.int s0), none, none, none]) dX5_plea_88 rfl rfl ?_
  refine v_aload_n C (pc := 90) (i := 0) dX5_plea_90 rfl ?_
  refine v_iload C (pc := 91) (i := 4) dX5_plea_91 rfl ?_
  refine v_if_ne C (pc := 93) (tgt := 100) dX5_plea_93 (by decide) (fun c6 => ?_) (fun c6 => ?_)
  · rw [if_neg c6] at h
    refine v_iload C (pc := 100) (i := 6) dX5_plea_100 rfl ?_
    refine v_if_ne C (pc := 102) (tgt := 109) dX5_plea_102 (by decide) (fun c7 => ?_) (fun c7 => ?_)
    · rw [if_neg c7] at h
      refine v_iload C (pc := 109) (i := 7) dX5_plea_109 rfl ?_
      refine v_if_eq C (pc := 111) (tgt := 118) dX5_plea_111 (by decide) (fun c8 => ?_) (fun c8 => ?_)
      · rw [if_pos c8] at h
        refine v_iconst C (pc := 118) (v := 3) dX5_plea_118 (by decide) ?_
        refine v_mask (lv' := [some (va_rf (some o)), none, none, some (.int a3), none, some (.int a5), none, none, none, none, none]) [true, false, false, true, false, true, false, false, false, false, false] rfl rfl ?_
        exact tbX5_plea_119 E hR ht  h
      · rw [if_neg c8] at h
        refine v_iconst C (pc := 114) (v := 0) dX5_plea_114 (by decide) ?_
        refine v_goto C (pc := 115) (tgt := 119) dX5_plea_115 (by decide) ?_
        refine v_mask (lv' := [some (va_rf (some o)), none, none, some (.int a3), none, some (.int a5), none, none, none, none, none]) [true, false, false, true, false, true, false, false, false, false, false] rfl rfl ?_
        exact tbX5_plea_119 E hR ht  h
    · rw [if_pos c7] at h
      refine v_iconst C (pc := 105) (v := 2) dX5_plea_105 (by decide) ?_
      refine v_goto C (pc := 106) (tgt := 119) dX5_plea_106 (by decide) ?_
      refine v_mask (lv' := [some (va_rf (some o)), none, none, some (.int a3), none, some (.int a5), none, none, none, none, none]) [true, false, false, true, false, true, false, false, false, false, false] rfl rfl ?_
      exact tbX5_plea_119 E hR ht  h
  · rw [if_pos c6] at h
    refine v_iconst C (pc := 96) (v := 1) dX5_plea_96 (by decide) ?_
    refine v_goto C (pc := 97) (tgt := 119) dX5_plea_97 (by decide) ?_
    refine v_mask (lv' := [some (va_rf (some o)), none, none, some (.int a3), none, some (.int a5), none, none, none, none, none]) [true, false, false, true, false, true, false, false, false, false, false] rfl rfl ?_
    exact tbX5_plea_119 E hR ht  h
def bX5_plea_87 (o : Nat) (Q : hM → Int32 → Prop) (M : hM) (a3 : Int32) (a4 : Int32) (a5 : Int32) (a6 : Int32) : Prop :=
  bX5_plea_88 o Q M a3 a4 a5 a6 0
set_option maxRecDepth 100000 in
set_option maxHeartbeats 4000000 in
theorem tbX5_plea_87 {κ : hKx} {M0 : hM} {sz : Nat} {o : Nat} {Q : hM → Int32 → Prop} (E : Ce κ RX5 cX5_plea wsX5_plea (some .int) M0 sz (hQi Q) (fun _ _ => False) 0 0) (hR : kR κ = rmX5_plea) (ht : ∀ x ∈ (kc κ).exceptionTable.toList, False)  {M : hM} {a3 : Int32} {a4 : Int32} {a5 : Int32} {a6 : Int32}  (h : bX5_plea_87 o Q M a3 a4 a5 a6) : VW κ 0 0 M 87 [some (va_rf (some o)), none, none, some (.int a3), some (.int a4), some (.int a5), some (.int a6), none, none, none, none] [] := by
  unfold bX5_plea_87 at h
  have F := E.1
  have C := F.1
  refine v_iconst C (pc := 87) (v := 0) dX5_plea_87 (by decide) ?_
  exact tbX5_plea_88 E hR ht  h
def wX5_plea (M : hM) (o : Nat) (a1 : Int32) (a2 : Int32) (a3 : Int32) (Q : hM → Int32 → Prop) : Prop :=
  ∃ y2, hC M 5 (some o) = some y2 ∧
  ∃ x1, fX5_isIn M o a1 a2 = some x1 ∧
  ∃ y4, hC M 5 (some o) = some y4 ∧
  ∃ x3, fX5_areThere M o a3 = some x3 ∧
  if (x1 : Int32) = 0 then (
    bX5_plea_87 o Q M a3 x1 ((8 * a1) + a2) x3
  ) else (
    if (x3 : Int32) = 0 then (
      bX5_plea_87 o Q M a3 x1 ((8 * a1) + a2) x3
    ) else (
      ∃ x37, gR M 5 22 (some o) = some x37 ∧
      ∃ x38, aI M 0 x37 ((8 * a1) + a2) = some x38 ∧
      if (x38 : Int32) = 2 then (
        if (a3 : Int32) = 0 then (
          bX5_plea_87 o Q M a3 x1 ((8 * a1) + a2) x3
        ) else (
          ∃ x41, gR M 5 23 (some o) = some x41 ∧
          ∃ x42, aI M 0 x41 ((8 * a1) + a2) = some x42 ∧
          if ((a3 &&& (x42 ^^^ (-1))) : Int32) = 0 then (
            ∃ y45, hC M 5 (some o) = some y45 ∧
            ∃ x44, fX5_heavy M o a3 = some x44 ∧
            ∃ x46, gR M 5 23 (some o) = some x46 ∧
            ∃ x47, aI M 0 x46 ((8 * a1) + a2) = some x47 ∧
            ∃ y49, hC M 5 (some o) = some y49 ∧
            ∃ x48, fX5_heavy M o x47 = some x48 ∧
            if ((2 * x44) : Int32) < x48 then (
              bX5_plea_87 o Q M a3 x1 ((8 * a1) + a2) x3
            ) else (
              bX5_plea_88 o Q M a3 x1 ((8 * a1) + a2) x3 1
            )
          ) else (
            bX5_plea_87 o Q M a3 x1 ((8 * a1) + a2) x3
          )
        )
      ) else (
        bX5_plea_87 o Q M a3 x1 ((8 * a1) + a2) x3
      )
    )
  )
set_option maxRecDepth 100000 in
set_option maxHeartbeats 4000000 in
theorem cX5_plea_met (l : Launch) (hfl : l.stackTraces = false) (G : hG) (M : hM) {o : Nat} {a1 : Int32} {a2 : Int32} {a3 : Int32} {Q : hM → Int32 → Prop} (h : wX5_plea M o a1 a2 a3 Q) : hEMet l yX5_plea wsX5_plea rmX5_plea [.ref o, .int a1, .int a2, .int a3] G M (hQi Q) (fun _ _ => False) 0 0 := by
  refine he_entry (own := RX5) (cc := cX5_plea) (maxL := 11) (ret := (some .int)) (lv := [some (va_rf (some o)), some (.int a1), some (.int a2), some (.int a3), none, none, none, none, none, none, none]) hfl (by decide) rfl rfl (hcc rfl (hcc rfl (hcc rfl (hcc rfl hc0)))) (Nat.le_of_ble_eq_true rfl) rfl (fun κ sz hG hl hR E ht hn => ?_)
  subst hG; subst hl
  unfold wX5_plea at h
  have F := E.1
  have C := F.1
  refine v_aload_n C (pc := 0) (i := 0) dX5_plea_0 rfl ?_
  refine v_iload_n C (pc := 1) (i := 1) dX5_plea_1 rfl ?_
  refine v_iload_n C (pc := 2) (i := 2) dX5_plea_2 rfl ?_
  obtain ⟨y2, hy2, h⟩ := h
  obtain ⟨fsy2, hfy2⟩ := hC_some hy2
  obtain ⟨x1, e1, h⟩ := h
  refine v_pV C (pc := 3) (ci := 5) [.int a1, .int a2] 2 (cX5_isIn_met (kl κ) (kG κ) _ e1) hfy2 rfl gX5_plea_X5_isIn rfl hdX5_isIn rfl rfl rfl (by rw [hR]; exact ⟨Nat.le_of_ble_eq_true rfl, Nat.le_of_ble_eq_true rfl⟩) (by rw [hR]; decide) (Nat.le_of_ble_eq_true rfl) rfl dX5_plea_3 ?_
  refine v_istore C (pc := 6) (i := 4) (lv' := [some (va_rf (some o)), some (.int a1), some (.int a2), some (.int a3), some (.int x1), none, none, none, none, none, none]) dX5_plea_6 rfl rfl ?_
  refine v_bipush C (pc := 8) (v := 8) dX5_plea_8 (by decide) ?_
  refine v_iload_n C (pc := 10) (i := 1) dX5_plea_10 rfl ?_
  refine v_imul C (pc := 11) dX5_plea_11 ?_
  refine v_iload_n C (pc := 12) (i := 2) dX5_plea_12 rfl ?_
  refine v_iadd C (pc := 13) dX5_plea_13 ?_
  refine v_istore C (pc := 14) (i := 5) (lv' := [some (va_rf (some o)), some (.int a1), some (.int a2), some (.int a3), some (.int x1), some (.int ((8 * a1) + a2)), none, none, none, none, none]) dX5_plea_14 rfl rfl ?_
  refine v_aload_n C (pc := 16) (i := 0) dX5_plea_16 rfl ?_
  refine v_iload_n C (pc := 17) (i := 3) dX5_plea_17 rfl ?_
  obtain ⟨y4, hy4, h⟩ := h
  obtain ⟨fsy4, hfy4⟩ := hC_some hy4
  obtain ⟨x3, e3, h⟩ := h
  refine v_pV C (pc := 18) (ci := 5) [.int a3] 1 (cX5_areThere_met (kl κ) (kG κ) _ e3) hfy4 rfl gX5_plea_X5_areThere rfl hdX5_areThere rfl rfl rfl (by rw [hR]; exact ⟨Nat.le_of_ble_eq_true rfl, Nat.le_of_ble_eq_true rfl⟩) (by rw [hR]; decide) (Nat.le_of_ble_eq_true rfl) rfl dX5_plea_18 ?_
  refine v_istore C (pc := 21) (i := 6) (lv' := [some (va_rf (some o)), some (.int a1), some (.int a2), some (.int a3), some (.int x1), some (.int ((8 * a1) + a2)), some (.int x3), none, none, none, none]) dX5_plea_21 rfl rfl ?_
  refine v_iload C (pc := 23) (i := 4) dX5_plea_23 rfl ?_
  refine v_if_eq C (pc := 25) (tgt := 87) dX5_plea_25 (by decide) (fun c5 => ?_) (fun c5 => ?_)
  · rw [if_pos c5] at h
    refine v_mask (lv' := [some (va_rf (some o)), none, none, some (.int a3), some (.int x1), some (.int ((8 * a1) + a2)), some (.int x3), none, none, none, none]) [true, false, false, true, true, true, true, false, false, false, false] rfl rfl ?_
    exact tbX5_plea_87 E hR ht  h
  · rw [if_neg c5] at h
    refine v_iload C (pc := 28) (i := 6) dX5_plea_28 rfl ?_
    refine v_if_eq C (pc := 30) (tgt := 87) dX5_plea_30 (by decide) (fun c36 => ?_) (fun c36 => ?_)
    · rw [if_pos c36] at h
      refine v_mask (lv' := [some (va_rf (some o)), none, none, some (.int a3), some (.int x1), some (.int ((8 * a1) + a2)), some (.int x3), none, none, none, none]) [true, false, false, true, true, true, true, false, false, false, false] rfl rfl ?_
      exact tbX5_plea_87 E hR ht  h
    · rw [if_neg c36] at h
      refine v_aload_n C (pc := 33) (i := 0) dX5_plea_33 rfl ?_
      obtain ⟨x37, e37, h⟩ := h
      refine v_getR C (pc := 34) (ci := 5) 22 iwX5_plea_X5 rfl (by decide) flX5_plea_62 e37 dX5_plea_34 ?_
      refine v_iload C (pc := 37) (i := 5) dX5_plea_37 rfl ?_
      obtain ⟨x38, e38, h⟩ := h
      refine v_iald C (pc := 39) e38 dX5_plea_39 ?_
      refine v_iconst C (pc := 40) (v := 2) dX5_plea_40 (by decide) ?_
      refine v_icmp_ne C (pc := 41) (tgt := 87) dX5_plea_41 (by decide) (fun c39 => ?_) (fun c39 => ?_)
      · rw [if_neg c39] at h
        refine v_mask (lv' := [some (va_rf (some o)), none, none, some (.int a3), some (.int x1), some (.int ((8 * a1) + a2)), some (.int x3), none, none, none, none]) [true, false, false, true, true, true, true, false, false, false, false] rfl rfl ?_
        exact tbX5_plea_87 E hR ht  h
      · rw [if_pos c39] at h
        refine v_iload_n C (pc := 44) (i := 3) dX5_plea_44 rfl ?_
        refine v_if_eq C (pc := 45) (tgt := 87) dX5_plea_45 (by decide) (fun c40 => ?_) (fun c40 => ?_)
        · rw [if_pos c40] at h
          refine v_mask (lv' := [some (va_rf (some o)), none, none, some (.int a3), some (.int x1), some (.int ((8 * a1) + a2)), some (.int x3), none, none, none, none]) [true, false, false, true, true, true, true, false, false, false, false] rfl rfl ?_
          exact tbX5_plea_87 E hR ht  h
        · rw [if_neg c40] at h
          refine v_iload_n C (pc := 48) (i := 3) dX5_plea_48 rfl ?_
          refine v_aload_n C (pc := 49) (i := 0) dX5_plea_49 rfl ?_
          obtain ⟨x41, e41, h⟩ := h
          refine v_getR C (pc := 50) (ci := 5) 23 iwX5_plea_X5 rfl (by decide) flX5_plea_65 e41 dX5_plea_50 ?_
          refine v_iload C (pc := 53) (i := 5) dX5_plea_53 rfl ?_
          obtain ⟨x42, e42, h⟩ := h
          refine v_iald C (pc := 55) e42 dX5_plea_55 ?_
          refine v_iconst C (pc := 56) (v := (-1)) dX5_plea_56 (by decide) ?_
          refine v_ixor C (pc := 57) dX5_plea_57 ?_
          refine v_iand C (pc := 58) dX5_plea_58 ?_
          refine v_if_ne C (pc := 59) (tgt := 87) dX5_plea_59 (by decide) (fun c43 => ?_) (fun c43 => ?_)
          · rw [if_neg c43] at h
            refine v_mask (lv' := [some (va_rf (some o)), none, none, some (.int a3), some (.int x1), some (.int ((8 * a1) + a2)), some (.int x3), none, none, none, none]) [true, false, false, true, true, true, true, false, false, false, false] rfl rfl ?_
            exact tbX5_plea_87 E hR ht  h
          · rw [if_pos c43] at h
            refine v_iconst C (pc := 62) (v := 2) dX5_plea_62 (by decide) ?_
            refine v_aload_n C (pc := 63) (i := 0) dX5_plea_63 rfl ?_
            refine v_iload_n C (pc := 64) (i := 3) dX5_plea_64 rfl ?_
            obtain ⟨y45, hy45, h⟩ := h
            obtain ⟨fsy45, hfy45⟩ := hC_some hy45
            obtain ⟨x44, e44, h⟩ := h
            refine v_pV C (pc := 65) (ci := 5) [.int a3] 1 (cX5_heavy_met (kl κ) (kG κ) _ e44) hfy45 rfl gX5_plea_X5_heavy rfl hdX5_heavy rfl rfl rfl (by rw [hR]; exact ⟨Nat.le_of_ble_eq_true rfl, Nat.le_of_ble_eq_true rfl⟩) (by rw [hR]; decide) (Nat.le_of_ble_eq_true rfl) rfl dX5_plea_65 ?_
            refine v_imul C (pc := 68) dX5_plea_68 ?_
            refine v_aload_n C (pc := 69) (i := 0) dX5_plea_69 rfl ?_
            refine v_aload_n C (pc := 70) (i := 0) dX5_plea_70 rfl ?_
            obtain ⟨x46, e46, h⟩ := h
            refine v_getR C (pc := 71) (ci := 5) 23 iwX5_plea_X5 rfl (by decide) flX5_plea_65 e46 dX5_plea_71 ?_
            refine v_iload C (pc := 74) (i := 5) dX5_plea_74 rfl ?_
            obtain ⟨x47, e47, h⟩ := h
            refine v_iald C (pc := 76) e47 dX5_plea_76 ?_
            obtain ⟨y49, hy49, h⟩ := h
            obtain ⟨fsy49, hfy49⟩ := hC_some hy49
            obtain ⟨x48, e48, h⟩ := h
            refine v_pV C (pc := 77) (ci := 5) [.int x47] 1 (cX5_heavy_met (kl κ) (kG κ) _ e48) hfy49 rfl gX5_plea_X5_heavy rfl hdX5_heavy rfl rfl rfl (by rw [hR]; exact ⟨Nat.le_of_ble_eq_true rfl, Nat.le_of_ble_eq_true rfl⟩) (by rw [hR]; decide) (Nat.le_of_ble_eq_true rfl) rfl dX5_plea_77 ?_
            refine v_icmp_lt C (pc := 80) (tgt := 87) dX5_plea_80 (by decide) (fun c50 => ?_) (fun c50 => ?_)
            · rw [if_pos c50] at h
              refine v_mask (lv' := [some (va_rf (some o)), none, none, some (.int a3), some (.int x1), some (.int ((8 * a1) + a2)), some (.int x3), none, none, none, none]) [true, false, false, true, true, true, true, false, false, false, false] rfl rfl ?_
              exact tbX5_plea_87 E hR ht  h
            · rw [if_neg c50] at h
              refine v_iconst C (pc := 83) (v := 1) dX5_plea_83 (by decide) ?_
              refine v_goto C (pc := 84) (tgt := 88) dX5_plea_84 (by decide) ?_
              refine v_mask (lv' := [some (va_rf (some o)), none, none, some (.int a3), some (.int x1), some (.int ((8 * a1) + a2)), some (.int x3), none, none, none, none]) [true, false, false, true, true, true, true, false, false, false, false] rfl rfl ?_
              exact tbX5_plea_88 E hR ht  h
/-! X5_arrest -/
abbrev rmX5_arrest : Room := { frames := 2, cells := 0, slots := 0, locals := 44 }
theorem iwX5_arrest_X5 : ∀ w ∈ u_ws RX5 TX5 38, w ∈ wsX5_arrest := fun _ h => List.mem_cons_of_mem _ (List.mem_append_right _ (h))
theorem flX5_arrest_62 : Cond.fieldLink RX5 62 "ChargehouseModel" "state" "[I" ∈ wsX5_arrest := List.mem_cons_of_mem _ (List.mem_append_left _ (List.mem_append_left _ (List.mem_of_getElem? (i := 0) rfl)))
theorem flX5_arrest_74 : Cond.fieldLink RX5 74 "ChargehouseModel" "isHeld" "[Z" ∈ wsX5_arrest := List.mem_cons_of_mem _ (List.mem_append_left _ (List.mem_append_left _ (List.mem_of_getElem? (i := 1) rfl)))
def bX5_arrest_59 (o : Nat) (Q : hM → Int32 → Prop) (M : hM) (a4 : Int32) (s0 : Option Nat) (s1 : Int32) : Prop :=
  ∃ y8, hC M 5 s0 = some y8 ∧
  wX5_refused M y8 s1 (fun M9 x7 =>
  if (x7 : Int32) = 0 then (
    ∃ x11, gR M9 5 26 (some o) = some x11 ∧
    ∃ M12, sZ M9 1 x11 a4 1 = some M12 ∧
    ∃ y14, hC M12 5 (some o) = some y14 ∧
    ∃ x13, fX5_leftOf M12 o a4 = some x13 ∧
    Q M12 x13
  ) else (
    Q M9 0
  ))
set_option maxRecDepth 100000 in
set_option maxHeartbeats 4000000 in
theorem tbX5_arrest_59 {κ : hKx} {M0 : hM} {sz : Nat} {o : Nat} {Q : hM → Int32 → Prop} (E : Ce κ RX5 cX5_arrest wsX5_arrest (some .int) M0 sz (hQi Q) (fun _ _ => False) 0 0) (hR : kR κ = rmX5_arrest) (ht : ∀ x ∈ (kc κ).exceptionTable.toList, False)  {M : hM} {a4 : Int32} {s0 : Option Nat} {s1 : Int32}  (h : bX5_arrest_59 o Q M a4 s0 s1) : VW κ 0 0 M 59 [some (va_rf (some o)), none, none, none, some (.int a4)] [.int s1, va_rf s0] := by
  unfold bX5_arrest_59 at h
  have F := E.1
  have C := F.1
  obtain ⟨y8, hy8, hh⟩ := h
  skip
  obtain ⟨rfl, fsy8, hfy8⟩ := hC_inv hy8
  have h := hh
  clear hh
  refine v_nV F (pc := 59) (ci := 5) [.int s1] 1 (cX5_refused_met (kl κ) F.2.2.2.1 (kG κ) _ h) hfy8 rfl gX5_arrest_X5_refused rfl hdX5_refused rfl rfl rfl (by rw [hR]; exact ⟨Nat.le_of_ble_eq_true rfl, Nat.le_of_ble_eq_true rfl⟩) (by rw [hR]; decide) (Nat.le_of_ble_eq_true rfl) rfl dX5_arrest_59 (hk_i fun M9 x7 h => ?_)
  refine v_if_eq C (pc := 62) (tgt := 67) dX5_arrest_62 (by decide) (fun c10 => ?_) (fun c10 => ?_)
  · rw [if_pos c10] at h
    refine v_aload_n C (pc := 67) (i := 0) dX5_arrest_67 rfl ?_
    obtain ⟨x11, e11, h⟩ := h
    refine v_getR C (pc := 68) (ci := 5) 26 iwX5_arrest_X5 rfl (by decide) flX5_arrest_74 e11 dX5_arrest_68 ?_
    refine v_iload C (pc := 71) (i := 4) dX5_arrest_71 rfl ?_
    refine v_iconst C (pc := 73) (v := 1) dX5_arrest_73 (by decide) ?_
    obtain ⟨M12, e12, h⟩ := h
    refine v_zast F (pc := 74) e12 dX5_arrest_74 ?_
    refine v_aload_n C (pc := 75) (i := 0) dX5_arrest_75 rfl ?_
    refine v_iload C (pc := 76) (i := 4) dX5_arrest_76 rfl ?_
    obtain ⟨y14, hy14, h⟩ := h
    obtain ⟨fsy14, hfy14⟩ := hC_some hy14
    obtain ⟨x13, e13, h⟩ := h
    refine v_pV C (pc := 78) (ci := 5) [.int a4] 1 (cX5_leftOf_met (kl κ) (kG κ) _ e13) hfy14 rfl gX5_arrest_X5_leftOf rfl hdX5_leftOf rfl rfl rfl (by rw [hR]; exact ⟨Nat.le_of_ble_eq_true rfl, Nat.le_of_ble_eq_true rfl⟩) (by rw [hR]; decide) (Nat.le_of_ble_eq_true rfl) rfl dX5_arrest_78 ?_
    exact v_eret (pc := 81) E rfl (nar_int _) ⟨_, rfl, h⟩ (by decide) (by decide) dX5_arrest_81
  · rw [if_neg c10] at h
    refine v_iconst C (pc := 65) (v := 0) dX5_arrest_65 (by decide) ?_
    exact v_eret (pc := 66) E rfl (nar_int _) ⟨_, rfl, h⟩ (by decide) (by decide) dX5_arrest_66
def bX5_arrest_54 (o : Nat) (Q : hM → Int32 → Prop) (M : hM) (a4 : Int32) (s0 : Option Nat) : Prop :=
  bX5_arrest_59 o Q M a4 s0 2
set_option maxRecDepth 100000 in
set_option maxHeartbeats 4000000 in
theorem tbX5_arrest_54 {κ : hKx} {M0 : hM} {sz : Nat} {o : Nat} {Q : hM → Int32 → Prop} (E : Ce κ RX5 cX5_arrest wsX5_arrest (some .int) M0 sz (hQi Q) (fun _ _ => False) 0 0) (hR : kR κ = rmX5_arrest) (ht : ∀ x ∈ (kc κ).exceptionTable.toList, False)  {M : hM} {a4 : Int32} {s0 : Option Nat}  (h : bX5_arrest_54 o Q M a4 s0) : VW κ 0 0 M 54 [some (va_rf (some o)), none, none, none, some (.int a4)] [va_rf s0] := by
  unfold bX5_arrest_54 at h
  have F := E.1
  have C := F.1
  refine v_iconst C (pc := 54) (v := 2) dX5_arrest_54 (by decide) ?_
  refine v_goto C (pc := 55) (tgt := 59) dX5_arrest_55 (by decide) ?_
  exact tbX5_arrest_59 E hR ht  h
def wX5_arrest (M : hM) (o : Nat) (a1 : Int32) (a2 : Int32) (Q : hM → Int32 → Prop) : Prop :=
  ∃ y2, hC M 5 (some o) = some y2 ∧
  ∃ x1, fX5_isIn M o a1 a2 = some x1 ∧
  if (x1 : Int32) = 0 then (
    bX5_arrest_59 o Q M ((8 * a1) + a2) (some o) 1
  ) else (
    ∃ x4, gR M 5 22 (some o) = some x4 ∧
    ∃ x5, aI M 0 x4 ((8 * a1) + a2) = some x5 ∧
    if (x5 : Int32) = 1 then (
      bX5_arrest_54 o Q M ((8 * a1) + a2) (some o)
    ) else (
      ∃ x15, gR M 5 26 (some o) = some x15 ∧
      ∃ x16, aI M 1 x15 ((8 * a1) + a2) = some x16 ∧
      if (x16 : Int32) = 0 then (
        ∃ y19, hC M 5 (some o) = some y19 ∧
        ∃ x18, fX5_leftOf M o ((8 * a1) + a2) = some x18 ∧
        if 0 < (x18 : Int32) then (
          bX5_arrest_59 o Q M ((8 * a1) + a2) (some o) 0
        ) else (
          bX5_arrest_54 o Q M ((8 * a1) + a2) (some o)
        )
      ) else (
        bX5_arrest_54 o Q M ((8 * a1) + a2) (some o)
      )
    )
  )
set_option maxRecDepth 100000 in
set_option maxHeartbeats 4000000 in
theorem cX5_arrest_met (l : Launch) (hfl : l.stackTraces = false) (G : hG) (M : hM) {o : Nat} {a1 : Int32} {a2 : Int32} {Q : hM → Int32 → Prop} (h : wX5_arrest M o a1 a2 Q) : hEMet l yX5_arrest wsX5_arrest rmX5_arrest [.ref o, .int a1, .int a2] G M (hQi Q) (fun _ _ => False) 0 0 := by
  refine he_entry (own := RX5) (cc := cX5_arrest) (maxL := 5) (ret := (some .int)) (lv := [some (va_rf (some o)), some (.int a1), some (.int a2), none, none]) hfl (by decide) rfl rfl (hcc rfl (hcc rfl (hcc rfl hc0))) (Nat.le_of_ble_eq_true rfl) rfl (fun κ sz hG hl hR E ht hn => ?_)
  subst hG; subst hl
  unfold wX5_arrest at h
  have F := E.1
  have C := F.1
  refine v_aload_n C (pc := 0) (i := 0) dX5_arrest_0 rfl ?_
  refine v_iload_n C (pc := 1) (i := 1) dX5_arrest_1 rfl ?_
  refine v_iload_n C (pc := 2) (i := 2) dX5_arrest_2 rfl ?_
  obtain ⟨y2, hy2, h⟩ := h
  obtain ⟨fsy2, hfy2⟩ := hC_some hy2
  obtain ⟨x1, e1, h⟩ := h
  refine v_pV C (pc := 3) (ci := 5) [.int a1, .int a2] 2 (cX5_isIn_met (kl κ) (kG κ) _ e1) hfy2 rfl gX5_arrest_X5_isIn rfl hdX5_isIn rfl rfl rfl (by rw [hR]; exact ⟨Nat.le_of_ble_eq_true rfl, Nat.le_of_ble_eq_true rfl⟩) (by rw [hR]; decide) (Nat.le_of_ble_eq_true rfl) rfl dX5_arrest_3 ?_
  refine v_istore_n C (pc := 6) (i := 3) (lv' := [some (va_rf (some o)), some (.int a1), some (.int a2), some (.int x1), none]) dX5_arrest_6 rfl rfl ?_
  refine v_bipush C (pc := 7) (v := 8) dX5_arrest_7 (by decide) ?_
  refine v_iload_n C (pc := 9) (i := 1) dX5_arrest_9 rfl ?_
  refine v_imul C (pc := 10) dX5_arrest_10 ?_
  refine v_iload_n C (pc := 11) (i := 2) dX5_arrest_11 rfl ?_
  refine v_iadd C (pc := 12) dX5_arrest_12 ?_
  refine v_istore C (pc := 13) (i := 4) (lv' := [some (va_rf (some o)), some (.int a1), some (.int a2), some (.int x1), some (.int ((8 * a1) + a2))]) dX5_arrest_13 rfl rfl ?_
  refine v_aload_n C (pc := 15) (i := 0) dX5_arrest_15 rfl ?_
  refine v_iload_n C (pc := 16) (i := 3) dX5_arrest_16 rfl ?_
  refine v_if_ne C (pc := 17) (tgt := 24) dX5_arrest_17 (by decide) (fun c3 => ?_) (fun c3 => ?_)
  · rw [if_neg c3] at h
    refine v_aload_n C (pc := 24) (i := 0) dX5_arrest_24 rfl ?_
    obtain ⟨x4, e4, h⟩ := h
    refine v_getR C (pc := 25) (ci := 5) 22 iwX5_arrest_X5 rfl (by decide) flX5_arrest_62 e4 dX5_arrest_25 ?_
    refine v_iload C (pc := 28) (i := 4) dX5_arrest_28 rfl ?_
    obtain ⟨x5, e5, h⟩ := h
    refine v_iald C (pc := 30) e5 dX5_arrest_30 ?_
    refine v_iconst C (pc := 31) (v := 1) dX5_arrest_31 (by decide) ?_
    refine v_icmp_eq C (pc := 32) (tgt := 54) dX5_arrest_32 (by decide) (fun c6 => ?_) (fun c6 => ?_)
    · rw [if_pos c6] at h
      refine v_mask (lv' := [some (va_rf (some o)), none, none, none, some (.int ((8 * a1) + a2))]) [true, false, false, false, true] rfl rfl ?_
      exact tbX5_arrest_54 E hR ht  h
    · rw [if_neg c6] at h
      refine v_aload_n C (pc := 35) (i := 0) dX5_arrest_35 rfl ?_
      obtain ⟨x15, e15, h⟩ := h
      refine v_getR C (pc := 36) (ci := 5) 26 iwX5_arrest_X5 rfl (by decide) flX5_arrest_74 e15 dX5_arrest_36 ?_
      refine v_iload C (pc := 39) (i := 4) dX5_arrest_39 rfl ?_
      obtain ⟨x16, e16, h⟩ := h
      refine v_zald C (pc := 41) e16 dX5_arrest_41 ?_
      refine v_if_ne C (pc := 42) (tgt := 54) dX5_arrest_42 (by decide) (fun c17 => ?_) (fun c17 => ?_)
      · rw [if_neg c17] at h
        refine v_mask (lv' := [some (va_rf (some o)), none, none, none, some (.int ((8 * a1) + a2))]) [true, false, false, false, true] rfl rfl ?_
        exact tbX5_arrest_54 E hR ht  h
      · rw [if_pos c17] at h
        refine v_aload_n C (pc := 45) (i := 0) dX5_arrest_45 rfl ?_
        refine v_iload C (pc := 46) (i := 4) dX5_arrest_46 rfl ?_
        obtain ⟨y19, hy19, h⟩ := h
        obtain ⟨fsy19, hfy19⟩ := hC_some hy19
        obtain ⟨x18, e18, h⟩ := h
        refine v_pV C (pc := 48) (ci := 5) [.int ((8 * a1) + a2)] 1 (cX5_leftOf_met (kl κ) (kG κ) _ e18) hfy19 rfl gX5_arrest_X5_leftOf rfl hdX5_leftOf rfl rfl rfl (by rw [hR]; exact ⟨Nat.le_of_ble_eq_true rfl, Nat.le_of_ble_eq_true rfl⟩) (by rw [hR]; decide) (Nat.le_of_ble_eq_true rfl) rfl dX5_arrest_48 ?_
        refine v_if_gt C (pc := 51) (tgt := 58) dX5_arrest_51 (by decide) (fun c20 => ?_) (fun c20 => ?_)
        · rw [if_pos c20] at h
          refine v_iconst C (pc := 58) (v := 0) dX5_arrest_58 (by decide) ?_
          refine v_mask (lv' := [some (va_rf (some o)), none, none, none, some (.int ((8 * a1) + a2))]) [true, false, false, false, true] rfl rfl ?_
          exact tbX5_arrest_59 E hR ht  h
        · rw [if_neg c20] at h
          refine v_mask (lv' := [some (va_rf (some o)), none, none, none, some (.int ((8 * a1) + a2))]) [true, false, false, false, true] rfl rfl ?_
          exact tbX5_arrest_54 E hR ht  h
  · rw [if_pos c3] at h
    refine v_iconst C (pc := 20) (v := 1) dX5_arrest_20 (by decide) ?_
    refine v_goto C (pc := 21) (tgt := 59) dX5_arrest_21 (by decide) ?_
    refine v_mask (lv' := [some (va_rf (some o)), none, none, none, some (.int ((8 * a1) + a2))]) [true, false, false, false, true] rfl rfl ?_
    exact tbX5_arrest_59 E hR ht  h
/-! X5_extend -/
abbrev rmX5_extend : Room := { frames := 2, cells := 0, slots := 0, locals := 44 }
theorem iwX5_extend_X5 : ∀ w ∈ u_ws RX5 TX5 38, w ∈ wsX5_extend := fun _ h => List.mem_cons_of_mem _ (List.mem_append_right _ (h))
theorem flX5_extend_62 : Cond.fieldLink RX5 62 "ChargehouseModel" "state" "[I" ∈ wsX5_extend := List.mem_cons_of_mem _ (List.mem_append_left _ (List.mem_of_getElem? (i := 0) rfl))
theorem flX5_extend_83 : Cond.fieldLink RX5 83 "ChargehouseModel" "ceiling" "[I" ∈ wsX5_extend := List.mem_cons_of_mem _ (List.mem_append_left _ (List.mem_of_getElem? (i := 2) rfl))
theorem flX5_extend_86 : Cond.fieldLink RX5 86 "ChargehouseModel" "ranks" "[I" ∈ wsX5_extend := List.mem_cons_of_mem _ (List.mem_append_left _ (List.mem_of_getElem? (i := 1) rfl))
def bX5_extend_72 (o : Nat) (Q : hM → Int32 → Prop) (M : hM) (a3 : Int32) (a5 : Int32) (s0 : Option Nat) (s1 : Int32) : Prop :=
  ∃ y10, hC M 5 s0 = some y10 ∧
  wX5_refused M y10 s1 (fun M11 x9 =>
  if (x9 : Int32) = 0 then (
    ∃ x13, gR M11 5 30 (some o) = some x13 ∧
    ∃ x14, aI M11 0 x13 a5 = some x14 ∧
    ∃ M15, sI M11 0 x13 a5 (x14 ||| (1 <<< (a3 &&& 31))) = some M15 ∧
    ∃ x16, gR M15 5 29 (some o) = some x16 ∧
    ∃ x17, aI M15 0 x16 a5 = some x17 ∧
    ∃ M18, sI M15 0 x16 a5 (x17 + (2 * a3)) = some M18 ∧
    ∃ x19, gR M18 5 29 (some o) = some x19 ∧
    ∃ x20, aI M18 0 x19 a5 = some x20 ∧
    Q M18 x20
  ) else (
    Q M11 0
  ))
set_option maxRecDepth 100000 in
set_option maxHeartbeats 4000000 in
theorem tbX5_extend_72 {κ : hKx} {M0 : hM} {sz : Nat} {o : Nat} {Q : hM → Int32 → Prop} (E : Ce κ RX5 cX5_extend wsX5_extend (some .int) M0 sz (hQi Q) (fun _ _ => False) 0 0) (hR : kR κ = rmX5_extend) (ht : ∀ x ∈ (kc κ).exceptionTable.toList, False)  {M : hM} {a3 : Int32} {a5 : Int32} {s0 : Option Nat} {s1 : Int32}  (h : bX5_extend_72 o Q M a3 a5 s0 s1) : VW κ 0 0 M 72 [some (va_rf (some o)), none, none, some (.int a3), none, some (.int a5), none] [.int s1, va_rf s0] := by
  unfold bX5_extend_72 at h
  have F := E.1
  have C := F.1
  obtain ⟨y10, hy10, hh⟩ := h
  skip
  obtain ⟨rfl, fsy10, hfy10⟩ := hC_inv hy10
  have h := hh
  clear hh
  refine v_nV F (pc := 72) (ci := 5) [.int s1] 1 (cX5_refused_met (kl κ) F.2.2.2.1 (kG κ) _ h) hfy10 rfl gX5_extend_X5_refused rfl hdX5_refused rfl rfl rfl (by rw [hR]; exact ⟨Nat.le_of_ble_eq_true rfl, Nat.le_of_ble_eq_true rfl⟩) (by rw [hR]; decide) (Nat.le_of_ble_eq_true rfl) rfl dX5_extend_72 (hk_i fun M11 x9 h => ?_)
  refine v_if_eq C (pc := 75) (tgt := 80) dX5_extend_75 (by decide) (fun c12 => ?_) (fun c12 => ?_)
  · rw [if_pos c12] at h
    refine v_aload_n C (pc := 80) (i := 0) dX5_extend_80 rfl ?_
    obtain ⟨x13, e13, h⟩ := h
    refine v_getR C (pc := 81) (ci := 5) 30 iwX5_extend_X5 rfl (by decide) flX5_extend_86 e13 dX5_extend_81 ?_
    refine v_iload C (pc := 84) (i := 5) dX5_extend_84 rfl ?_
    refine v_dup2 C (pc := 86) dX5_extend_86 (rfl) (rf_cat _) ?_
    obtain ⟨x14, e14, h⟩ := h
    refine v_iald C (pc := 87) e14 dX5_extend_87 ?_
    refine v_iconst C (pc := 88) (v := 1) dX5_extend_88 (by decide) ?_
    refine v_iload_n C (pc := 89) (i := 3) dX5_extend_89 rfl ?_
    refine v_ishl C (pc := 90) dX5_extend_90 ?_
    refine v_ior C (pc := 91) dX5_extend_91 ?_
    obtain ⟨M15, e15, h⟩ := h
    refine v_iast F (pc := 92) e15 dX5_extend_92 ?_
    refine v_aload_n C (pc := 93) (i := 0) dX5_extend_93 rfl ?_
    obtain ⟨x16, e16, h⟩ := h
    refine v_getR C (pc := 94) (ci := 5) 29 iwX5_extend_X5 rfl (by decide) flX5_extend_83 e16 dX5_extend_94 ?_
    refine v_iload C (pc := 97) (i := 5) dX5_extend_97 rfl ?_
    refine v_dup2 C (pc := 99) dX5_extend_99 (rfl) (rf_cat _) ?_
    obtain ⟨x17, e17, h⟩ := h
    refine v_iald C (pc := 100) e17 dX5_extend_100 ?_
    refine v_iconst C (pc := 101) (v := 2) dX5_extend_101 (by decide) ?_
    refine v_iload_n C (pc := 102) (i := 3) dX5_extend_102 rfl ?_
    refine v_imul C (pc := 103) dX5_extend_103 ?_
    refine v_iadd C (pc := 104) dX5_extend_104 ?_
    obtain ⟨M18, e18, h⟩ := h
    refine v_iast F (pc := 105) e18 dX5_extend_105 ?_
    refine v_aload_n C (pc := 106) (i := 0) dX5_extend_106 rfl ?_
    obtain ⟨x19, e19, h⟩ := h
    refine v_getR C (pc := 107) (ci := 5) 29 iwX5_extend_X5 rfl (by decide) flX5_extend_83 e19 dX5_extend_107 ?_
    refine v_iload C (pc := 110) (i := 5) dX5_extend_110 rfl ?_
    obtain ⟨x20, e20, h⟩ := h
    refine v_iald C (pc := 112) e20 dX5_extend_112 ?_
    exact v_eret (pc := 113) E rfl (nar_int _) ⟨_, rfl, h⟩ (by decide) (by decide) dX5_extend_113
  · rw [if_neg c12] at h
    refine v_iconst C (pc := 78) (v := 0) dX5_extend_78 (by decide) ?_
    exact v_eret (pc := 79) E rfl (nar_int _) ⟨_, rfl, h⟩ (by decide) (by decide) dX5_extend_79
def bX5_extend_67 (o : Nat) (Q : hM → Int32 → Prop) (M : hM) (a3 : Int32) (a5 : Int32) (s0 : Option Nat) : Prop :=
  bX5_extend_72 o Q M a3 a5 s0 3
set_option maxRecDepth 100000 in
set_option maxHeartbeats 4000000 in
theorem tbX5_extend_67 {κ : hKx} {M0 : hM} {sz : Nat} {o : Nat} {Q : hM → Int32 → Prop} (E : Ce κ RX5 cX5_extend wsX5_extend (some .int) M0 sz (hQi Q) (fun _ _ => False) 0 0) (hR : kR κ = rmX5_extend) (ht : ∀ x ∈ (kc κ).exceptionTable.toList, False)  {M : hM} {a3 : Int32} {a5 : Int32} {s0 : Option Nat}  (h : bX5_extend_67 o Q M a3 a5 s0) : VW κ 0 0 M 67 [some (va_rf (some o)), none, none, some (.int a3), none, some (.int a5), none] [va_rf s0] := by
  unfold bX5_extend_67 at h
  have F := E.1
  have C := F.1
  refine v_iconst C (pc := 67) (v := 3) dX5_extend_67 (by decide) ?_
  refine v_goto C (pc := 68) (tgt := 72) dX5_extend_68 (by decide) ?_
  exact tbX5_extend_72 E hR ht  h
def wX5_extend (M : hM) (o : Nat) (a1 : Int32) (a2 : Int32) (a3 : Int32) (Q : hM → Int32 → Prop) : Prop :=
  ∃ y2, hC M 5 (some o) = some y2 ∧
  ∃ x1, fX5_isIn M o a1 a2 = some x1 ∧
  ∃ x3, fX5_in a3 1 2 = some x3 ∧
  if (x1 : Int32) = 0 then (
    bX5_extend_72 o Q M a3 ((8 * a1) + a2) (some o) 1
  ) else (
    if (x3 : Int32) = 0 then (
      bX5_extend_72 o Q M a3 ((8 * a1) + a2) (some o) 2
    ) else (
      ∃ x6, gR M 5 22 (some o) = some x6 ∧
      ∃ x7, aI M 0 x6 ((8 * a1) + a2) = some x7 ∧
      if (x7 : Int32) = 0 then (
        ∃ x21, gR M 5 30 (some o) = some x21 ∧
        ∃ x22, aI M 0 x21 ((8 * a1) + a2) = some x22 ∧
        ∃ x23, fX5_has x22 a3 = some x23 ∧
        if (x23 : Int32) = 0 then (
          bX5_extend_72 o Q M a3 ((8 * a1) + a2) (some o) 0
        ) else (
          bX5_extend_67 o Q M a3 ((8 * a1) + a2) (some o)
        )
      ) else (
        bX5_extend_67 o Q M a3 ((8 * a1) + a2) (some o)
      )
    )
  )
set_option maxRecDepth 100000 in
set_option maxHeartbeats 4000000 in
theorem cX5_extend_met (l : Launch) (hfl : l.stackTraces = false) (G : hG) (M : hM) {o : Nat} {a1 : Int32} {a2 : Int32} {a3 : Int32} {Q : hM → Int32 → Prop} (h : wX5_extend M o a1 a2 a3 Q) : hEMet l yX5_extend wsX5_extend rmX5_extend [.ref o, .int a1, .int a2, .int a3] G M (hQi Q) (fun _ _ => False) 0 0 := by
  refine he_entry (own := RX5) (cc := cX5_extend) (maxL := 7) (ret := (some .int)) (lv := [some (va_rf (some o)), some (.int a1), some (.int a2), some (.int a3), none, none, none]) hfl (by decide) rfl rfl (hcc rfl (hcc rfl (hcc rfl (hcc rfl hc0)))) (Nat.le_of_ble_eq_true rfl) rfl (fun κ sz hG hl hR E ht hn => ?_)
  subst hG; subst hl
  unfold wX5_extend at h
  have F := E.1
  have C := F.1
  refine v_aload_n C (pc := 0) (i := 0) dX5_extend_0 rfl ?_
  refine v_iload_n C (pc := 1) (i := 1) dX5_extend_1 rfl ?_
  refine v_iload_n C (pc := 2) (i := 2) dX5_extend_2 rfl ?_
  obtain ⟨y2, hy2, h⟩ := h
  obtain ⟨fsy2, hfy2⟩ := hC_some hy2
  obtain ⟨x1, e1, h⟩ := h
  refine v_pV C (pc := 3) (ci := 5) [.int a1, .int a2] 2 (cX5_isIn_met (kl κ) (kG κ) _ e1) hfy2 rfl gX5_extend_X5_isIn rfl hdX5_isIn rfl rfl rfl (by rw [hR]; exact ⟨Nat.le_of_ble_eq_true rfl, Nat.le_of_ble_eq_true rfl⟩) (by rw [hR]; decide) (Nat.le_of_ble_eq_true rfl) rfl dX5_extend_3 ?_
  refine v_istore C (pc := 6) (i := 4) (lv' := [some (va_rf (some o)), some (.int a1), some (.int a2), some (.int a3), some (.int x1), none, none]) dX5_extend_6 rfl rfl ?_
  refine v_bipush C (pc := 8) (v := 8) dX5_extend_8 (by decide) ?_
  refine v_iload_n C (pc := 10) (i := 1) dX5_extend_10 rfl ?_
  refine v_imul C (pc := 11) dX5_extend_11 ?_
  refine v_iload_n C (pc := 12) (i := 2) dX5_extend_12 rfl ?_
  refine v_iadd C (pc := 13) dX5_extend_13 ?_
  refine v_istore C (pc := 14) (i := 5) (lv' := [some (va_rf (some o)), some (.int a1), some (.int a2), some (.int a3), some (.int x1), some (.int ((8 * a1) + a2)), none]) dX5_extend_14 rfl rfl ?_
  refine v_iload_n C (pc := 16) (i := 3) dX5_extend_16 rfl ?_
  refine v_iconst C (pc := 17) (v := 1) dX5_extend_17 (by decide) ?_
  refine v_iconst C (pc := 18) (v := 2) dX5_extend_18 (by decide) ?_
  obtain ⟨x3, e3, h⟩ := h
  refine v_pS C (pc := 19) [.int a3, .int 1, .int 2] 3 (cX5_in_met (kl κ) (kG κ) _ e3) gX5_extend_X5_in rfl hdsX5_in rfl rfl rfl (by rw [hR]; exact ⟨Nat.le_of_ble_eq_true rfl, Nat.le_of_ble_eq_true rfl⟩) (by rw [hR]; decide) (Nat.le_of_ble_eq_true rfl) rfl dX5_extend_19 ?_
  refine v_istore C (pc := 22) (i := 6) (lv' := [some (va_rf (some o)), some (.int a1), some (.int a2), some (.int a3), some (.int x1), some (.int ((8 * a1) + a2)), some (.int x3)]) dX5_extend_22 rfl rfl ?_
  refine v_aload_n C (pc := 24) (i := 0) dX5_extend_24 rfl ?_
  refine v_iload C (pc := 25) (i := 4) dX5_extend_25 rfl ?_
  refine v_if_ne C (pc := 27) (tgt := 34) dX5_extend_27 (by decide) (fun c4 => ?_) (fun c4 => ?_)
  · rw [if_neg c4] at h
    refine v_iload C (pc := 34) (i := 6) dX5_extend_34 rfl ?_
    refine v_if_ne C (pc := 36) (tgt := 43) dX5_extend_36 (by decide) (fun c5 => ?_) (fun c5 => ?_)
    · rw [if_neg c5] at h
      refine v_aload_n C (pc := 43) (i := 0) dX5_extend_43 rfl ?_
      obtain ⟨x6, e6, h⟩ := h
      refine v_getR C (pc := 44) (ci := 5) 22 iwX5_extend_X5 rfl (by decide) flX5_extend_62 e6 dX5_extend_44 ?_
      refine v_iload C (pc := 47) (i := 5) dX5_extend_47 rfl ?_
      obtain ⟨x7, e7, h⟩ := h
      refine v_iald C (pc := 49) e7 dX5_extend_49 ?_
      refine v_if_ne C (pc := 50) (tgt := 67) dX5_extend_50 (by decide) (fun c8 => ?_) (fun c8 => ?_)
      · rw [if_neg c8] at h
        refine v_mask (lv' := [some (va_rf (some o)), none, none, some (.int a3), none, some (.int ((8 * a1) + a2)), none]) [true, false, false, true, false, true, false] rfl rfl ?_
        exact tbX5_extend_67 E hR ht  h
      · rw [if_pos c8] at h
        refine v_aload_n C (pc := 53) (i := 0) dX5_extend_53 rfl ?_
        obtain ⟨x21, e21, h⟩ := h
        refine v_getR C (pc := 54) (ci := 5) 30 iwX5_extend_X5 rfl (by decide) flX5_extend_86 e21 dX5_extend_54 ?_
        refine v_iload C (pc := 57) (i := 5) dX5_extend_57 rfl ?_
        obtain ⟨x22, e22, h⟩ := h
        refine v_iald C (pc := 59) e22 dX5_extend_59 ?_
        refine v_iload_n C (pc := 60) (i := 3) dX5_extend_60 rfl ?_
        obtain ⟨x23, e23, h⟩ := h
        refine v_pS C (pc := 61) [.int x22, .int a3] 2 (cX5_has_met (kl κ) (kG κ) _ e23) gX5_extend_X5_has rfl hdsX5_has rfl rfl rfl (by rw [hR]; exact ⟨Nat.le_of_ble_eq_true rfl, Nat.le_of_ble_eq_true rfl⟩) (by rw [hR]; decide) (Nat.le_of_ble_eq_true rfl) rfl dX5_extend_61 ?_
        refine v_if_eq C (pc := 64) (tgt := 71) dX5_extend_64 (by decide) (fun c24 => ?_) (fun c24 => ?_)
        · rw [if_pos c24] at h
          refine v_iconst C (pc := 71) (v := 0) dX5_extend_71 (by decide) ?_
          refine v_mask (lv' := [some (va_rf (some o)), none, none, some (.int a3), none, some (.int ((8 * a1) + a2)), none]) [true, false, false, true, false, true, false] rfl rfl ?_
          exact tbX5_extend_72 E hR ht  h
        · rw [if_neg c24] at h
          refine v_mask (lv' := [some (va_rf (some o)), none, none, some (.int a3), none, some (.int ((8 * a1) + a2)), none]) [true, false, false, true, false, true, false] rfl rfl ?_
          exact tbX5_extend_67 E hR ht  h
    · rw [if_pos c5] at h
      refine v_iconst C (pc := 39) (v := 2) dX5_extend_39 (by decide) ?_
      refine v_goto C (pc := 40) (tgt := 72) dX5_extend_40 (by decide) ?_
      refine v_mask (lv' := [some (va_rf (some o)), none, none, some (.int a3), none, some (.int ((8 * a1) + a2)), none]) [true, false, false, true, false, true, false] rfl rfl ?_
      exact tbX5_extend_72 E hR ht  h
  · rw [if_pos c4] at h
    refine v_iconst C (pc := 30) (v := 1) dX5_extend_30 (by decide) ?_
    refine v_goto C (pc := 31) (tgt := 72) dX5_extend_31 (by decide) ?_
    refine v_mask (lv' := [some (va_rf (some o)), none, none, some (.int a3), none, some (.int ((8 * a1) + a2)), none]) [true, false, false, true, false, true, false] rfl rfl ?_
    exact tbX5_extend_72 E hR ht  h
/-! X5_release -/
abbrev rmX5_release : Room := { frames := 2, cells := 0, slots := 0, locals := 44 }
theorem iwX5_release_X5 : ∀ w ∈ u_ws RX5 TX5 38, w ∈ wsX5_release := fun _ h => List.mem_cons_of_mem _ (List.mem_append_right _ (h))
theorem flX5_release_74 : Cond.fieldLink RX5 74 "ChargehouseModel" "isHeld" "[Z" ∈ wsX5_release := List.mem_cons_of_mem _ (List.mem_append_left _ (List.mem_of_getElem? (i := 0) rfl))
def bX5_release_39 (o : Nat) (Q : hM → Prop) (M : hM) (a4 : Int32) (s0 : Option Nat) (s1 : Int32) : Prop :=
  ∃ y8, hC M 5 s0 = some y8 ∧
  wX5_refused M y8 s1 (fun M9 x7 =>
  if (x7 : Int32) = 0 then (
    ∃ x11, gR M9 5 26 (some o) = some x11 ∧
    ∃ M12, sZ M9 1 x11 a4 0 = some M12 ∧
    Q M12
  ) else (
    Q M9
  ))
set_option maxRecDepth 100000 in
set_option maxHeartbeats 4000000 in
theorem tbX5_release_39 {κ : hKx} {M0 : hM} {sz : Nat} {o : Nat} {Q : hM → Prop} (E : Ce κ RX5 cX5_release wsX5_release none M0 sz (hQv Q) (fun _ _ => False) 0 0) (hR : kR κ = rmX5_release) (ht : ∀ x ∈ (kc κ).exceptionTable.toList, False)  {M : hM} {a4 : Int32} {s0 : Option Nat} {s1 : Int32}  (h : bX5_release_39 o Q M a4 s0 s1) : VW κ 0 0 M 39 [some (va_rf (some o)), none, none, none, some (.int a4)] [.int s1, va_rf s0] := by
  unfold bX5_release_39 at h
  have F := E.1
  have C := F.1
  obtain ⟨y8, hy8, hh⟩ := h
  skip
  obtain ⟨rfl, fsy8, hfy8⟩ := hC_inv hy8
  have h := hh
  clear hh
  refine v_nV F (pc := 39) (ci := 5) [.int s1] 1 (cX5_refused_met (kl κ) F.2.2.2.1 (kG κ) _ h) hfy8 rfl gX5_release_X5_refused rfl hdX5_refused rfl rfl rfl (by rw [hR]; exact ⟨Nat.le_of_ble_eq_true rfl, Nat.le_of_ble_eq_true rfl⟩) (by rw [hR]; decide) (Nat.le_of_ble_eq_true rfl) rfl dX5_release_39 (hk_i fun M9 x7 h => ?_)
  refine v_if_eq C (pc := 42) (tgt := 46) dX5_release_42 (by decide) (fun c10 => ?_) (fun c10 => ?_)
  · rw [if_pos c10] at h
    refine v_aload_n C (pc := 46) (i := 0) dX5_release_46 rfl ?_
    obtain ⟨x11, e11, h⟩ := h
    refine v_getR C (pc := 47) (ci := 5) 26 iwX5_release_X5 rfl (by decide) flX5_release_74 e11 dX5_release_47 ?_
    refine v_iload C (pc := 50) (i := 4) dX5_release_50 rfl ?_
    refine v_iconst C (pc := 52) (v := 0) dX5_release_52 (by decide) ?_
    obtain ⟨M12, e12, h⟩ := h
    refine v_zast F (pc := 53) e12 dX5_release_53 ?_
    exact v_eretV (pc := 54) E rfl ⟨rfl, h⟩ (by decide) (by decide) dX5_release_54
  · rw [if_neg c10] at h
    exact v_eretV (pc := 45) E rfl ⟨rfl, h⟩ (by decide) (by decide) dX5_release_45
def wX5_release (M : hM) (o : Nat) (a1 : Int32) (a2 : Int32) (Q : hM → Prop) : Prop :=
  ∃ y2, hC M 5 (some o) = some y2 ∧
  ∃ x1, fX5_isIn M o a1 a2 = some x1 ∧
  if (x1 : Int32) = 0 then (
    bX5_release_39 o Q M ((8 * a1) + a2) (some o) 1
  ) else (
    ∃ x4, gR M 5 26 (some o) = some x4 ∧
    ∃ x5, aI M 1 x4 ((8 * a1) + a2) = some x5 ∧
    if (x5 : Int32) = 0 then (
      bX5_release_39 o Q M ((8 * a1) + a2) (some o) 2
    ) else (
      bX5_release_39 o Q M ((8 * a1) + a2) (some o) 0
    )
  )
set_option maxRecDepth 100000 in
set_option maxHeartbeats 4000000 in
theorem cX5_release_met (l : Launch) (hfl : l.stackTraces = false) (G : hG) (M : hM) {o : Nat} {a1 : Int32} {a2 : Int32} {Q : hM → Prop} (h : wX5_release M o a1 a2 Q) : hEMet l yX5_release wsX5_release rmX5_release [.ref o, .int a1, .int a2] G M (hQv Q) (fun _ _ => False) 0 0 := by
  refine he_entry (own := RX5) (cc := cX5_release) (maxL := 5) (ret := none) (lv := [some (va_rf (some o)), some (.int a1), some (.int a2), none, none]) hfl (by decide) rfl rfl (hcc rfl (hcc rfl (hcc rfl hc0))) (Nat.le_of_ble_eq_true rfl) rfl (fun κ sz hG hl hR E ht hn => ?_)
  subst hG; subst hl
  unfold wX5_release at h
  have F := E.1
  have C := F.1
  refine v_aload_n C (pc := 0) (i := 0) dX5_release_0 rfl ?_
  refine v_iload_n C (pc := 1) (i := 1) dX5_release_1 rfl ?_
  refine v_iload_n C (pc := 2) (i := 2) dX5_release_2 rfl ?_
  obtain ⟨y2, hy2, h⟩ := h
  obtain ⟨fsy2, hfy2⟩ := hC_some hy2
  obtain ⟨x1, e1, h⟩ := h
  refine v_pV C (pc := 3) (ci := 5) [.int a1, .int a2] 2 (cX5_isIn_met (kl κ) (kG κ) _ e1) hfy2 rfl gX5_release_X5_isIn rfl hdX5_isIn rfl rfl rfl (by rw [hR]; exact ⟨Nat.le_of_ble_eq_true rfl, Nat.le_of_ble_eq_true rfl⟩) (by rw [hR]; decide) (Nat.le_of_ble_eq_true rfl) rfl dX5_release_3 ?_
  refine v_istore_n C (pc := 6) (i := 3) (lv' := [some (va_rf (some o)), some (.int a1), some (.int a2), some (.int x1), none]) dX5_release_6 rfl rfl ?_
  refine v_bipush C (pc := 7) (v := 8) dX5_release_7 (by decide) ?_
  refine v_iload_n C (pc := 9) (i := 1) dX5_release_9 rfl ?_
  refine v_imul C (pc := 10) dX5_release_10 ?_
  refine v_iload_n C (pc := 11) (i := 2) dX5_release_11 rfl ?_
  refine v_iadd C (pc := 12) dX5_release_12 ?_
  refine v_istore C (pc := 13) (i := 4) (lv' := [some (va_rf (some o)), some (.int a1), some (.int a2), some (.int x1), some (.int ((8 * a1) + a2))]) dX5_release_13 rfl rfl ?_
  refine v_aload_n C (pc := 15) (i := 0) dX5_release_15 rfl ?_
  refine v_iload_n C (pc := 16) (i := 3) dX5_release_16 rfl ?_
  refine v_if_ne C (pc := 17) (tgt := 24) dX5_release_17 (by decide) (fun c3 => ?_) (fun c3 => ?_)
  · rw [if_neg c3] at h
    refine v_aload_n C (pc := 24) (i := 0) dX5_release_24 rfl ?_
    obtain ⟨x4, e4, h⟩ := h
    refine v_getR C (pc := 25) (ci := 5) 26 iwX5_release_X5 rfl (by decide) flX5_release_74 e4 dX5_release_25 ?_
    refine v_iload C (pc := 28) (i := 4) dX5_release_28 rfl ?_
    obtain ⟨x5, e5, h⟩ := h
    refine v_zald C (pc := 30) e5 dX5_release_30 ?_
    refine v_if_eq C (pc := 31) (tgt := 38) dX5_release_31 (by decide) (fun c6 => ?_) (fun c6 => ?_)
    · rw [if_pos c6] at h
      refine v_iconst C (pc := 38) (v := 2) dX5_release_38 (by decide) ?_
      refine v_mask (lv' := [some (va_rf (some o)), none, none, none, some (.int ((8 * a1) + a2))]) [true, false, false, false, true] rfl rfl ?_
      exact tbX5_release_39 E hR ht  h
    · rw [if_neg c6] at h
      refine v_iconst C (pc := 34) (v := 0) dX5_release_34 (by decide) ?_
      refine v_goto C (pc := 35) (tgt := 39) dX5_release_35 (by decide) ?_
      refine v_mask (lv' := [some (va_rf (some o)), none, none, none, some (.int ((8 * a1) + a2))]) [true, false, false, false, true] rfl rfl ?_
      exact tbX5_release_39 E hR ht  h
  · rw [if_pos c3] at h
    refine v_iconst C (pc := 20) (v := 1) dX5_release_20 (by decide) ?_
    refine v_goto C (pc := 21) (tgt := 39) dX5_release_21 (by decide) ?_
    refine v_mask (lv' := [some (va_rf (some o)), none, none, none, some (.int ((8 * a1) + a2))]) [true, false, false, false, true] rfl rfl ?_
    exact tbX5_release_39 E hR ht  h
/-! X5_day -/
abbrev rmX5_day : Room := { frames := 0, cells := 0, slots := 0, locals := 0 }
theorem iwX5_day_X5 : ∀ w ∈ u_ws RX5 TX5 38, w ∈ wsX5_day := fun _ h => List.mem_cons_of_mem _ (List.mem_append_right _ (h))
theorem flX5_day_107 : Cond.fieldLink RX5 107 "ChargehouseModel" "thrown" "I" ∈ wsX5_day := List.mem_cons_of_mem _ (List.mem_append_left _ (List.mem_of_getElem? (i := 0) rfl))
theorem flX5_day_135 : Cond.fieldLink RX5 135 "ChargehouseModel" "day" "I" ∈ wsX5_day := List.mem_cons_of_mem _ (List.mem_append_left _ (List.mem_of_getElem? (i := 1) rfl))
def wX5_day (M : hM) (o : Nat)  (Q : hM → Int32 → Prop) : Prop :=
  ∃ M1, pV M 5 0 (some o) (.int 0) = some M1 ∧
  ∃ x2, gI M1 5 1 (some o) = some x2 ∧
  Q M1 x2
set_option maxRecDepth 100000 in
set_option maxHeartbeats 4000000 in
theorem cX5_day_met (l : Launch) (hfl : l.stackTraces = false) (G : hG) (M : hM) {o : Nat}  {Q : hM → Int32 → Prop} (h : wX5_day M o Q) : hEMet l yX5_day wsX5_day rmX5_day [.ref o] G M (hQi Q) (fun _ _ => False) 0 0 := by
  refine he_entry (own := RX5) (cc := cX5_day) (maxL := 1) (ret := (some .int)) (lv := [some (va_rf (some o))]) hfl (by decide) rfl rfl (hcc rfl hc0) (Nat.le_of_ble_eq_true rfl) rfl (fun κ sz hG hl hR E ht hn => ?_)
  subst hG; subst hl
  unfold wX5_day at h
  have F := E.1
  have C := F.1
  refine v_aload_n C (pc := 0) (i := 0) dX5_day_0 rfl ?_
  refine v_iconst C (pc := 1) (v := 0) dX5_day_1 (by decide) ?_
  obtain ⟨M1, e1, h⟩ := h
  refine v_put F (pc := 2) (ci := 5) (ty := .int) 0 iwX5_day_X5 tyX5 tyX5_ok nmX5 rfl (by decide) flX5_day_107 rfl rfl (nar_int _) (fit_int _) e1 dX5_day_2 ?_
  refine v_aload_n C (pc := 5) (i := 0) dX5_day_5 rfl ?_
  obtain ⟨x2, e2, h⟩ := h
  refine v_getI C (pc := 6) (ci := 5) 1 iwX5_day_X5 rfl (by decide) flX5_day_135 e2 dX5_day_6 ?_
  exact v_eret (pc := 9) E rfl (nar_int _) ⟨_, rfl, h⟩ (by decide) (by decide) dX5_day_9
/-! X5_nests -/
abbrev rmX5_nests : Room := { frames := 2, cells := 0, slots := 0, locals := 43 }
theorem iwX5_nests_X5 : ∀ w ∈ u_ws RX5 TX5 38, w ∈ wsX5_nests := fun _ h => List.mem_cons_of_mem _ (List.mem_append_right _ (h))
theorem flX5_nests_7 : Cond.fieldLink RX5 7 "ChargehouseModel" "sets" "[I" ∈ wsX5_nests := List.mem_cons_of_mem _ (List.mem_append_left _ (List.mem_of_getElem? (i := 0) rfl))
def bX5_nests_32 (o : Nat) (Q : hM → Int32 → Prop) (M : hM) (a1 : Int32) (a2 : Int32) (s0 : Option Nat) (s1 : Int32) : Prop :=
  ∃ y6, hC M 5 s0 = some y6 ∧
  wX5_refused M y6 s1 (fun M7 x5 =>
  if (x5 : Int32) = 0 then (
    ∃ x9, gR M7 5 3 (some o) = some x9 ∧
    ∃ x10, aI M7 0 x9 a1 = some x10 ∧
    ∃ x11, gR M7 5 3 (some o) = some x11 ∧
    ∃ x12, aI M7 0 x11 a2 = some x12 ∧
    if (x10 : Int32) = x12 then (
      Q M7 0
    ) else (
      ∃ x14, gR M7 5 3 (some o) = some x14 ∧
      ∃ x15, aI M7 0 x14 a1 = some x15 ∧
      ∃ x16, gR M7 5 3 (some o) = some x16 ∧
      ∃ x17, aI M7 0 x16 a2 = some x17 ∧
      if ((x15 &&& (x17 ^^^ (-1))) : Int32) = 0 then (
        Q M7 1
      ) else (
        Q M7 0
      )
    )
  ) else (
    Q M7 0
  ))
set_option maxRecDepth 100000 in
set_option maxHeartbeats 4000000 in
theorem tbX5_nests_32 {κ : hKx} {M0 : hM} {sz : Nat} {o : Nat} {Q : hM → Int32 → Prop} (E : Ce κ RX5 cX5_nests wsX5_nests (some .boolean) M0 sz (hQi Q) (fun _ _ => False) 0 0) (hR : kR κ = rmX5_nests) (ht : ∀ x ∈ (kc κ).exceptionTable.toList, False)  {M : hM} {a1 : Int32} {a2 : Int32} {s0 : Option Nat} {s1 : Int32}  (h : bX5_nests_32 o Q M a1 a2 s0 s1) : VW κ 0 0 M 32 [some (va_rf (some o)), some (.int a1), some (.int a2), none] [.int s1, va_rf s0] := by
  unfold bX5_nests_32 at h
  have F := E.1
  have C := F.1
  obtain ⟨y6, hy6, hh⟩ := h
  skip
  obtain ⟨rfl, fsy6, hfy6⟩ := hC_inv hy6
  have h := hh
  clear hh
  refine v_nV F (pc := 32) (ci := 5) [.int s1] 1 (cX5_refused_met (kl κ) F.2.2.2.1 (kG κ) _ h) hfy6 rfl gX5_nests_X5_refused rfl hdX5_refused rfl rfl rfl (by rw [hR]; exact ⟨Nat.le_of_ble_eq_true rfl, Nat.le_of_ble_eq_true rfl⟩) (by rw [hR]; decide) (Nat.le_of_ble_eq_true rfl) rfl dX5_nests_32 (hk_i fun M7 x5 h => ?_)
  refine v_if_ne C (pc := 35) (tgt := 75) dX5_nests_35 (by decide) (fun c8 => ?_) (fun c8 => ?_)
  · rw [if_neg c8] at h
    refine v_iconst C (pc := 75) (v := 0) dX5_nests_75 (by decide) ?_
    exact v_eret (pc := 76) E rfl (by decide +kernel) ⟨_, rfl, h⟩ (by decide) (by decide) dX5_nests_76
  · rw [if_pos c8] at h
    refine v_aload_n C (pc := 38) (i := 0) dX5_nests_38 rfl ?_
    obtain ⟨x9, e9, h⟩ := h
    refine v_getR C (pc := 39) (ci := 5) 3 iwX5_nests_X5 rfl (by decide) flX5_nests_7 e9 dX5_nests_39 ?_
    refine v_iload_n C (pc := 42) (i := 1) dX5_nests_42 rfl ?_
    obtain ⟨x10, e10, h⟩ := h
    refine v_iald C (pc := 43) e10 dX5_nests_43 ?_
    refine v_aload_n C (pc := 44) (i := 0) dX5_nests_44 rfl ?_
    obtain ⟨x11, e11, h⟩ := h
    refine v_getR C (pc := 45) (ci := 5) 3 iwX5_nests_X5 rfl (by decide) flX5_nests_7 e11 dX5_nests_45 ?_
    refine v_iload_n C (pc := 48) (i := 2) dX5_nests_48 rfl ?_
    obtain ⟨x12, e12, h⟩ := h
    refine v_iald C (pc := 49) e12 dX5_nests_49 ?_
    refine v_icmp_eq C (pc := 50) (tgt := 75) dX5_nests_50 (by decide) (fun c13 => ?_) (fun c13 => ?_)
    · rw [if_pos c13] at h
      refine v_iconst C (pc := 75) (v := 0) dX5_nests_75 (by decide) ?_
      exact v_eret (pc := 76) E rfl (by decide +kernel) ⟨_, rfl, h⟩ (by decide) (by decide) dX5_nests_76
    · rw [if_neg c13] at h
      refine v_aload_n C (pc := 53) (i := 0) dX5_nests_53 rfl ?_
      obtain ⟨x14, e14, h⟩ := h
      refine v_getR C (pc := 54) (ci := 5) 3 iwX5_nests_X5 rfl (by decide) flX5_nests_7 e14 dX5_nests_54 ?_
      refine v_iload_n C (pc := 57) (i := 1) dX5_nests_57 rfl ?_
      obtain ⟨x15, e15, h⟩ := h
      refine v_iald C (pc := 58) e15 dX5_nests_58 ?_
      refine v_aload_n C (pc := 59) (i := 0) dX5_nests_59 rfl ?_
      obtain ⟨x16, e16, h⟩ := h
      refine v_getR C (pc := 60) (ci := 5) 3 iwX5_nests_X5 rfl (by decide) flX5_nests_7 e16 dX5_nests_60 ?_
      refine v_iload_n C (pc := 63) (i := 2) dX5_nests_63 rfl ?_
      obtain ⟨x17, e17, h⟩ := h
      refine v_iald C (pc := 64) e17 dX5_nests_64 ?_
      refine v_iconst C (pc := 65) (v := (-1)) dX5_nests_65 (by decide) ?_
      refine v_ixor C (pc := 66) dX5_nests_66 ?_
      refine v_iand C (pc := 67) dX5_nests_67 ?_
      refine v_if_ne C (pc := 68) (tgt := 75) dX5_nests_68 (by decide) (fun c18 => ?_) (fun c18 => ?_)
      · rw [if_neg c18] at h
        refine v_iconst C (pc := 75) (v := 0) dX5_nests_75 (by decide) ?_
        exact v_eret (pc := 76) E rfl (by decide +kernel) ⟨_, rfl, h⟩ (by decide) (by decide) dX5_nests_76
      · rw [if_pos c18] at h
        refine v_iconst C (pc := 71) (v := 1) dX5_nests_71 (by decide) ?_
        refine v_goto C (pc := 72) (tgt := 76) dX5_nests_72 (by decide) ?_
        exact v_eret (pc := 76) E rfl (by decide +kernel) ⟨_, rfl, h⟩ (by decide) (by decide) dX5_nests_76
def bX5_nests_21 (o : Nat) (Q : hM → Int32 → Prop) (M : hM) (a1 : Int32) (a2 : Int32) (s0 : Int32) : Prop :=
  if (s0 : Int32) = 0 then (
    bX5_nests_32 o Q M a1 a2 (some o) 1
  ) else (
    bX5_nests_32 o Q M a1 a2 (some o) 0
  )
set_option maxRecDepth 100000 in
set_option maxHeartbeats 4000000 in
theorem tbX5_nests_21 {κ : hKx} {M0 : hM} {sz : Nat} {o : Nat} {Q : hM → Int32 → Prop} (E : Ce κ RX5 cX5_nests wsX5_nests (some .boolean) M0 sz (hQi Q) (fun _ _ => False) 0 0) (hR : kR κ = rmX5_nests) (ht : ∀ x ∈ (kc κ).exceptionTable.toList, False)  {M : hM} {a1 : Int32} {a2 : Int32} {s0 : Int32}  (h : bX5_nests_21 o Q M a1 a2 s0) : VW κ 0 0 M 21 [some (va_rf (some o)), some (.int a1), some (.int a2), none] [.int s0] := by
  unfold bX5_nests_21 at h
  have F := E.1
  have C := F.1
  refine v_istore_n C (pc := 21) (i := 3) (lv' := [some (va_rf (some o)), some (.int a1), some (.int a2), some (.int s0)]) dX5_nests_21 rfl rfl ?_
  refine v_aload_n C (pc := 22) (i := 0) dX5_nests_22 rfl ?_
  refine v_iload_n C (pc := 23) (i := 3) dX5_nests_23 rfl ?_
  refine v_if_eq C (pc := 24) (tgt := 31) dX5_nests_24 (by decide) (fun c4 => ?_) (fun c4 => ?_)
  · rw [if_pos c4] at h
    refine v_iconst C (pc := 31) (v := 1) dX5_nests_31 (by decide) ?_
    refine v_mask (lv' := [some (va_rf (some o)), some (.int a1), some (.int a2), none]) [true, true, true, false] rfl rfl ?_
    exact tbX5_nests_32 E hR ht  h
  · rw [if_neg c4] at h
    refine v_iconst C (pc := 27) (v := 0) dX5_nests_27 (by decide) ?_
    refine v_goto C (pc := 28) (tgt := 32) dX5_nests_28 (by decide) ?_
    refine v_mask (lv' := [some (va_rf (some o)), some (.int a1), some (.int a2), none]) [true, true, true, false] rfl rfl ?_
    exact tbX5_nests_32 E hR ht  h
def bX5_nests_20 (o : Nat) (Q : hM → Int32 → Prop) (M : hM) (a1 : Int32) (a2 : Int32) : Prop :=
  bX5_nests_21 o Q M a1 a2 0
set_option maxRecDepth 100000 in
set_option maxHeartbeats 4000000 in
theorem tbX5_nests_20 {κ : hKx} {M0 : hM} {sz : Nat} {o : Nat} {Q : hM → Int32 → Prop} (E : Ce κ RX5 cX5_nests wsX5_nests (some .boolean) M0 sz (hQi Q) (fun _ _ => False) 0 0) (hR : kR κ = rmX5_nests) (ht : ∀ x ∈ (kc κ).exceptionTable.toList, False)  {M : hM} {a1 : Int32} {a2 : Int32}  (h : bX5_nests_20 o Q M a1 a2) : VW κ 0 0 M 20 [some (va_rf (some o)), some (.int a1), some (.int a2), none] [] := by
  unfold bX5_nests_20 at h
  have F := E.1
  have C := F.1
  refine v_iconst C (pc := 20) (v := 0) dX5_nests_20 (by decide) ?_
  exact tbX5_nests_21 E hR ht  h
def wX5_nests (M : hM) (o : Nat) (a1 : Int32) (a2 : Int32) (Q : hM → Int32 → Prop) : Prop :=
  ∃ y2, hC M 5 (some o) = some y2 ∧
  ∃ x1, fX5_isOffence M o a1 = some x1 ∧
  if (x1 : Int32) = 0 then (
    bX5_nests_20 o Q M a1 a2
  ) else (
    ∃ y20, hC M 5 (some o) = some y20 ∧
    ∃ x19, fX5_isOffence M o a2 = some x19 ∧
    if (x19 : Int32) = 0 then (
      bX5_nests_20 o Q M a1 a2
    ) else (
      bX5_nests_21 o Q M a1 a2 1
    )
  )
set_option maxRecDepth 100000 in
set_option maxHeartbeats 4000000 in
theorem cX5_nests_met (l : Launch) (hfl : l.stackTraces = false) (G : hG) (M : hM) {o : Nat} {a1 : Int32} {a2 : Int32} {Q : hM → Int32 → Prop} (h : wX5_nests M o a1 a2 Q) : hEMet l yX5_nests wsX5_nests rmX5_nests [.ref o, .int a1, .int a2] G M (hQi Q) (fun _ _ => False) 0 0 := by
  refine he_entry (own := RX5) (cc := cX5_nests) (maxL := 4) (ret := (some .boolean)) (lv := [some (va_rf (some o)), some (.int a1), some (.int a2), none]) hfl (by decide) rfl rfl (hcc rfl (hcc rfl (hcc rfl hc0))) (Nat.le_of_ble_eq_true rfl) rfl (fun κ sz hG hl hR E ht hn => ?_)
  subst hG; subst hl
  unfold wX5_nests at h
  have F := E.1
  have C := F.1
  refine v_aload_n C (pc := 0) (i := 0) dX5_nests_0 rfl ?_
  refine v_iload_n C (pc := 1) (i := 1) dX5_nests_1 rfl ?_
  obtain ⟨y2, hy2, h⟩ := h
  obtain ⟨fsy2, hfy2⟩ := hC_some hy2
  obtain ⟨x1, e1, h⟩ := h
  refine v_pV C (pc := 2) (ci := 5) [.int a1] 1 (cX5_isOffence_met (kl κ) (kG κ) _ e1) hfy2 rfl gX5_nests_X5_isOffence rfl hdX5_isOffence rfl rfl rfl (by rw [hR]; exact ⟨Nat.le_of_ble_eq_true rfl, Nat.le_of_ble_eq_true rfl⟩) (by rw [hR]; decide) (Nat.le_of_ble_eq_true rfl) rfl dX5_nests_2 ?_
  refine v_if_eq C (pc := 5) (tgt := 20) dX5_nests_5 (by decide) (fun c3 => ?_) (fun c3 => ?_)
  · rw [if_pos c3] at h
    exact tbX5_nests_20 E hR ht  h
  · rw [if_neg c3] at h
    refine v_aload_n C (pc := 8) (i := 0) dX5_nests_8 rfl ?_
    refine v_iload_n C (pc := 9) (i := 2) dX5_nests_9 rfl ?_
    obtain ⟨y20, hy20, h⟩ := h
    obtain ⟨fsy20, hfy20⟩ := hC_some hy20
    obtain ⟨x19, e19, h⟩ := h
    refine v_pV C (pc := 10) (ci := 5) [.int a2] 1 (cX5_isOffence_met (kl κ) (kG κ) _ e19) hfy20 rfl gX5_nests_X5_isOffence rfl hdX5_isOffence rfl rfl rfl (by rw [hR]; exact ⟨Nat.le_of_ble_eq_true rfl, Nat.le_of_ble_eq_true rfl⟩) (by rw [hR]; decide) (Nat.le_of_ble_eq_true rfl) rfl dX5_nests_10 ?_
    refine v_if_eq C (pc := 13) (tgt := 20) dX5_nests_13 (by decide) (fun c21 => ?_) (fun c21 => ?_)
    · rw [if_pos c21] at h
      exact tbX5_nests_20 E hR ht  h
    · rw [if_neg c21] at h
      refine v_iconst C (pc := 16) (v := 1) dX5_nests_16 (by decide) ?_
      refine v_goto C (pc := 17) (tgt := 21) dX5_nests_17 (by decide) ?_
      exact tbX5_nests_21 E hR ht  h
/-! X5_strength -/
abbrev rmX5_strength : Room := { frames := 2, cells := 0, slots := 0, locals := 48 }
theorem iwX5_strength_X5 : ∀ w ∈ u_ws RX5 TX5 38, w ∈ wsX5_strength := fun _ h => List.mem_cons_of_mem _ (List.mem_append_right _ (h))
theorem flX5_strength_135 : Cond.fieldLink RX5 135 "ChargehouseModel" "day" "I" ∈ wsX5_strength := List.mem_cons_of_mem _ (List.mem_append_left _ (List.mem_append_left _ (List.mem_of_getElem? (i := 0) rfl)))
def bX5_strength_54 (o : Nat) (Q : hM → Int32 → Prop) (M : hM) (a1 : Int32) (a2 : Int32) (a3 : Int32) (a4 : Int32) (s0 : Option Nat) (s1 : Int32) : Prop :=
  ∃ y9, hC M 5 s0 = some y9 ∧
  wX5_refused M y9 s1 (fun M10 x8 =>
  if (x8 : Int32) = 0 then (
    ∃ y13, hC M10 5 (some o) = some y13 ∧
    ∃ x12, fX5_strengthOf M10 o ((8 * a1) + a2) a3 a4 = some x12 ∧
    Q M10 x12
  ) else (
    Q M10 0
  ))
set_option maxRecDepth 100000 in
set_option maxHeartbeats 4000000 in
theorem tbX5_strength_54 {κ : hKx} {M0 : hM} {sz : Nat} {o : Nat} {Q : hM → Int32 → Prop} (E : Ce κ RX5 cX5_strength wsX5_strength (some .int) M0 sz (hQi Q) (fun _ _ => False) 0 0) (hR : kR κ = rmX5_strength) (ht : ∀ x ∈ (kc κ).exceptionTable.toList, False)  {M : hM} {a1 : Int32} {a2 : Int32} {a3 : Int32} {a4 : Int32} {s0 : Option Nat} {s1 : Int32}  (h : bX5_strength_54 o Q M a1 a2 a3 a4 s0 s1) : VW κ 0 0 M 54 [some (va_rf (some o)), some (.int a1), some (.int a2), some (.int a3), some (.int a4), none] [.int s1, va_rf s0] := by
  unfold bX5_strength_54 at h
  have F := E.1
  have C := F.1
  obtain ⟨y9, hy9, hh⟩ := h
  skip
  obtain ⟨rfl, fsy9, hfy9⟩ := hC_inv hy9
  have h := hh
  clear hh
  refine v_nV F (pc := 54) (ci := 5) [.int s1] 1 (cX5_refused_met (kl κ) F.2.2.2.1 (kG κ) _ h) hfy9 rfl gX5_strength_X5_refused rfl hdX5_refused rfl rfl rfl (by rw [hR]; exact ⟨Nat.le_of_ble_eq_true rfl, Nat.le_of_ble_eq_true rfl⟩) (by rw [hR]; decide) (Nat.le_of_ble_eq_true rfl) rfl dX5_strength_54 (hk_i fun M10 x8 h => ?_)
  refine v_if_eq C (pc := 57) (tgt := 64) dX5_strength_57 (by decide) (fun c11 => ?_) (fun c11 => ?_)
  · rw [if_pos c11] at h
    refine v_aload_n C (pc := 64) (i := 0) dX5_strength_64 rfl ?_
    refine v_bipush C (pc := 65) (v := 8) dX5_strength_65 (by decide) ?_
    refine v_iload_n C (pc := 67) (i := 1) dX5_strength_67 rfl ?_
    refine v_imul C (pc := 68) dX5_strength_68 ?_
    refine v_iload_n C (pc := 69) (i := 2) dX5_strength_69 rfl ?_
    refine v_iadd C (pc := 70) dX5_strength_70 ?_
    refine v_iload_n C (pc := 71) (i := 3) dX5_strength_71 rfl ?_
    refine v_iload C (pc := 72) (i := 4) dX5_strength_72 rfl ?_
    obtain ⟨y13, hy13, h⟩ := h
    obtain ⟨fsy13, hfy13⟩ := hC_some hy13
    obtain ⟨x12, e12, h⟩ := h
    refine v_pV C (pc := 74) (ci := 5) [.int ((8 * a1) + a2), .int a3, .int a4] 3 (cX5_strengthOf_met (kl κ) (kG κ) _ e12) hfy13 rfl gX5_strength_X5_strengthOf rfl hdX5_strengthOf rfl rfl rfl (by rw [hR]; exact ⟨Nat.le_of_ble_eq_true rfl, Nat.le_of_ble_eq_true rfl⟩) (by rw [hR]; decide) (Nat.le_of_ble_eq_true rfl) rfl dX5_strength_74 ?_
    exact v_eret (pc := 77) E rfl (nar_int _) ⟨_, rfl, h⟩ (by decide) (by decide) dX5_strength_77
  · rw [if_neg c11] at h
    refine v_iconst C (pc := 60) (v := 0) dX5_strength_60 (by decide) ?_
    refine v_goto C (pc := 61) (tgt := 77) dX5_strength_61 (by decide) ?_
    exact v_eret (pc := 77) E rfl (nar_int _) ⟨_, rfl, h⟩ (by decide) (by decide) dX5_strength_77
def bX5_strength_24 (o : Nat) (Q : hM → Int32 → Prop) (M : hM) (a1 : Int32) (a2 : Int32) (a3 : Int32) (a4 : Int32) (s0 : Int32) : Prop :=
  if (s0 : Int32) = 0 then (
    bX5_strength_54 o Q M a1 a2 a3 a4 (some o) 1
  ) else (
    ∃ x5, gI M 5 1 (some o) = some x5 ∧
    ∃ x6, fX5_in a4 0 x5 = some x6 ∧
    if (x6 : Int32) = 0 then (
      bX5_strength_54 o Q M a1 a2 a3 a4 (some o) 2
    ) else (
      bX5_strength_54 o Q M a1 a2 a3 a4 (some o) 0
    )
  )
set_option maxRecDepth 100000 in
set_option maxHeartbeats 4000000 in
theorem tbX5_strength_24 {κ : hKx} {M0 : hM} {sz : Nat} {o : Nat} {Q : hM → Int32 → Prop} (E : Ce κ RX5 cX5_strength wsX5_strength (some .int) M0 sz (hQi Q) (fun _ _ => False) 0 0) (hR : kR κ = rmX5_strength) (ht : ∀ x ∈ (kc κ).exceptionTable.toList, False)  {M : hM} {a1 : Int32} {a2 : Int32} {a3 : Int32} {a4 : Int32} {s0 : Int32}  (h : bX5_strength_24 o Q M a1 a2 a3 a4 s0) : VW κ 0 0 M 24 [some (va_rf (some o)), some (.int a1), some (.int a2), some (.int a3), some (.int a4), none] [.int s0] := by
  unfold bX5_strength_24 at h
  have F := E.1
  have C := F.1
  refine v_istore C (pc := 24) (i := 5) (lv' := [some (va_rf (some o)), some (.int a1), some (.int a2), some (.int a3), some (.int a4), some (.int s0)]) dX5_strength_24 rfl rfl ?_
  refine v_aload_n C (pc := 26) (i := 0) dX5_strength_26 rfl ?_
  refine v_iload C (pc := 27) (i := 5) dX5_strength_27 rfl ?_
  refine v_if_ne C (pc := 29) (tgt := 36) dX5_strength_29 (by decide) (fun c4 => ?_) (fun c4 => ?_)
  · rw [if_neg c4] at h
    refine v_iload C (pc := 36) (i := 4) dX5_strength_36 rfl ?_
    refine v_iconst C (pc := 38) (v := 0) dX5_strength_38 (by decide) ?_
    refine v_aload_n C (pc := 39) (i := 0) dX5_strength_39 rfl ?_
    obtain ⟨x5, e5, h⟩ := h
    refine v_getI C (pc := 40) (ci := 5) 1 iwX5_strength_X5 rfl (by decide) flX5_strength_135 e5 dX5_strength_40 ?_
    obtain ⟨x6, e6, h⟩ := h
    refine v_pS C (pc := 43) [.int a4, .int 0, .int x5] 3 (cX5_in_met (kl κ) (kG κ) _ e6) gX5_strength_X5_in rfl hdsX5_in rfl rfl rfl (by rw [hR]; exact ⟨Nat.le_of_ble_eq_true rfl, Nat.le_of_ble_eq_true rfl⟩) (by rw [hR]; decide) (Nat.le_of_ble_eq_true rfl) rfl dX5_strength_43 ?_
    refine v_if_eq C (pc := 46) (tgt := 53) dX5_strength_46 (by decide) (fun c7 => ?_) (fun c7 => ?_)
    · rw [if_pos c7] at h
      refine v_iconst C (pc := 53) (v := 2) dX5_strength_53 (by decide) ?_
      refine v_mask (lv' := [some (va_rf (some o)), some (.int a1), some (.int a2), some (.int a3), some (.int a4), none]) [true, true, true, true, true, false] rfl rfl ?_
      exact tbX5_strength_54 E hR ht  h
    · rw [if_neg c7] at h
      refine v_iconst C (pc := 49) (v := 0) dX5_strength_49 (by decide) ?_
      refine v_goto C (pc := 50) (tgt := 54) dX5_strength_50 (by decide) ?_
      refine v_mask (lv' := [some (va_rf (some o)), some (.int a1), some (.int a2), some (.int a3), some (.int a4), none]) [true, true, true, true, true, false] rfl rfl ?_
      exact tbX5_strength_54 E hR ht  h
  · rw [if_pos c4] at h
    refine v_iconst C (pc := 32) (v := 1) dX5_strength_32 (by decide) ?_
    refine v_goto C (pc := 33) (tgt := 54) dX5_strength_33 (by decide) ?_
    refine v_mask (lv' := [some (va_rf (some o)), some (.int a1), some (.int a2), some (.int a3), some (.int a4), none]) [true, true, true, true, true, false] rfl rfl ?_
    exact tbX5_strength_54 E hR ht  h
def bX5_strength_23 (o : Nat) (Q : hM → Int32 → Prop) (M : hM) (a1 : Int32) (a2 : Int32) (a3 : Int32) (a4 : Int32) : Prop :=
  bX5_strength_24 o Q M a1 a2 a3 a4 0
set_option maxRecDepth 100000 in
set_option maxHeartbeats 4000000 in
theorem tbX5_strength_23 {κ : hKx} {M0 : hM} {sz : Nat} {o : Nat} {Q : hM → Int32 → Prop} (E : Ce κ RX5 cX5_strength wsX5_strength (some .int) M0 sz (hQi Q) (fun _ _ => False) 0 0) (hR : kR κ = rmX5_strength) (ht : ∀ x ∈ (kc κ).exceptionTable.toList, False)  {M : hM} {a1 : Int32} {a2 : Int32} {a3 : Int32} {a4 : Int32}  (h : bX5_strength_23 o Q M a1 a2 a3 a4) : VW κ 0 0 M 23 [some (va_rf (some o)), some (.int a1), some (.int a2), some (.int a3), some (.int a4), none] [] := by
  unfold bX5_strength_23 at h
  have F := E.1
  have C := F.1
  refine v_iconst C (pc := 23) (v := 0) dX5_strength_23 (by decide) ?_
  exact tbX5_strength_24 E hR ht  h
def wX5_strength (M : hM) (o : Nat) (a1 : Int32) (a2 : Int32) (a3 : Int32) (a4 : Int32) (Q : hM → Int32 → Prop) : Prop :=
  ∃ y2, hC M 5 (some o) = some y2 ∧
  ∃ x1, fX5_isIn M o a1 a2 = some x1 ∧
  if (x1 : Int32) = 0 then (
    bX5_strength_23 o Q M a1 a2 a3 a4
  ) else (
    ∃ x14, fX5_in a3 0 9 = some x14 ∧
    if (x14 : Int32) = 0 then (
      bX5_strength_23 o Q M a1 a2 a3 a4
    ) else (
      bX5_strength_24 o Q M a1 a2 a3 a4 1
    )
  )
set_option maxRecDepth 100000 in
set_option maxHeartbeats 4000000 in
theorem cX5_strength_met (l : Launch) (hfl : l.stackTraces = false) (G : hG) (M : hM) {o : Nat} {a1 : Int32} {a2 : Int32} {a3 : Int32} {a4 : Int32} {Q : hM → Int32 → Prop} (h : wX5_strength M o a1 a2 a3 a4 Q) : hEMet l yX5_strength wsX5_strength rmX5_strength [.ref o, .int a1, .int a2, .int a3, .int a4] G M (hQi Q) (fun _ _ => False) 0 0 := by
  refine he_entry (own := RX5) (cc := cX5_strength) (maxL := 6) (ret := (some .int)) (lv := [some (va_rf (some o)), some (.int a1), some (.int a2), some (.int a3), some (.int a4), none]) hfl (by decide) rfl rfl (hcc rfl (hcc rfl (hcc rfl (hcc rfl (hcc rfl hc0))))) (Nat.le_of_ble_eq_true rfl) rfl (fun κ sz hG hl hR E ht hn => ?_)
  subst hG; subst hl
  unfold wX5_strength at h
  have F := E.1
  have C := F.1
  refine v_aload_n C (pc := 0) (i := 0) dX5_strength_0 rfl ?_
  refine v_iload_n C (pc := 1) (i := 1) dX5_strength_1 rfl ?_
  refine v_iload_n C (pc := 2) (i := 2) dX5_strength_2 rfl ?_
  obtain ⟨y2, hy2, h⟩ := h
  obtain ⟨fsy2, hfy2⟩ := hC_some hy2
  obtain ⟨x1, e1, h⟩ := h
  refine v_pV C (pc := 3) (ci := 5) [.int a1, .int a2] 2 (cX5_isIn_met (kl κ) (kG κ) _ e1) hfy2 rfl gX5_strength_X5_isIn rfl hdX5_isIn rfl rfl rfl (by rw [hR]; exact ⟨Nat.le_of_ble_eq_true rfl, Nat.le_of_ble_eq_true rfl⟩) (by rw [hR]; decide) (Nat.le_of_ble_eq_true rfl) rfl dX5_strength_3 ?_
  refine v_if_eq C (pc := 6) (tgt := 23) dX5_strength_6 (by decide) (fun c3 => ?_) (fun c3 => ?_)
  · rw [if_pos c3] at h
    exact tbX5_strength_23 E hR ht  h
  · rw [if_neg c3] at h
    refine v_iload_n C (pc := 9) (i := 3) dX5_strength_9 rfl ?_
    refine v_iconst C (pc := 10) (v := 0) dX5_strength_10 (by decide) ?_
    refine v_bipush C (pc := 11) (v := 9) dX5_strength_11 (by decide) ?_
    obtain ⟨x14, e14, h⟩ := h
    refine v_pS C (pc := 13) [.int a3, .int 0, .int 9] 3 (cX5_in_met (kl κ) (kG κ) _ e14) gX5_strength_X5_in rfl hdsX5_in rfl rfl rfl (by rw [hR]; exact ⟨Nat.le_of_ble_eq_true rfl, Nat.le_of_ble_eq_true rfl⟩) (by rw [hR]; decide) (Nat.le_of_ble_eq_true rfl) rfl dX5_strength_13 ?_
    refine v_if_eq C (pc := 16) (tgt := 23) dX5_strength_16 (by decide) (fun c15 => ?_) (fun c15 => ?_)
    · rw [if_pos c15] at h
      exact tbX5_strength_23 E hR ht  h
    · rw [if_neg c15] at h
      refine v_iconst C (pc := 19) (v := 1) dX5_strength_19 (by decide) ?_
      refine v_goto C (pc := 20) (tgt := 24) dX5_strength_20 (by decide) ?_
      exact tbX5_strength_24 E hR ht  h
/-! X5_whyNot -/
abbrev rmX5_whyNot : Room := { frames := 4, cells := 0, slots := 0, locals := 99 }
theorem iwX5_whyNot_X5 : ∀ w ∈ u_ws RX5 TX5 38, w ∈ wsX5_whyNot := fun _ h => List.mem_cons_of_mem _ (List.mem_append_right _ (h))
theorem flX5_whyNot_135 : Cond.fieldLink RX5 135 "ChargehouseModel" "day" "I" ∈ wsX5_whyNot := List.mem_cons_of_mem _ (List.mem_append_left _ (List.mem_append_left _ (List.mem_of_getElem? (i := 0) rfl)))
def bX5_whyNot_52 (o : Nat) (Q : hM → Int32 → Prop) (M : hM) (a1 : Int32) (a2 : Int32) (a3 : Int32) (a4 : Int32) (s0 : Option Nat) (s1 : Int32) : Prop :=
  ∃ y9, hC M 5 s0 = some y9 ∧
  wX5_refused M y9 s1 (fun M10 x8 =>
  if (x8 : Int32) = 0 then (
    ∃ y13, hC M10 5 (some o) = some y13 ∧
    ∃ x12, fX5_why M10 o ((8 * a1) + a2) a3 a4 = some x12 ∧
    Q M10 x12
  ) else (
    Q M10 0
  ))
set_option maxRecDepth 100000 in
set_option maxHeartbeats 4000000 in
theorem tbX5_whyNot_52 {κ : hKx} {M0 : hM} {sz : Nat} {o : Nat} {Q : hM → Int32 → Prop} (E : Ce κ RX5 cX5_whyNot wsX5_whyNot (some .int) M0 sz (hQi Q) (fun _ _ => False) 0 0) (hR : kR κ = rmX5_whyNot) (ht : ∀ x ∈ (kc κ).exceptionTable.toList, False)  {M : hM} {a1 : Int32} {a2 : Int32} {a3 : Int32} {a4 : Int32} {s0 : Option Nat} {s1 : Int32}  (h : bX5_whyNot_52 o Q M a1 a2 a3 a4 s0 s1) : VW κ 0 0 M 52 [some (va_rf (some o)), some (.int a1), some (.int a2), some (.int a3), some (.int a4), none] [.int s1, va_rf s0] := by
  unfold bX5_whyNot_52 at h
  have F := E.1
  have C := F.1
  obtain ⟨y9, hy9, hh⟩ := h
  skip
  obtain ⟨rfl, fsy9, hfy9⟩ := hC_inv hy9
  have h := hh
  clear hh
  refine v_nV F (pc := 52) (ci := 5) [.int s1] 1 (cX5_refused_met (kl κ) F.2.2.2.1 (kG κ) _ h) hfy9 rfl gX5_whyNot_X5_refused rfl hdX5_refused rfl rfl rfl (by rw [hR]; exact ⟨Nat.le_of_ble_eq_true rfl, Nat.le_of_ble_eq_true rfl⟩) (by rw [hR]; decide) (Nat.le_of_ble_eq_true rfl) rfl dX5_whyNot_52 (hk_i fun M10 x8 h => ?_)
  refine v_if_eq C (pc := 55) (tgt := 62) dX5_whyNot_55 (by decide) (fun c11 => ?_) (fun c11 => ?_)
  · rw [if_pos c11] at h
    refine v_aload_n C (pc := 62) (i := 0) dX5_whyNot_62 rfl ?_
    refine v_bipush C (pc := 63) (v := 8) dX5_whyNot_63 (by decide) ?_
    refine v_iload_n C (pc := 65) (i := 1) dX5_whyNot_65 rfl ?_
    refine v_imul C (pc := 66) dX5_whyNot_66 ?_
    refine v_iload_n C (pc := 67) (i := 2) dX5_whyNot_67 rfl ?_
    refine v_iadd C (pc := 68) dX5_whyNot_68 ?_
    refine v_iload_n C (pc := 69) (i := 3) dX5_whyNot_69 rfl ?_
    refine v_iload C (pc := 70) (i := 4) dX5_whyNot_70 rfl ?_
    obtain ⟨y13, hy13, h⟩ := h
    obtain ⟨fsy13, hfy13⟩ := hC_some hy13
    obtain ⟨x12, e12, h⟩ := h
    refine v_pV C (pc := 72) (ci := 5) [.int ((8 * a1) + a2), .int a3, .int a4] 3 (cX5_why_met (kl κ) (kG κ) _ e12) hfy13 rfl gX5_whyNot_X5_why rfl hdX5_why rfl rfl rfl (by rw [hR]; exact ⟨Nat.le_of_ble_eq_true rfl, Nat.le_of_ble_eq_true rfl⟩) (by rw [hR]; decide) (Nat.le_of_ble_eq_true rfl) rfl dX5_whyNot_72 ?_
    exact v_eret (pc := 75) E rfl (nar_int _) ⟨_, rfl, h⟩ (by decide) (by decide) dX5_whyNot_75
  · rw [if_neg c11] at h
    refine v_iconst C (pc := 58) (v := 0) dX5_whyNot_58 (by decide) ?_
    refine v_goto C (pc := 59) (tgt := 75) dX5_whyNot_59 (by decide) ?_
    exact v_eret (pc := 75) E rfl (nar_int _) ⟨_, rfl, h⟩ (by decide) (by decide) dX5_whyNot_75
def bX5_whyNot_22 (o : Nat) (Q : hM → Int32 → Prop) (M : hM) (a1 : Int32) (a2 : Int32) (a3 : Int32) (a4 : Int32) (s0 : Int32) : Prop :=
  if (s0 : Int32) = 0 then (
    bX5_whyNot_52 o Q M a1 a2 a3 a4 (some o) 1
  ) else (
    ∃ x5, gI M 5 1 (some o) = some x5 ∧
    ∃ x6, fX5_in a4 0 x5 = some x6 ∧
    if (x6 : Int32) = 0 then (
      bX5_whyNot_52 o Q M a1 a2 a3 a4 (some o) 2
    ) else (
      bX5_whyNot_52 o Q M a1 a2 a3 a4 (some o) 0
    )
  )
set_option maxRecDepth 100000 in
set_option maxHeartbeats 4000000 in
theorem tbX5_whyNot_22 {κ : hKx} {M0 : hM} {sz : Nat} {o : Nat} {Q : hM → Int32 → Prop} (E : Ce κ RX5 cX5_whyNot wsX5_whyNot (some .int) M0 sz (hQi Q) (fun _ _ => False) 0 0) (hR : kR κ = rmX5_whyNot) (ht : ∀ x ∈ (kc κ).exceptionTable.toList, False)  {M : hM} {a1 : Int32} {a2 : Int32} {a3 : Int32} {a4 : Int32} {s0 : Int32}  (h : bX5_whyNot_22 o Q M a1 a2 a3 a4 s0) : VW κ 0 0 M 22 [some (va_rf (some o)), some (.int a1), some (.int a2), some (.int a3), some (.int a4), none] [.int s0] := by
  unfold bX5_whyNot_22 at h
  have F := E.1
  have C := F.1
  refine v_istore C (pc := 22) (i := 5) (lv' := [some (va_rf (some o)), some (.int a1), some (.int a2), some (.int a3), some (.int a4), some (.int s0)]) dX5_whyNot_22 rfl rfl ?_
  refine v_aload_n C (pc := 24) (i := 0) dX5_whyNot_24 rfl ?_
  refine v_iload C (pc := 25) (i := 5) dX5_whyNot_25 rfl ?_
  refine v_if_ne C (pc := 27) (tgt := 34) dX5_whyNot_27 (by decide) (fun c4 => ?_) (fun c4 => ?_)
  · rw [if_neg c4] at h
    refine v_iload C (pc := 34) (i := 4) dX5_whyNot_34 rfl ?_
    refine v_iconst C (pc := 36) (v := 0) dX5_whyNot_36 (by decide) ?_
    refine v_aload_n C (pc := 37) (i := 0) dX5_whyNot_37 rfl ?_
    obtain ⟨x5, e5, h⟩ := h
    refine v_getI C (pc := 38) (ci := 5) 1 iwX5_whyNot_X5 rfl (by decide) flX5_whyNot_135 e5 dX5_whyNot_38 ?_
    obtain ⟨x6, e6, h⟩ := h
    refine v_pS C (pc := 41) [.int a4, .int 0, .int x5] 3 (cX5_in_met (kl κ) (kG κ) _ e6) gX5_whyNot_X5_in rfl hdsX5_in rfl rfl rfl (by rw [hR]; exact ⟨Nat.le_of_ble_eq_true rfl, Nat.le_of_ble_eq_true rfl⟩) (by rw [hR]; decide) (Nat.le_of_ble_eq_true rfl) rfl dX5_whyNot_41 ?_
    refine v_if_eq C (pc := 44) (tgt := 51) dX5_whyNot_44 (by decide) (fun c7 => ?_) (fun c7 => ?_)
    · rw [if_pos c7] at h
      refine v_iconst C (pc := 51) (v := 2) dX5_whyNot_51 (by decide) ?_
      refine v_mask (lv' := [some (va_rf (some o)), some (.int a1), some (.int a2), some (.int a3), some (.int a4), none]) [true, true, true, true, true, false] rfl rfl ?_
      exact tbX5_whyNot_52 E hR ht  h
    · rw [if_neg c7] at h
      refine v_iconst C (pc := 47) (v := 0) dX5_whyNot_47 (by decide) ?_
      refine v_goto C (pc := 48) (tgt := 52) dX5_whyNot_48 (by decide) ?_
      refine v_mask (lv' := [some (va_rf (some o)), some (.int a1), some (.int a2), some (.int a3), some (.int a4), none]) [true, true, true, true, true, false] rfl rfl ?_
      exact tbX5_whyNot_52 E hR ht  h
  · rw [if_pos c4] at h
    refine v_iconst C (pc := 30) (v := 1) dX5_whyNot_30 (by decide) ?_
    refine v_goto C (pc := 31) (tgt := 52) dX5_whyNot_31 (by decide) ?_
    refine v_mask (lv' := [some (va_rf (some o)), some (.int a1), some (.int a2), some (.int a3), some (.int a4), none]) [true, true, true, true, true, false] rfl rfl ?_
    exact tbX5_whyNot_52 E hR ht  h
def bX5_whyNot_21 (o : Nat) (Q : hM → Int32 → Prop) (M : hM) (a1 : Int32) (a2 : Int32) (a3 : Int32) (a4 : Int32) : Prop :=
  bX5_whyNot_22 o Q M a1 a2 a3 a4 0
set_option maxRecDepth 100000 in
set_option maxHeartbeats 4000000 in
theorem tbX5_whyNot_21 {κ : hKx} {M0 : hM} {sz : Nat} {o : Nat} {Q : hM → Int32 → Prop} (E : Ce κ RX5 cX5_whyNot wsX5_whyNot (some .int) M0 sz (hQi Q) (fun _ _ => False) 0 0) (hR : kR κ = rmX5_whyNot) (ht : ∀ x ∈ (kc κ).exceptionTable.toList, False)  {M : hM} {a1 : Int32} {a2 : Int32} {a3 : Int32} {a4 : Int32}  (h : bX5_whyNot_21 o Q M a1 a2 a3 a4) : VW κ 0 0 M 21 [some (va_rf (some o)), some (.int a1), some (.int a2), some (.int a3), some (.int a4), none] [] := by
  unfold bX5_whyNot_21 at h
  have F := E.1
  have C := F.1
  refine v_iconst C (pc := 21) (v := 0) dX5_whyNot_21 (by decide) ?_
  exact tbX5_whyNot_22 E hR ht  h
def wX5_whyNot (M : hM) (o : Nat) (a1 : Int32) (a2 : Int32) (a3 : Int32) (a4 : Int32) (Q : hM → Int32 → Prop) : Prop :=
  ∃ y2, hC M 5 (some o) = some y2 ∧
  ∃ x1, fX5_isIn M o a1 a2 = some x1 ∧
  if (x1 : Int32) = 0 then (
    bX5_whyNot_21 o Q M a1 a2 a3 a4
  ) else (
    ∃ y15, hC M 5 (some o) = some y15 ∧
    ∃ x14, fX5_isOffence M o a3 = some x14 ∧
    if (x14 : Int32) = 0 then (
      bX5_whyNot_21 o Q M a1 a2 a3 a4
    ) else (
      bX5_whyNot_22 o Q M a1 a2 a3 a4 1
    )
  )
set_option maxRecDepth 100000 in
set_option maxHeartbeats 4000000 in
theorem cX5_whyNot_met (l : Launch) (hfl : l.stackTraces = false) (G : hG) (M : hM) {o : Nat} {a1 : Int32} {a2 : Int32} {a3 : Int32} {a4 : Int32} {Q : hM → Int32 → Prop} (h : wX5_whyNot M o a1 a2 a3 a4 Q) : hEMet l yX5_whyNot wsX5_whyNot rmX5_whyNot [.ref o, .int a1, .int a2, .int a3, .int a4] G M (hQi Q) (fun _ _ => False) 0 0 := by
  refine he_entry (own := RX5) (cc := cX5_whyNot) (maxL := 6) (ret := (some .int)) (lv := [some (va_rf (some o)), some (.int a1), some (.int a2), some (.int a3), some (.int a4), none]) hfl (by decide) rfl rfl (hcc rfl (hcc rfl (hcc rfl (hcc rfl (hcc rfl hc0))))) (Nat.le_of_ble_eq_true rfl) rfl (fun κ sz hG hl hR E ht hn => ?_)
  subst hG; subst hl
  unfold wX5_whyNot at h
  have F := E.1
  have C := F.1
  refine v_aload_n C (pc := 0) (i := 0) dX5_whyNot_0 rfl ?_
  refine v_iload_n C (pc := 1) (i := 1) dX5_whyNot_1 rfl ?_
  refine v_iload_n C (pc := 2) (i := 2) dX5_whyNot_2 rfl ?_
  obtain ⟨y2, hy2, h⟩ := h
  obtain ⟨fsy2, hfy2⟩ := hC_some hy2
  obtain ⟨x1, e1, h⟩ := h
  refine v_pV C (pc := 3) (ci := 5) [.int a1, .int a2] 2 (cX5_isIn_met (kl κ) (kG κ) _ e1) hfy2 rfl gX5_whyNot_X5_isIn rfl hdX5_isIn rfl rfl rfl (by rw [hR]; exact ⟨Nat.le_of_ble_eq_true rfl, Nat.le_of_ble_eq_true rfl⟩) (by rw [hR]; decide) (Nat.le_of_ble_eq_true rfl) rfl dX5_whyNot_3 ?_
  refine v_if_eq C (pc := 6) (tgt := 21) dX5_whyNot_6 (by decide) (fun c3 => ?_) (fun c3 => ?_)
  · rw [if_pos c3] at h
    exact tbX5_whyNot_21 E hR ht  h
  · rw [if_neg c3] at h
    refine v_aload_n C (pc := 9) (i := 0) dX5_whyNot_9 rfl ?_
    refine v_iload_n C (pc := 10) (i := 3) dX5_whyNot_10 rfl ?_
    obtain ⟨y15, hy15, h⟩ := h
    obtain ⟨fsy15, hfy15⟩ := hC_some hy15
    obtain ⟨x14, e14, h⟩ := h
    refine v_pV C (pc := 11) (ci := 5) [.int a3] 1 (cX5_isOffence_met (kl κ) (kG κ) _ e14) hfy15 rfl gX5_whyNot_X5_isOffence rfl hdX5_isOffence rfl rfl rfl (by rw [hR]; exact ⟨Nat.le_of_ble_eq_true rfl, Nat.le_of_ble_eq_true rfl⟩) (by rw [hR]; decide) (Nat.le_of_ble_eq_true rfl) rfl dX5_whyNot_11 ?_
    refine v_if_eq C (pc := 14) (tgt := 21) dX5_whyNot_14 (by decide) (fun c16 => ?_) (fun c16 => ?_)
    · rw [if_pos c16] at h
      exact tbX5_whyNot_21 E hR ht  h
    · rw [if_neg c16] at h
      refine v_iconst C (pc := 17) (v := 1) dX5_whyNot_17 (by decide) ?_
      refine v_goto C (pc := 18) (tgt := 22) dX5_whyNot_18 (by decide) ?_
      exact tbX5_whyNot_22 E hR ht  h
/-! X5_best -/
abbrev rmX5_best : Room := { frames := 6, cells := 0, slots := 0, locals := 150 }
theorem iwX5_best_X5 : ∀ w ∈ u_ws RX5 TX5 38, w ∈ wsX5_best := fun _ h => List.mem_cons_of_mem _ (List.mem_append_right _ (h))
theorem flX5_best_135 : Cond.fieldLink RX5 135 "ChargehouseModel" "day" "I" ∈ wsX5_best := List.mem_cons_of_mem _ (List.mem_append_left _ (List.mem_append_left _ (List.mem_of_getElem? (i := 0) rfl)))
def bX5_best_31 (o : Nat) (Q : hM → Int32 → Prop) (M : hM) (a1 : Int32) (a2 : Int32) (a3 : Int32) (s0 : Option Nat) (s1 : Int32) : Prop :=
  ∃ y8, hC M 5 s0 = some y8 ∧
  wX5_refused M y8 s1 (fun M9 x7 =>
  if (x7 : Int32) = 0 then (
    ∃ y12, hC M9 5 (some o) = some y12 ∧
    ∃ x11, fX5_bestOf M9 o ((8 * a1) + a2) a3 = some x11 ∧
    Q M9 x11
  ) else (
    Q M9 0
  ))
set_option maxRecDepth 100000 in
set_option maxHeartbeats 4000000 in
theorem tbX5_best_31 {κ : hKx} {M0 : hM} {sz : Nat} {o : Nat} {Q : hM → Int32 → Prop} (E : Ce κ RX5 cX5_best wsX5_best (some .int) M0 sz (hQi Q) (fun _ _ => False) 0 0) (hR : kR κ = rmX5_best) (ht : ∀ x ∈ (kc κ).exceptionTable.toList, False)  {M : hM} {a1 : Int32} {a2 : Int32} {a3 : Int32} {s0 : Option Nat} {s1 : Int32}  (h : bX5_best_31 o Q M a1 a2 a3 s0 s1) : VW κ 0 0 M 31 [some (va_rf (some o)), some (.int a1), some (.int a2), some (.int a3)] [.int s1, va_rf s0] := by
  unfold bX5_best_31 at h
  have F := E.1
  have C := F.1
  obtain ⟨y8, hy8, hh⟩ := h
  skip
  obtain ⟨rfl, fsy8, hfy8⟩ := hC_inv hy8
  have h := hh
  clear hh
  refine v_nV F (pc := 31) (ci := 5) [.int s1] 1 (cX5_refused_met (kl κ) F.2.2.2.1 (kG κ) _ h) hfy8 rfl gX5_best_X5_refused rfl hdX5_refused rfl rfl rfl (by rw [hR]; exact ⟨Nat.le_of_ble_eq_true rfl, Nat.le_of_ble_eq_true rfl⟩) (by rw [hR]; decide) (Nat.le_of_ble_eq_true rfl) rfl dX5_best_31 (hk_i fun M9 x7 h => ?_)
  refine v_if_eq C (pc := 34) (tgt := 41) dX5_best_34 (by decide) (fun c10 => ?_) (fun c10 => ?_)
  · rw [if_pos c10] at h
    refine v_aload_n C (pc := 41) (i := 0) dX5_best_41 rfl ?_
    refine v_bipush C (pc := 42) (v := 8) dX5_best_42 (by decide) ?_
    refine v_iload_n C (pc := 44) (i := 1) dX5_best_44 rfl ?_
    refine v_imul C (pc := 45) dX5_best_45 ?_
    refine v_iload_n C (pc := 46) (i := 2) dX5_best_46 rfl ?_
    refine v_iadd C (pc := 47) dX5_best_47 ?_
    refine v_iload_n C (pc := 48) (i := 3) dX5_best_48 rfl ?_
    obtain ⟨y12, hy12, h⟩ := h
    obtain ⟨fsy12, hfy12⟩ := hC_some hy12
    obtain ⟨x11, e11, h⟩ := h
    refine v_pV C (pc := 49) (ci := 5) [.int ((8 * a1) + a2), .int a3] 2 (cX5_bestOf_met (kl κ) (kG κ) _ e11) hfy12 rfl gX5_best_X5_bestOf rfl hdX5_bestOf rfl rfl rfl (by rw [hR]; exact ⟨Nat.le_of_ble_eq_true rfl, Nat.le_of_ble_eq_true rfl⟩) (by rw [hR]; decide) (Nat.le_of_ble_eq_true rfl) rfl dX5_best_49 ?_
    exact v_eret (pc := 52) E rfl (nar_int _) ⟨_, rfl, h⟩ (by decide) (by decide) dX5_best_52
  · rw [if_neg c10] at h
    refine v_iconst C (pc := 37) (v := 0) dX5_best_37 (by decide) ?_
    refine v_goto C (pc := 38) (tgt := 52) dX5_best_38 (by decide) ?_
    exact v_eret (pc := 52) E rfl (nar_int _) ⟨_, rfl, h⟩ (by decide) (by decide) dX5_best_52
def wX5_best (M : hM) (o : Nat) (a1 : Int32) (a2 : Int32) (a3 : Int32) (Q : hM → Int32 → Prop) : Prop :=
  ∃ y2, hC M 5 (some o) = some y2 ∧
  ∃ x1, fX5_isIn M o a1 a2 = some x1 ∧
  if (x1 : Int32) = 0 then (
    bX5_best_31 o Q M a1 a2 a3 (some o) 1
  ) else (
    ∃ x4, gI M 5 1 (some o) = some x4 ∧
    ∃ x5, fX5_in a3 0 x4 = some x5 ∧
    if (x5 : Int32) = 0 then (
      bX5_best_31 o Q M a1 a2 a3 (some o) 2
    ) else (
      bX5_best_31 o Q M a1 a2 a3 (some o) 0
    )
  )
set_option maxRecDepth 100000 in
set_option maxHeartbeats 4000000 in
theorem cX5_best_met (l : Launch) (hfl : l.stackTraces = false) (G : hG) (M : hM) {o : Nat} {a1 : Int32} {a2 : Int32} {a3 : Int32} {Q : hM → Int32 → Prop} (h : wX5_best M o a1 a2 a3 Q) : hEMet l yX5_best wsX5_best rmX5_best [.ref o, .int a1, .int a2, .int a3] G M (hQi Q) (fun _ _ => False) 0 0 := by
  refine he_entry (own := RX5) (cc := cX5_best) (maxL := 4) (ret := (some .int)) (lv := [some (va_rf (some o)), some (.int a1), some (.int a2), some (.int a3)]) hfl (by decide) rfl rfl (hcc rfl (hcc rfl (hcc rfl (hcc rfl hc0)))) (Nat.le_of_ble_eq_true rfl) rfl (fun κ sz hG hl hR E ht hn => ?_)
  subst hG; subst hl
  unfold wX5_best at h
  have F := E.1
  have C := F.1
  refine v_aload_n C (pc := 0) (i := 0) dX5_best_0 rfl ?_
  refine v_aload_n C (pc := 1) (i := 0) dX5_best_1 rfl ?_
  refine v_iload_n C (pc := 2) (i := 1) dX5_best_2 rfl ?_
  refine v_iload_n C (pc := 3) (i := 2) dX5_best_3 rfl ?_
  obtain ⟨y2, hy2, h⟩ := h
  obtain ⟨fsy2, hfy2⟩ := hC_some hy2
  obtain ⟨x1, e1, h⟩ := h
  refine v_pV C (pc := 4) (ci := 5) [.int a1, .int a2] 2 (cX5_isIn_met (kl κ) (kG κ) _ e1) hfy2 rfl gX5_best_X5_isIn rfl hdX5_isIn rfl rfl rfl (by rw [hR]; exact ⟨Nat.le_of_ble_eq_true rfl, Nat.le_of_ble_eq_true rfl⟩) (by rw [hR]; decide) (Nat.le_of_ble_eq_true rfl) rfl dX5_best_4 ?_
  refine v_if_ne C (pc := 7) (tgt := 14) dX5_best_7 (by decide) (fun c3 => ?_) (fun c3 => ?_)
  · rw [if_neg c3] at h
    refine v_iload_n C (pc := 14) (i := 3) dX5_best_14 rfl ?_
    refine v_iconst C (pc := 15) (v := 0) dX5_best_15 (by decide) ?_
    refine v_aload_n C (pc := 16) (i := 0) dX5_best_16 rfl ?_
    obtain ⟨x4, e4, h⟩ := h
    refine v_getI C (pc := 17) (ci := 5) 1 iwX5_best_X5 rfl (by decide) flX5_best_135 e4 dX5_best_17 ?_
    obtain ⟨x5, e5, h⟩ := h
    refine v_pS C (pc := 20) [.int a3, .int 0, .int x4] 3 (cX5_in_met (kl κ) (kG κ) _ e5) gX5_best_X5_in rfl hdsX5_in rfl rfl rfl (by rw [hR]; exact ⟨Nat.le_of_ble_eq_true rfl, Nat.le_of_ble_eq_true rfl⟩) (by rw [hR]; decide) (Nat.le_of_ble_eq_true rfl) rfl dX5_best_20 ?_
    refine v_if_eq C (pc := 23) (tgt := 30) dX5_best_23 (by decide) (fun c6 => ?_) (fun c6 => ?_)
    · rw [if_pos c6] at h
      refine v_iconst C (pc := 30) (v := 2) dX5_best_30 (by decide) ?_
      exact tbX5_best_31 E hR ht  h
    · rw [if_neg c6] at h
      refine v_iconst C (pc := 26) (v := 0) dX5_best_26 (by decide) ?_
      refine v_goto C (pc := 27) (tgt := 31) dX5_best_27 (by decide) ?_
      exact tbX5_best_31 E hR ht  h
  · rw [if_pos c3] at h
    refine v_iconst C (pc := 10) (v := 1) dX5_best_10 (by decide) ?_
    refine v_goto C (pc := 11) (tgt := 31) dX5_best_11 (by decide) ?_
    exact tbX5_best_31 E hR ht  h
/-! X5_bestAnew -/
abbrev rmX5_bestAnew : Room := { frames := 7, cells := 0, slots := 0, locals := 173 }
def wX5_bestAnew (M : hM) (o : Nat) (a1 : Int32) (a2 : Int32) (a3 : Int32) (Q : hM → Int32 → Prop) : Prop :=
  ∃ y2, hC M 5 (some o) = some y2 ∧
  wX5_best M o a1 a2 a3 (fun M3 x1 =>
  Q M3 x1)
set_option maxRecDepth 100000 in
set_option maxHeartbeats 4000000 in
theorem cX5_bestAnew_met (l : Launch) (hfl : l.stackTraces = false) (G : hG) (M : hM) {o : Nat} {a1 : Int32} {a2 : Int32} {a3 : Int32} {Q : hM → Int32 → Prop} (h : wX5_bestAnew M o a1 a2 a3 Q) : hEMet l yX5_bestAnew wsX5_bestAnew rmX5_bestAnew [.ref o, .int a1, .int a2, .int a3] G M (hQi Q) (fun _ _ => False) 0 0 := by
  refine he_entry (own := RX5) (cc := cX5_bestAnew) (maxL := 4) (ret := (some .int)) (lv := [some (va_rf (some o)), some (.int a1), some (.int a2), some (.int a3)]) hfl (by decide) rfl rfl (hcc rfl (hcc rfl (hcc rfl (hcc rfl hc0)))) (Nat.le_of_ble_eq_true rfl) rfl (fun κ sz hG hl hR E ht hn => ?_)
  subst hG; subst hl
  unfold wX5_bestAnew at h
  have F := E.1
  have C := F.1
  refine v_aload_n C (pc := 0) (i := 0) dX5_bestAnew_0 rfl ?_
  refine v_iload_n C (pc := 1) (i := 1) dX5_bestAnew_1 rfl ?_
  refine v_iload_n C (pc := 2) (i := 2) dX5_bestAnew_2 rfl ?_
  refine v_iload_n C (pc := 3) (i := 3) dX5_bestAnew_3 rfl ?_
  obtain ⟨y2, hy2, h⟩ := h
  obtain ⟨fsy2, hfy2⟩ := hC_some hy2
  refine v_nV F (pc := 4) (ci := 5) [.int a1, .int a2, .int a3] 3 (cX5_best_met (kl κ) F.2.2.2.1 (kG κ) _ h) hfy2 rfl gX5_bestAnew_X5_best rfl hdX5_best rfl rfl rfl (by rw [hR]; exact ⟨Nat.le_of_ble_eq_true rfl, Nat.le_of_ble_eq_true rfl⟩) (by rw [hR]; decide) (Nat.le_of_ble_eq_true rfl) rfl dX5_bestAnew_4 (hk_i fun M3 x1 h => ?_)
  exact v_eret (pc := 7) E rfl (nar_int _) ⟨_, rfl, h⟩ (by decide) (by decide) dX5_bestAnew_7
/-! X5_lacks -/
abbrev rmX5_lacks : Room := { frames := 2, cells := 0, slots := 0, locals := 46 }
def bX5_lacks_15 (o : Nat) (Q : hM → Int32 → Prop) (M : hM) (a1 : Int32) (a2 : Int32) (s0 : Option Nat) (s1 : Int32) : Prop :=
  ∃ y5, hC M 5 s0 = some y5 ∧
  wX5_refused M y5 s1 (fun M6 x4 =>
  if (x4 : Int32) = 0 then (
    ∃ y9, hC M6 5 (some o) = some y9 ∧
    ∃ x8, fX5_lacking M6 o a1 a2 = some x8 ∧
    Q M6 x8
  ) else (
    Q M6 0
  ))
set_option maxRecDepth 100000 in
set_option maxHeartbeats 4000000 in
theorem tbX5_lacks_15 {κ : hKx} {M0 : hM} {sz : Nat} {o : Nat} {Q : hM → Int32 → Prop} (E : Ce κ RX5 cX5_lacks wsX5_lacks (some .int) M0 sz (hQi Q) (fun _ _ => False) 0 0) (hR : kR κ = rmX5_lacks) (ht : ∀ x ∈ (kc κ).exceptionTable.toList, False)  {M : hM} {a1 : Int32} {a2 : Int32} {s0 : Option Nat} {s1 : Int32}  (h : bX5_lacks_15 o Q M a1 a2 s0 s1) : VW κ 0 0 M 15 [some (va_rf (some o)), some (.int a1), some (.int a2)] [.int s1, va_rf s0] := by
  unfold bX5_lacks_15 at h
  have F := E.1
  have C := F.1
  obtain ⟨y5, hy5, hh⟩ := h
  skip
  obtain ⟨rfl, fsy5, hfy5⟩ := hC_inv hy5
  have h := hh
  clear hh
  refine v_nV F (pc := 15) (ci := 5) [.int s1] 1 (cX5_refused_met (kl κ) F.2.2.2.1 (kG κ) _ h) hfy5 rfl gX5_lacks_X5_refused rfl hdX5_refused rfl rfl rfl (by rw [hR]; exact ⟨Nat.le_of_ble_eq_true rfl, Nat.le_of_ble_eq_true rfl⟩) (by rw [hR]; decide) (Nat.le_of_ble_eq_true rfl) rfl dX5_lacks_15 (hk_i fun M6 x4 h => ?_)
  refine v_if_eq C (pc := 18) (tgt := 25) dX5_lacks_18 (by decide) (fun c7 => ?_) (fun c7 => ?_)
  · rw [if_pos c7] at h
    refine v_aload_n C (pc := 25) (i := 0) dX5_lacks_25 rfl ?_
    refine v_iload_n C (pc := 26) (i := 1) dX5_lacks_26 rfl ?_
    refine v_iload_n C (pc := 27) (i := 2) dX5_lacks_27 rfl ?_
    obtain ⟨y9, hy9, h⟩ := h
    obtain ⟨fsy9, hfy9⟩ := hC_some hy9
    obtain ⟨x8, e8, h⟩ := h
    refine v_pV C (pc := 28) (ci := 5) [.int a1, .int a2] 2 (cX5_lacking_met (kl κ) (kG κ) _ e8) hfy9 rfl gX5_lacks_X5_lacking rfl hdX5_lacking rfl rfl rfl (by rw [hR]; exact ⟨Nat.le_of_ble_eq_true rfl, Nat.le_of_ble_eq_true rfl⟩) (by rw [hR]; decide) (Nat.le_of_ble_eq_true rfl) rfl dX5_lacks_28 ?_
    exact v_eret (pc := 31) E rfl (nar_int _) ⟨_, rfl, h⟩ (by decide) (by decide) dX5_lacks_31
  · rw [if_neg c7] at h
    refine v_iconst C (pc := 21) (v := 0) dX5_lacks_21 (by decide) ?_
    refine v_goto C (pc := 22) (tgt := 31) dX5_lacks_22 (by decide) ?_
    exact v_eret (pc := 31) E rfl (nar_int _) ⟨_, rfl, h⟩ (by decide) (by decide) dX5_lacks_31
def wX5_lacks (M : hM) (o : Nat) (a1 : Int32) (a2 : Int32) (Q : hM → Int32 → Prop) : Prop :=
  ∃ y2, hC M 5 (some o) = some y2 ∧
  ∃ x1, fX5_isIn M o a1 a2 = some x1 ∧
  if (x1 : Int32) = 0 then (
    bX5_lacks_15 o Q M a1 a2 (some o) 1
  ) else (
    bX5_lacks_15 o Q M a1 a2 (some o) 0
  )
set_option maxRecDepth 100000 in
set_option maxHeartbeats 4000000 in
theorem cX5_lacks_met (l : Launch) (hfl : l.stackTraces = false) (G : hG) (M : hM) {o : Nat} {a1 : Int32} {a2 : Int32} {Q : hM → Int32 → Prop} (h : wX5_lacks M o a1 a2 Q) : hEMet l yX5_lacks wsX5_lacks rmX5_lacks [.ref o, .int a1, .int a2] G M (hQi Q) (fun _ _ => False) 0 0 := by
  refine he_entry (own := RX5) (cc := cX5_lacks) (maxL := 3) (ret := (some .int)) (lv := [some (va_rf (some o)), some (.int a1), some (.int a2)]) hfl (by decide) rfl rfl (hcc rfl (hcc rfl (hcc rfl hc0))) (Nat.le_of_ble_eq_true rfl) rfl (fun κ sz hG hl hR E ht hn => ?_)
  subst hG; subst hl
  unfold wX5_lacks at h
  have F := E.1
  have C := F.1
  refine v_aload_n C (pc := 0) (i := 0) dX5_lacks_0 rfl ?_
  refine v_aload_n C (pc := 1) (i := 0) dX5_lacks_1 rfl ?_
  refine v_iload_n C (pc := 2) (i := 1) dX5_lacks_2 rfl ?_
  refine v_iload_n C (pc := 3) (i := 2) dX5_lacks_3 rfl ?_
  obtain ⟨y2, hy2, h⟩ := h
  obtain ⟨fsy2, hfy2⟩ := hC_some hy2
  obtain ⟨x1, e1, h⟩ := h
  refine v_pV C (pc := 4) (ci := 5) [.int a1, .int a2] 2 (cX5_isIn_met (kl κ) (kG κ) _ e1) hfy2 rfl gX5_lacks_X5_isIn rfl hdX5_isIn rfl rfl rfl (by rw [hR]; exact ⟨Nat.le_of_ble_eq_true rfl, Nat.le_of_ble_eq_true rfl⟩) (by rw [hR]; decide) (Nat.le_of_ble_eq_true rfl) rfl dX5_lacks_4 ?_
  refine v_if_eq C (pc := 7) (tgt := 14) dX5_lacks_7 (by decide) (fun c3 => ?_) (fun c3 => ?_)
  · rw [if_pos c3] at h
    refine v_iconst C (pc := 14) (v := 1) dX5_lacks_14 (by decide) ?_
    exact tbX5_lacks_15 E hR ht  h
  · rw [if_neg c3] at h
    refine v_iconst C (pc := 10) (v := 0) dX5_lacks_10 (by decide) ?_
    refine v_goto C (pc := 11) (tgt := 15) dX5_lacks_11 (by decide) ?_
    exact tbX5_lacks_15 E hR ht  h
/-! X5_ofItem -/
abbrev rmX5_ofItem : Room := { frames := 2, cells := 0, slots := 0, locals := 43 }
theorem iwX5_ofItem_X5 : ∀ w ∈ u_ws RX5 TX5 38, w ∈ wsX5_ofItem := fun _ h => List.mem_cons_of_mem _ (List.mem_append_right _ (h))
theorem flX5_ofItem_31 : Cond.fieldLink RX5 31 "ChargehouseModel" "fileOf" "[I" ∈ wsX5_ofItem := List.mem_cons_of_mem _ (List.mem_append_left _ (List.mem_of_getElem? (i := 0) rfl))
theorem flX5_ofItem_34 : Cond.fieldLink RX5 34 "ChargehouseModel" "elementOf" "[I" ∈ wsX5_ofItem := List.mem_cons_of_mem _ (List.mem_append_left _ (List.mem_of_getElem? (i := 1) rfl))
theorem flX5_ofItem_37 : Cond.fieldLink RX5 37 "ChargehouseModel" "weights" "[I" ∈ wsX5_ofItem := List.mem_cons_of_mem _ (List.mem_append_left _ (List.mem_of_getElem? (i := 2) rfl))
theorem flX5_ofItem_40 : Cond.fieldLink RX5 40 "ChargehouseModel" "against" "[I" ∈ wsX5_ofItem := List.mem_cons_of_mem _ (List.mem_append_left _ (List.mem_of_getElem? (i := 3) rfl))
theorem flX5_ofItem_50 : Cond.fieldLink RX5 50 "ChargehouseModel" "came" "[I" ∈ wsX5_ofItem := List.mem_cons_of_mem _ (List.mem_append_left _ (List.mem_of_getElem? (i := 4) rfl))
theorem flX5_ofItem_53 : Cond.fieldLink RX5 53 "ChargehouseModel" "admitted" "[I" ∈ wsX5_ofItem := List.mem_cons_of_mem _ (List.mem_append_left _ (List.mem_of_getElem? (i := 5) rfl))
theorem flX5_ofItem_56 : Cond.fieldLink RX5 56 "ChargehouseModel" "shown" "[I" ∈ wsX5_ofItem := List.mem_cons_of_mem _ (List.mem_append_left _ (List.mem_of_getElem? (i := 6) rfl))
theorem flX5_ofItem_59 : Cond.fieldLink RX5 59 "ChargehouseModel" "isWithheld" "[Z" ∈ wsX5_ofItem := List.mem_cons_of_mem _ (List.mem_append_left _ (List.mem_of_getElem? (i := 7) rfl))
def bX5_ofItem_28 (o : Nat) (Q : hM → Int32 → Prop) (M : hM) (a1 : Int32) (a2 : Int32) (s0 : Option Nat) (s1 : Int32) : Prop :=
  ∃ y7, hC M 5 s0 = some y7 ∧
  wX5_refused M y7 s1 (fun M8 x6 =>
  if (x6 : Int32) = 0 then (
    if (a2 : Int32) = 0 then (
      ∃ x11, gR M8 5 12 (some o) = some x11 ∧
      ∃ x12, aI M8 0 x11 a1 = some x12 ∧
      Q M8 x12
    ) else (
      if (a2 : Int32) = 1 then (
        ∃ x14, gR M8 5 13 (some o) = some x14 ∧
        ∃ x15, aI M8 0 x14 a1 = some x15 ∧
        Q M8 x15
      ) else (
        if (a2 : Int32) = 2 then (
          ∃ x17, gR M8 5 14 (some o) = some x17 ∧
          ∃ x18, aI M8 0 x17 a1 = some x18 ∧
          Q M8 x18
        ) else (
          if (a2 : Int32) = 3 then (
            ∃ x20, gR M8 5 15 (some o) = some x20 ∧
            ∃ x21, aI M8 0 x20 a1 = some x21 ∧
            Q M8 x21
          ) else (
            if (a2 : Int32) = 4 then (
              ∃ x23, gR M8 5 18 (some o) = some x23 ∧
              ∃ x24, aI M8 0 x23 a1 = some x24 ∧
              Q M8 x24
            ) else (
              if (a2 : Int32) = 5 then (
                ∃ x26, gR M8 5 19 (some o) = some x26 ∧
                ∃ x27, aI M8 0 x26 a1 = some x27 ∧
                Q M8 x27
              ) else (
                if (a2 : Int32) = 6 then (
                  ∃ x29, gR M8 5 20 (some o) = some x29 ∧
                  ∃ x30, aI M8 0 x29 a1 = some x30 ∧
                  Q M8 x30
                ) else (
                    ∃ x31, gR M8 5 21 (some o) = some x31 ∧
                    ∃ x32, aI M8 1 x31 a1 = some x32 ∧
                    if (x32 : Int32) = 0 then (
                      Q M8 0
                    ) else (
                      Q M8 1
                    )
                )
              )
            )
          )
        )
      )
    )
  ) else (
    Q M8 0
  ))
set_option maxRecDepth 100000 in
set_option maxHeartbeats 4000000 in
theorem tbX5_ofItem_28 {κ : hKx} {M0 : hM} {sz : Nat} {o : Nat} {Q : hM → Int32 → Prop} (E : Ce κ RX5 cX5_ofItem wsX5_ofItem (some .int) M0 sz (hQi Q) (fun _ _ => False) 0 0) (hR : kR κ = rmX5_ofItem) (ht : ∀ x ∈ (kc κ).exceptionTable.toList, False)  {M : hM} {a1 : Int32} {a2 : Int32} {s0 : Option Nat} {s1 : Int32}  (h : bX5_ofItem_28 o Q M a1 a2 s0 s1) : VW κ 0 0 M 28 [some (va_rf (some o)), some (.int a1), some (.int a2)] [.int s1, va_rf s0] := by
  unfold bX5_ofItem_28 at h
  have F := E.1
  have C := F.1
  obtain ⟨y7, hy7, hh⟩ := h
  skip
  obtain ⟨rfl, fsy7, hfy7⟩ := hC_inv hy7
  have h := hh
  clear hh
  refine v_nV F (pc := 28) (ci := 5) [.int s1] 1 (cX5_refused_met (kl κ) F.2.2.2.1 (kG κ) _ h) hfy7 rfl gX5_ofItem_X5_refused rfl hdX5_refused rfl rfl rfl (by rw [hR]; exact ⟨Nat.le_of_ble_eq_true rfl, Nat.le_of_ble_eq_true rfl⟩) (by rw [hR]; decide) (Nat.le_of_ble_eq_true rfl) rfl dX5_ofItem_28 (hk_i fun M8 x6 h => ?_)
  refine v_if_eq C (pc := 31) (tgt := 36) dX5_ofItem_31 (by decide) (fun c9 => ?_) (fun c9 => ?_)
  · rw [if_pos c9] at h
    refine v_iload_n C (pc := 36) (i := 2) dX5_ofItem_36 rfl ?_
    by_cases c10 : (a2 : Int32) = 0
    · rw [if_pos c10] at h
      refine v_tabIn C (pc := 37) (tgt := 80) dX5_ofItem_37 c10 (by decide) (by decide) rfl (by decide) ?_
      refine v_aload_n C (pc := 80) (i := 0) dX5_ofItem_80 rfl ?_
      obtain ⟨x11, e11, h⟩ := h
      refine v_getR C (pc := 81) (ci := 5) 12 iwX5_ofItem_X5 rfl (by decide) flX5_ofItem_31 e11 dX5_ofItem_81 ?_
      refine v_iload_n C (pc := 84) (i := 1) dX5_ofItem_84 rfl ?_
      obtain ⟨x12, e12, h⟩ := h
      refine v_iald C (pc := 85) e12 dX5_ofItem_85 ?_
      exact v_eret (pc := 86) E rfl (nar_int _) ⟨_, rfl, h⟩ (by decide) (by decide) dX5_ofItem_86
    · rw [if_neg c10] at h
      by_cases c13 : (a2 : Int32) = 1
      · rw [if_pos c13] at h
        refine v_tabIn C (pc := 37) (tgt := 87) dX5_ofItem_37 c13 (by decide) (by decide) rfl (by decide) ?_
        refine v_aload_n C (pc := 87) (i := 0) dX5_ofItem_87 rfl ?_
        obtain ⟨x14, e14, h⟩ := h
        refine v_getR C (pc := 88) (ci := 5) 13 iwX5_ofItem_X5 rfl (by decide) flX5_ofItem_34 e14 dX5_ofItem_88 ?_
        refine v_iload_n C (pc := 91) (i := 1) dX5_ofItem_91 rfl ?_
        obtain ⟨x15, e15, h⟩ := h
        refine v_iald C (pc := 92) e15 dX5_ofItem_92 ?_
        exact v_eret (pc := 93) E rfl (nar_int _) ⟨_, rfl, h⟩ (by decide) (by decide) dX5_ofItem_93
      · rw [if_neg c13] at h
        by_cases c16 : (a2 : Int32) = 2
        · rw [if_pos c16] at h
          refine v_tabIn C (pc := 37) (tgt := 94) dX5_ofItem_37 c16 (by decide) (by decide) rfl (by decide) ?_
          refine v_aload_n C (pc := 94) (i := 0) dX5_ofItem_94 rfl ?_
          obtain ⟨x17, e17, h⟩ := h
          refine v_getR C (pc := 95) (ci := 5) 14 iwX5_ofItem_X5 rfl (by decide) flX5_ofItem_37 e17 dX5_ofItem_95 ?_
          refine v_iload_n C (pc := 98) (i := 1) dX5_ofItem_98 rfl ?_
          obtain ⟨x18, e18, h⟩ := h
          refine v_iald C (pc := 99) e18 dX5_ofItem_99 ?_
          exact v_eret (pc := 100) E rfl (nar_int _) ⟨_, rfl, h⟩ (by decide) (by decide) dX5_ofItem_100
        · rw [if_neg c16] at h
          by_cases c19 : (a2 : Int32) = 3
          · rw [if_pos c19] at h
            refine v_tabIn C (pc := 37) (tgt := 101) dX5_ofItem_37 c19 (by decide) (by decide) rfl (by decide) ?_
            refine v_aload_n C (pc := 101) (i := 0) dX5_ofItem_101 rfl ?_
            obtain ⟨x20, e20, h⟩ := h
            refine v_getR C (pc := 102) (ci := 5) 15 iwX5_ofItem_X5 rfl (by decide) flX5_ofItem_40 e20 dX5_ofItem_102 ?_
            refine v_iload_n C (pc := 105) (i := 1) dX5_ofItem_105 rfl ?_
            obtain ⟨x21, e21, h⟩ := h
            refine v_iald C (pc := 106) e21 dX5_ofItem_106 ?_
            exact v_eret (pc := 107) E rfl (nar_int _) ⟨_, rfl, h⟩ (by decide) (by decide) dX5_ofItem_107
          · rw [if_neg c19] at h
            by_cases c22 : (a2 : Int32) = 4
            · rw [if_pos c22] at h
              refine v_tabIn C (pc := 37) (tgt := 108) dX5_ofItem_37 c22 (by decide) (by decide) rfl (by decide) ?_
              refine v_aload_n C (pc := 108) (i := 0) dX5_ofItem_108 rfl ?_
              obtain ⟨x23, e23, h⟩ := h
              refine v_getR C (pc := 109) (ci := 5) 18 iwX5_ofItem_X5 rfl (by decide) flX5_ofItem_50 e23 dX5_ofItem_109 ?_
              refine v_iload_n C (pc := 112) (i := 1) dX5_ofItem_112 rfl ?_
              obtain ⟨x24, e24, h⟩ := h
              refine v_iald C (pc := 113) e24 dX5_ofItem_113 ?_
              exact v_eret (pc := 114) E rfl (nar_int _) ⟨_, rfl, h⟩ (by decide) (by decide) dX5_ofItem_114
            · rw [if_neg c22] at h
              by_cases c25 : (a2 : Int32) = 5
              · rw [if_pos c25] at h
                refine v_tabIn C (pc := 37) (tgt := 115) dX5_ofItem_37 c25 (by decide) (by decide) rfl (by decide) ?_
                refine v_aload_n C (pc := 115) (i := 0) dX5_ofItem_115 rfl ?_
                obtain ⟨x26, e26, h⟩ := h
                refine v_getR C (pc := 116) (ci := 5) 19 iwX5_ofItem_X5 rfl (by decide) flX5_ofItem_53 e26 dX5_ofItem_116 ?_
                refine v_iload_n C (pc := 119) (i := 1) dX5_ofItem_119 rfl ?_
                obtain ⟨x27, e27, h⟩ := h
                refine v_iald C (pc := 120) e27 dX5_ofItem_120 ?_
                exact v_eret (pc := 121) E rfl (nar_int _) ⟨_, rfl, h⟩ (by decide) (by decide) dX5_ofItem_121
              · rw [if_neg c25] at h
                by_cases c28 : (a2 : Int32) = 6
                · rw [if_pos c28] at h
                  refine v_tabIn C (pc := 37) (tgt := 122) dX5_ofItem_37 c28 (by decide) (by decide) rfl (by decide) ?_
                  refine v_aload_n C (pc := 122) (i := 0) dX5_ofItem_122 rfl ?_
                  obtain ⟨x29, e29, h⟩ := h
                  refine v_getR C (pc := 123) (ci := 5) 20 iwX5_ofItem_X5 rfl (by decide) flX5_ofItem_56 e29 dX5_ofItem_123 ?_
                  refine v_iload_n C (pc := 126) (i := 1) dX5_ofItem_126 rfl ?_
                  obtain ⟨x30, e30, h⟩ := h
                  refine v_iald C (pc := 127) e30 dX5_ofItem_127 ?_
                  exact v_eret (pc := 128) E rfl (nar_int _) ⟨_, rfl, h⟩ (by decide) (by decide) dX5_ofItem_128
                · rw [if_neg c28] at h
                  refine v_tabOut C (pc := 37) (n := 7) (tgt := 129) dX5_ofItem_37 (fun k hk => ?_) rfl (by decide) (by decide) ?_
                  · rcases (show k = 0 ∨ k = 1 ∨ k = 2 ∨ k = 3 ∨ k = 4 ∨ k = 5 ∨ k = 6 by omega) with rfl | rfl | rfl | rfl | rfl | rfl | rfl <;> assumption
                  · refine v_aload_n C (pc := 129) (i := 0) dX5_ofItem_129 rfl ?_
                    obtain ⟨x31, e31, h⟩ := h
                    refine v_getR C (pc := 130) (ci := 5) 21 iwX5_ofItem_X5 rfl (by decide) flX5_ofItem_59 e31 dX5_ofItem_130 ?_
                    refine v_iload_n C (pc := 133) (i := 1) dX5_ofItem_133 rfl ?_
                    obtain ⟨x32, e32, h⟩ := h
                    refine v_zald C (pc := 134) e32 dX5_ofItem_134 ?_
                    refine v_if_eq C (pc := 135) (tgt := 142) dX5_ofItem_135 (by decide) (fun c33 => ?_) (fun c33 => ?_)
                    · rw [if_pos c33] at h
                      refine v_iconst C (pc := 142) (v := 0) dX5_ofItem_142 (by decide) ?_
                      exact v_eret (pc := 143) E rfl (nar_int _) ⟨_, rfl, h⟩ (by decide) (by decide) dX5_ofItem_143
                    · rw [if_neg c33] at h
                      refine v_iconst C (pc := 138) (v := 1) dX5_ofItem_138 (by decide) ?_
                      refine v_goto C (pc := 139) (tgt := 143) dX5_ofItem_139 (by decide) ?_
                      exact v_eret (pc := 143) E rfl (nar_int _) ⟨_, rfl, h⟩ (by decide) (by decide) dX5_ofItem_143
  · rw [if_neg c9] at h
    refine v_iconst C (pc := 34) (v := 0) dX5_ofItem_34 (by decide) ?_
    exact v_eret (pc := 35) E rfl (nar_int _) ⟨_, rfl, h⟩ (by decide) (by decide) dX5_ofItem_35
def wX5_ofItem (M : hM) (o : Nat) (a1 : Int32) (a2 : Int32) (Q : hM → Int32 → Prop) : Prop :=
  ∃ y2, hC M 5 (some o) = some y2 ∧
  ∃ x1, fX5_isItem M o a1 = some x1 ∧
  if (x1 : Int32) = 0 then (
    bX5_ofItem_28 o Q M a1 a2 (some o) 1
  ) else (
    ∃ x4, fX5_in a2 0 7 = some x4 ∧
    if (x4 : Int32) = 0 then (
      bX5_ofItem_28 o Q M a1 a2 (some o) 2
    ) else (
      bX5_ofItem_28 o Q M a1 a2 (some o) 0
    )
  )
set_option maxRecDepth 100000 in
set_option maxHeartbeats 4000000 in
theorem cX5_ofItem_met (l : Launch) (hfl : l.stackTraces = false) (G : hG) (M : hM) {o : Nat} {a1 : Int32} {a2 : Int32} {Q : hM → Int32 → Prop} (h : wX5_ofItem M o a1 a2 Q) : hEMet l yX5_ofItem wsX5_ofItem rmX5_ofItem [.ref o, .int a1, .int a2] G M (hQi Q) (fun _ _ => False) 0 0 := by
  refine he_entry (own := RX5) (cc := cX5_ofItem) (maxL := 3) (ret := (some .int)) (lv := [some (va_rf (some o)), some (.int a1), some (.int a2)]) hfl (by decide) rfl rfl (hcc rfl (hcc rfl (hcc rfl hc0))) (Nat.le_of_ble_eq_true rfl) rfl (fun κ sz hG hl hR E ht hn => ?_)
  subst hG; subst hl
  unfold wX5_ofItem at h
  have F := E.1
  have C := F.1
  refine v_aload_n C (pc := 0) (i := 0) dX5_ofItem_0 rfl ?_
  refine v_aload_n C (pc := 1) (i := 0) dX5_ofItem_1 rfl ?_
  refine v_iload_n C (pc := 2) (i := 1) dX5_ofItem_2 rfl ?_
  obtain ⟨y2, hy2, h⟩ := h
  obtain ⟨fsy2, hfy2⟩ := hC_some hy2
  obtain ⟨x1, e1, h⟩ := h
  refine v_pV C (pc := 3) (ci := 5) [.int a1] 1 (cX5_isItem_met (kl κ) (kG κ) _ e1) hfy2 rfl gX5_ofItem_X5_isItem rfl hdX5_isItem rfl rfl rfl (by rw [hR]; exact ⟨Nat.le_of_ble_eq_true rfl, Nat.le_of_ble_eq_true rfl⟩) (by rw [hR]; decide) (Nat.le_of_ble_eq_true rfl) rfl dX5_ofItem_3 ?_
  refine v_if_ne C (pc := 6) (tgt := 13) dX5_ofItem_6 (by decide) (fun c3 => ?_) (fun c3 => ?_)
  · rw [if_neg c3] at h
    refine v_iload_n C (pc := 13) (i := 2) dX5_ofItem_13 rfl ?_
    refine v_iconst C (pc := 14) (v := 0) dX5_ofItem_14 (by decide) ?_
    refine v_bipush C (pc := 15) (v := 7) dX5_ofItem_15 (by decide) ?_
    obtain ⟨x4, e4, h⟩ := h
    refine v_pS C (pc := 17) [.int a2, .int 0, .int 7] 3 (cX5_in_met (kl κ) (kG κ) _ e4) gX5_ofItem_X5_in rfl hdsX5_in rfl rfl rfl (by rw [hR]; exact ⟨Nat.le_of_ble_eq_true rfl, Nat.le_of_ble_eq_true rfl⟩) (by rw [hR]; decide) (Nat.le_of_ble_eq_true rfl) rfl dX5_ofItem_17 ?_
    refine v_if_eq C (pc := 20) (tgt := 27) dX5_ofItem_20 (by decide) (fun c5 => ?_) (fun c5 => ?_)
    · rw [if_pos c5] at h
      refine v_iconst C (pc := 27) (v := 2) dX5_ofItem_27 (by decide) ?_
      exact tbX5_ofItem_28 E hR ht  h
    · rw [if_neg c5] at h
      refine v_iconst C (pc := 23) (v := 0) dX5_ofItem_23 (by decide) ?_
      refine v_goto C (pc := 24) (tgt := 28) dX5_ofItem_24 (by decide) ?_
      exact tbX5_ofItem_28 E hR ht  h
  · rw [if_pos c3] at h
    refine v_iconst C (pc := 9) (v := 1) dX5_ofItem_9 (by decide) ?_
    refine v_goto C (pc := 10) (tgt := 28) dX5_ofItem_10 (by decide) ?_
    exact tbX5_ofItem_28 E hR ht  h
/-! X5_ofAccused -/
abbrev rmX5_ofAccused : Room := { frames := 3, cells := 0, slots := 0, locals := 72 }
theorem iwX5_ofAccused_X5 : ∀ w ∈ u_ws RX5 TX5 38, w ∈ wsX5_ofAccused := fun _ h => List.mem_cons_of_mem _ (List.mem_append_right _ (h))
theorem flX5_ofAccused_62 : Cond.fieldLink RX5 62 "ChargehouseModel" "state" "[I" ∈ wsX5_ofAccused := List.mem_cons_of_mem _ (List.mem_append_left _ (List.mem_append_left _ (List.mem_of_getElem? (i := 0) rfl)))
theorem flX5_ofAccused_65 : Cond.fieldLink RX5 65 "ChargehouseModel" "charges" "[I" ∈ wsX5_ofAccused := List.mem_cons_of_mem _ (List.mem_append_left _ (List.mem_append_left _ (List.mem_of_getElem? (i := 1) rfl)))
theorem flX5_ofAccused_74 : Cond.fieldLink RX5 74 "ChargehouseModel" "isHeld" "[Z" ∈ wsX5_ofAccused := List.mem_cons_of_mem _ (List.mem_append_left _ (List.mem_append_left _ (List.mem_of_getElem? (i := 2) rfl)))
theorem flX5_ofAccused_77 : Cond.fieldLink RX5 77 "ChargehouseModel" "early" "[I" ∈ wsX5_ofAccused := List.mem_cons_of_mem _ (List.mem_append_left _ (List.mem_append_left _ (List.mem_of_getElem? (i := 3) rfl)))
theorem flX5_ofAccused_80 : Cond.fieldLink RX5 80 "ChargehouseModel" "later" "[I" ∈ wsX5_ofAccused := List.mem_cons_of_mem _ (List.mem_append_left _ (List.mem_append_left _ (List.mem_of_getElem? (i := 4) rfl)))
theorem flX5_ofAccused_89 : Cond.fieldLink RX5 89 "ChargehouseModel" "months" "[I" ∈ wsX5_ofAccused := List.mem_cons_of_mem _ (List.mem_append_left _ (List.mem_append_left _ (List.mem_of_getElem? (i := 5) rfl)))
theorem flX5_ofAccused_92 : Cond.fieldLink RX5 92 "ChargehouseModel" "convicted" "[I" ∈ wsX5_ofAccused := List.mem_cons_of_mem _ (List.mem_append_left _ (List.mem_append_left _ (List.mem_of_getElem? (i := 6) rfl)))
def bX5_ofAccused_29 (o : Nat) (Q : hM → Int32 → Prop) (M : hM) (a1 : Int32) (a2 : Int32) (a3 : Int32) (s0 : Option Nat) (s1 : Int32) : Prop :=
  ∃ y7, hC M 5 s0 = some y7 ∧
  wX5_refused M y7 s1 (fun M8 x6 =>
  if (x6 : Int32) = 0 then (
    if (a3 : Int32) = 0 then (
      ∃ x11, gR M8 5 22 (some o) = some x11 ∧
      ∃ x12, aI M8 0 x11 ((8 * a1) + a2) = some x12 ∧
      Q M8 x12
    ) else (
      if (a3 : Int32) = 1 then (
        ∃ x14, gR M8 5 23 (some o) = some x14 ∧
        ∃ x15, aI M8 0 x14 ((8 * a1) + a2) = some x15 ∧
        Q M8 x15
      ) else (
        if (a3 : Int32) = 2 then (
          ∃ x17, gR M8 5 26 (some o) = some x17 ∧
          ∃ x18, aI M8 1 x17 ((8 * a1) + a2) = some x18 ∧
          if (x18 : Int32) = 0 then (
            Q M8 0
          ) else (
            Q M8 1
          )
        ) else (
          if (a3 : Int32) = 3 then (
            ∃ x21, gR M8 5 27 (some o) = some x21 ∧
            ∃ x22, aI M8 0 x21 ((8 * a1) + a2) = some x22 ∧
            Q M8 x22
          ) else (
            if (a3 : Int32) = 4 then (
              ∃ x24, gR M8 5 28 (some o) = some x24 ∧
              ∃ x25, aI M8 0 x24 ((8 * a1) + a2) = some x25 ∧
              Q M8 x25
            ) else (
              if (a3 : Int32) = 5 then (
                ∃ x27, gR M8 5 31 (some o) = some x27 ∧
                ∃ x28, aI M8 0 x27 ((8 * a1) + a2) = some x28 ∧
                Q M8 x28
              ) else (
                if (a3 : Int32) = 6 then (
                  ∃ x30, gR M8 5 32 (some o) = some x30 ∧
                  ∃ x31, aI M8 0 x30 ((8 * a1) + a2) = some x31 ∧
                  Q M8 x31
                ) else (
                    ∃ y33, hC M8 5 (some o) = some y33 ∧
                    ∃ x32, fX5_spentBy M8 o ((8 * a1) + a2) = some x32 ∧
                    Q M8 x32
                )
              )
            )
          )
        )
      )
    )
  ) else (
    Q M8 0
  ))
set_option maxRecDepth 100000 in
set_option maxHeartbeats 4000000 in
theorem tbX5_ofAccused_29 {κ : hKx} {M0 : hM} {sz : Nat} {o : Nat} {Q : hM → Int32 → Prop} (E : Ce κ RX5 cX5_ofAccused wsX5_ofAccused (some .int) M0 sz (hQi Q) (fun _ _ => False) 0 0) (hR : kR κ = rmX5_ofAccused) (ht : ∀ x ∈ (kc κ).exceptionTable.toList, False)  {M : hM} {a1 : Int32} {a2 : Int32} {a3 : Int32} {s0 : Option Nat} {s1 : Int32}  (h : bX5_ofAccused_29 o Q M a1 a2 a3 s0 s1) : VW κ 0 0 M 29 [some (va_rf (some o)), some (.int a1), some (.int a2), some (.int a3), none] [.int s1, va_rf s0] := by
  unfold bX5_ofAccused_29 at h
  have F := E.1
  have C := F.1
  obtain ⟨y7, hy7, hh⟩ := h
  skip
  obtain ⟨rfl, fsy7, hfy7⟩ := hC_inv hy7
  have h := hh
  clear hh
  refine v_nV F (pc := 29) (ci := 5) [.int s1] 1 (cX5_refused_met (kl κ) F.2.2.2.1 (kG κ) _ h) hfy7 rfl gX5_ofAccused_X5_refused rfl hdX5_refused rfl rfl rfl (by rw [hR]; exact ⟨Nat.le_of_ble_eq_true rfl, Nat.le_of_ble_eq_true rfl⟩) (by rw [hR]; decide) (Nat.le_of_ble_eq_true rfl) rfl dX5_ofAccused_29 (hk_i fun M8 x6 h => ?_)
  refine v_if_eq C (pc := 32) (tgt := 37) dX5_ofAccused_32 (by decide) (fun c9 => ?_) (fun c9 => ?_)
  · rw [if_pos c9] at h
    refine v_bipush C (pc := 37) (v := 8) dX5_ofAccused_37 (by decide) ?_
    refine v_iload_n C (pc := 39) (i := 1) dX5_ofAccused_39 rfl ?_
    refine v_imul C (pc := 40) dX5_ofAccused_40 ?_
    refine v_iload_n C (pc := 41) (i := 2) dX5_ofAccused_41 rfl ?_
    refine v_iadd C (pc := 42) dX5_ofAccused_42 ?_
    refine v_istore C (pc := 43) (i := 4) (lv' := [some (va_rf (some o)), some (.int a1), some (.int a2), some (.int a3), some (.int ((8 * a1) + a2))]) dX5_ofAccused_43 rfl rfl ?_
    refine v_iload_n C (pc := 45) (i := 3) dX5_ofAccused_45 rfl ?_
    by_cases c10 : (a3 : Int32) = 0
    · rw [if_pos c10] at h
      refine v_tabIn C (pc := 46) (tgt := 88) dX5_ofAccused_46 c10 (by decide) (by decide) rfl (by decide) ?_
      refine v_aload_n C (pc := 88) (i := 0) dX5_ofAccused_88 rfl ?_
      obtain ⟨x11, e11, h⟩ := h
      refine v_getR C (pc := 89) (ci := 5) 22 iwX5_ofAccused_X5 rfl (by decide) flX5_ofAccused_62 e11 dX5_ofAccused_89 ?_
      refine v_iload C (pc := 92) (i := 4) dX5_ofAccused_92 rfl ?_
      obtain ⟨x12, e12, h⟩ := h
      refine v_iald C (pc := 94) e12 dX5_ofAccused_94 ?_
      exact v_eret (pc := 95) E rfl (nar_int _) ⟨_, rfl, h⟩ (by decide) (by decide) dX5_ofAccused_95
    · rw [if_neg c10] at h
      by_cases c13 : (a3 : Int32) = 1
      · rw [if_pos c13] at h
        refine v_tabIn C (pc := 46) (tgt := 96) dX5_ofAccused_46 c13 (by decide) (by decide) rfl (by decide) ?_
        refine v_aload_n C (pc := 96) (i := 0) dX5_ofAccused_96 rfl ?_
        obtain ⟨x14, e14, h⟩ := h
        refine v_getR C (pc := 97) (ci := 5) 23 iwX5_ofAccused_X5 rfl (by decide) flX5_ofAccused_65 e14 dX5_ofAccused_97 ?_
        refine v_iload C (pc := 100) (i := 4) dX5_ofAccused_100 rfl ?_
        obtain ⟨x15, e15, h⟩ := h
        refine v_iald C (pc := 102) e15 dX5_ofAccused_102 ?_
        exact v_eret (pc := 103) E rfl (nar_int _) ⟨_, rfl, h⟩ (by decide) (by decide) dX5_ofAccused_103
      · rw [if_neg c13] at h
        by_cases c16 : (a3 : Int32) = 2
        · rw [if_pos c16] at h
          refine v_tabIn C (pc := 46) (tgt := 104) dX5_ofAccused_46 c16 (by decide) (by decide) rfl (by decide) ?_
          refine v_aload_n C (pc := 104) (i := 0) dX5_ofAccused_104 rfl ?_
          obtain ⟨x17, e17, h⟩ := h
          refine v_getR C (pc := 105) (ci := 5) 26 iwX5_ofAccused_X5 rfl (by decide) flX5_ofAccused_74 e17 dX5_ofAccused_105 ?_
          refine v_iload C (pc := 108) (i := 4) dX5_ofAccused_108 rfl ?_
          obtain ⟨x18, e18, h⟩ := h
          refine v_zald C (pc := 110) e18 dX5_ofAccused_110 ?_
          refine v_if_eq C (pc := 111) (tgt := 118) dX5_ofAccused_111 (by decide) (fun c19 => ?_) (fun c19 => ?_)
          · rw [if_pos c19] at h
            refine v_iconst C (pc := 118) (v := 0) dX5_ofAccused_118 (by decide) ?_
            exact v_eret (pc := 119) E rfl (nar_int _) ⟨_, rfl, h⟩ (by decide) (by decide) dX5_ofAccused_119
          · rw [if_neg c19] at h
            refine v_iconst C (pc := 114) (v := 1) dX5_ofAccused_114 (by decide) ?_
            refine v_goto C (pc := 115) (tgt := 119) dX5_ofAccused_115 (by decide) ?_
            exact v_eret (pc := 119) E rfl (nar_int _) ⟨_, rfl, h⟩ (by decide) (by decide) dX5_ofAccused_119
        · rw [if_neg c16] at h
          by_cases c20 : (a3 : Int32) = 3
          · rw [if_pos c20] at h
            refine v_tabIn C (pc := 46) (tgt := 120) dX5_ofAccused_46 c20 (by decide) (by decide) rfl (by decide) ?_
            refine v_aload_n C (pc := 120) (i := 0) dX5_ofAccused_120 rfl ?_
            obtain ⟨x21, e21, h⟩ := h
            refine v_getR C (pc := 121) (ci := 5) 27 iwX5_ofAccused_X5 rfl (by decide) flX5_ofAccused_77 e21 dX5_ofAccused_121 ?_
            refine v_iload C (pc := 124) (i := 4) dX5_ofAccused_124 rfl ?_
            obtain ⟨x22, e22, h⟩ := h
            refine v_iald C (pc := 126) e22 dX5_ofAccused_126 ?_
            exact v_eret (pc := 127) E rfl (nar_int _) ⟨_, rfl, h⟩ (by decide) (by decide) dX5_ofAccused_127
          · rw [if_neg c20] at h
            by_cases c23 : (a3 : Int32) = 4
            · rw [if_pos c23] at h
              refine v_tabIn C (pc := 46) (tgt := 128) dX5_ofAccused_46 c23 (by decide) (by decide) rfl (by decide) ?_
              refine v_aload_n C (pc := 128) (i := 0) dX5_ofAccused_128 rfl ?_
              obtain ⟨x24, e24, h⟩ := h
              refine v_getR C (pc := 129) (ci := 5) 28 iwX5_ofAccused_X5 rfl (by decide) flX5_ofAccused_80 e24 dX5_ofAccused_129 ?_
              refine v_iload C (pc := 132) (i := 4) dX5_ofAccused_132 rfl ?_
              obtain ⟨x25, e25, h⟩ := h
              refine v_iald C (pc := 134) e25 dX5_ofAccused_134 ?_
              exact v_eret (pc := 135) E rfl (nar_int _) ⟨_, rfl, h⟩ (by decide) (by decide) dX5_ofAccused_135
            · rw [if_neg c23] at h
              by_cases c26 : (a3 : Int32) = 5
              · rw [if_pos c26] at h
                refine v_tabIn C (pc := 46) (tgt := 136) dX5_ofAccused_46 c26 (by decide) (by decide) rfl (by decide) ?_
                refine v_aload_n C (pc := 136) (i := 0) dX5_ofAccused_136 rfl ?_
                obtain ⟨x27, e27, h⟩ := h
                refine v_getR C (pc := 137) (ci := 5) 31 iwX5_ofAccused_X5 rfl (by decide) flX5_ofAccused_89 e27 dX5_ofAccused_137 ?_
                refine v_iload C (pc := 140) (i := 4) dX5_ofAccused_140 rfl ?_
                obtain ⟨x28, e28, h⟩ := h
                refine v_iald C (pc := 142) e28 dX5_ofAccused_142 ?_
                exact v_eret (pc := 143) E rfl (nar_int _) ⟨_, rfl, h⟩ (by decide) (by decide) dX5_ofAccused_143
              · rw [if_neg c26] at h
                by_cases c29 : (a3 : Int32) = 6
                · rw [if_pos c29] at h
                  refine v_tabIn C (pc := 46) (tgt := 144) dX5_ofAccused_46 c29 (by decide) (by decide) rfl (by decide) ?_
                  refine v_aload_n C (pc := 144) (i := 0) dX5_ofAccused_144 rfl ?_
                  obtain ⟨x30, e30, h⟩ := h
                  refine v_getR C (pc := 145) (ci := 5) 32 iwX5_ofAccused_X5 rfl (by decide) flX5_ofAccused_92 e30 dX5_ofAccused_145 ?_
                  refine v_iload C (pc := 148) (i := 4) dX5_ofAccused_148 rfl ?_
                  obtain ⟨x31, e31, h⟩ := h
                  refine v_iald C (pc := 150) e31 dX5_ofAccused_150 ?_
                  exact v_eret (pc := 151) E rfl (nar_int _) ⟨_, rfl, h⟩ (by decide) (by decide) dX5_ofAccused_151
                · rw [if_neg c29] at h
                  refine v_tabOut C (pc := 46) (n := 7) (tgt := 152) dX5_ofAccused_46 (fun k hk => ?_) rfl (by decide) (by decide) ?_
                  · rcases (show k = 0 ∨ k = 1 ∨ k = 2 ∨ k = 3 ∨ k = 4 ∨ k = 5 ∨ k = 6 by omega) with rfl | rfl | rfl | rfl | rfl | rfl | rfl <;> assumption
                  · refine v_aload_n C (pc := 152) (i := 0) dX5_ofAccused_152 rfl ?_
                    refine v_iload C (pc := 153) (i := 4) dX5_ofAccused_153 rfl ?_
                    obtain ⟨y33, hy33, h⟩ := h
                    obtain ⟨fsy33, hfy33⟩ := hC_some hy33
                    obtain ⟨x32, e32, h⟩ := h
                    refine v_pV C (pc := 155) (ci := 5) [.int ((8 * a1) + a2)] 1 (cX5_spentBy_met (kl κ) (kG κ) _ e32) hfy33 rfl gX5_ofAccused_X5_spentBy rfl hdX5_spentBy rfl rfl rfl (by rw [hR]; exact ⟨Nat.le_of_ble_eq_true rfl, Nat.le_of_ble_eq_true rfl⟩) (by rw [hR]; decide) (Nat.le_of_ble_eq_true rfl) rfl dX5_ofAccused_155 ?_
                    exact v_eret (pc := 158) E rfl (nar_int _) ⟨_, rfl, h⟩ (by decide) (by decide) dX5_ofAccused_158
  · rw [if_neg c9] at h
    refine v_iconst C (pc := 35) (v := 0) dX5_ofAccused_35 (by decide) ?_
    exact v_eret (pc := 36) E rfl (nar_int _) ⟨_, rfl, h⟩ (by decide) (by decide) dX5_ofAccused_36
def wX5_ofAccused (M : hM) (o : Nat) (a1 : Int32) (a2 : Int32) (a3 : Int32) (Q : hM → Int32 → Prop) : Prop :=
  ∃ y2, hC M 5 (some o) = some y2 ∧
  ∃ x1, fX5_isIn M o a1 a2 = some x1 ∧
  if (x1 : Int32) = 0 then (
    bX5_ofAccused_29 o Q M a1 a2 a3 (some o) 1
  ) else (
    ∃ x4, fX5_in a3 0 7 = some x4 ∧
    if (x4 : Int32) = 0 then (
      bX5_ofAccused_29 o Q M a1 a2 a3 (some o) 2
    ) else (
      bX5_ofAccused_29 o Q M a1 a2 a3 (some o) 0
    )
  )
set_option maxRecDepth 100000 in
set_option maxHeartbeats 4000000 in
theorem cX5_ofAccused_met (l : Launch) (hfl : l.stackTraces = false) (G : hG) (M : hM) {o : Nat} {a1 : Int32} {a2 : Int32} {a3 : Int32} {Q : hM → Int32 → Prop} (h : wX5_ofAccused M o a1 a2 a3 Q) : hEMet l yX5_ofAccused wsX5_ofAccused rmX5_ofAccused [.ref o, .int a1, .int a2, .int a3] G M (hQi Q) (fun _ _ => False) 0 0 := by
  refine he_entry (own := RX5) (cc := cX5_ofAccused) (maxL := 5) (ret := (some .int)) (lv := [some (va_rf (some o)), some (.int a1), some (.int a2), some (.int a3), none]) hfl (by decide) rfl rfl (hcc rfl (hcc rfl (hcc rfl (hcc rfl hc0)))) (Nat.le_of_ble_eq_true rfl) rfl (fun κ sz hG hl hR E ht hn => ?_)
  subst hG; subst hl
  unfold wX5_ofAccused at h
  have F := E.1
  have C := F.1
  refine v_aload_n C (pc := 0) (i := 0) dX5_ofAccused_0 rfl ?_
  refine v_aload_n C (pc := 1) (i := 0) dX5_ofAccused_1 rfl ?_
  refine v_iload_n C (pc := 2) (i := 1) dX5_ofAccused_2 rfl ?_
  refine v_iload_n C (pc := 3) (i := 2) dX5_ofAccused_3 rfl ?_
  obtain ⟨y2, hy2, h⟩ := h
  obtain ⟨fsy2, hfy2⟩ := hC_some hy2
  obtain ⟨x1, e1, h⟩ := h
  refine v_pV C (pc := 4) (ci := 5) [.int a1, .int a2] 2 (cX5_isIn_met (kl κ) (kG κ) _ e1) hfy2 rfl gX5_ofAccused_X5_isIn rfl hdX5_isIn rfl rfl rfl (by rw [hR]; exact ⟨Nat.le_of_ble_eq_true rfl, Nat.le_of_ble_eq_true rfl⟩) (by rw [hR]; decide) (Nat.le_of_ble_eq_true rfl) rfl dX5_ofAccused_4 ?_
  refine v_if_ne C (pc := 7) (tgt := 14) dX5_ofAccused_7 (by decide) (fun c3 => ?_) (fun c3 => ?_)
  · rw [if_neg c3] at h
    refine v_iload_n C (pc := 14) (i := 3) dX5_ofAccused_14 rfl ?_
    refine v_iconst C (pc := 15) (v := 0) dX5_ofAccused_15 (by decide) ?_
    refine v_bipush C (pc := 16) (v := 7) dX5_ofAccused_16 (by decide) ?_
    obtain ⟨x4, e4, h⟩ := h
    refine v_pS C (pc := 18) [.int a3, .int 0, .int 7] 3 (cX5_in_met (kl κ) (kG κ) _ e4) gX5_ofAccused_X5_in rfl hdsX5_in rfl rfl rfl (by rw [hR]; exact ⟨Nat.le_of_ble_eq_true rfl, Nat.le_of_ble_eq_true rfl⟩) (by rw [hR]; decide) (Nat.le_of_ble_eq_true rfl) rfl dX5_ofAccused_18 ?_
    refine v_if_eq C (pc := 21) (tgt := 28) dX5_ofAccused_21 (by decide) (fun c5 => ?_) (fun c5 => ?_)
    · rw [if_pos c5] at h
      refine v_iconst C (pc := 28) (v := 2) dX5_ofAccused_28 (by decide) ?_
      exact tbX5_ofAccused_29 E hR ht  h
    · rw [if_neg c5] at h
      refine v_iconst C (pc := 24) (v := 0) dX5_ofAccused_24 (by decide) ?_
      refine v_goto C (pc := 25) (tgt := 29) dX5_ofAccused_25 (by decide) ?_
      exact tbX5_ofAccused_29 E hR ht  h
  · rw [if_pos c3] at h
    refine v_iconst C (pc := 10) (v := 1) dX5_ofAccused_10 (by decide) ?_
    refine v_goto C (pc := 11) (tgt := 29) dX5_ofAccused_11 (by decide) ?_
    exact tbX5_ofAccused_29 E hR ht  h
/-! X5_count -/
abbrev rmX5_count : Room := { frames := 1, cells := 0, slots := 0, locals := 22 }
theorem iwX5_count_X5 : ∀ w ∈ u_ws RX5 TX5 38, w ∈ wsX5_count := fun _ h => List.mem_cons_of_mem _ (List.mem_append_right _ (h))
theorem flX5_count_104 : Cond.fieldLink RX5 104 "ChargehouseModel" "counts" "[I" ∈ wsX5_count := List.mem_cons_of_mem _ (List.mem_append_left _ (List.mem_of_getElem? (i := 0) rfl))
def bX5_count_15 (o : Nat) (Q : hM → Int32 → Prop) (M : hM) (a1 : Int32) (s0 : Option Nat) (s1 : Int32) : Prop :=
  ∃ y4, hC M 5 s0 = some y4 ∧
  wX5_refused M y4 s1 (fun M5 x3 =>
  if (x3 : Int32) = 0 then (
    ∃ x7, gR M5 5 37 (some o) = some x7 ∧
    ∃ x8, aI M5 0 x7 a1 = some x8 ∧
    Q M5 x8
  ) else (
    Q M5 0
  ))
set_option maxRecDepth 100000 in
set_option maxHeartbeats 4000000 in
theorem tbX5_count_15 {κ : hKx} {M0 : hM} {sz : Nat} {o : Nat} {Q : hM → Int32 → Prop} (E : Ce κ RX5 cX5_count wsX5_count (some .int) M0 sz (hQi Q) (fun _ _ => False) 0 0) (hR : kR κ = rmX5_count) (ht : ∀ x ∈ (kc κ).exceptionTable.toList, False)  {M : hM} {a1 : Int32} {s0 : Option Nat} {s1 : Int32}  (h : bX5_count_15 o Q M a1 s0 s1) : VW κ 0 0 M 15 [some (va_rf (some o)), some (.int a1)] [.int s1, va_rf s0] := by
  unfold bX5_count_15 at h
  have F := E.1
  have C := F.1
  obtain ⟨y4, hy4, hh⟩ := h
  skip
  obtain ⟨rfl, fsy4, hfy4⟩ := hC_inv hy4
  have h := hh
  clear hh
  refine v_nV F (pc := 15) (ci := 5) [.int s1] 1 (cX5_refused_met (kl κ) F.2.2.2.1 (kG κ) _ h) hfy4 rfl gX5_count_X5_refused rfl hdX5_refused rfl rfl rfl (by rw [hR]; exact ⟨Nat.le_of_ble_eq_true rfl, Nat.le_of_ble_eq_true rfl⟩) (by rw [hR]; decide) (Nat.le_of_ble_eq_true rfl) rfl dX5_count_15 (hk_i fun M5 x3 h => ?_)
  refine v_if_eq C (pc := 18) (tgt := 25) dX5_count_18 (by decide) (fun c6 => ?_) (fun c6 => ?_)
  · rw [if_pos c6] at h
    refine v_aload_n C (pc := 25) (i := 0) dX5_count_25 rfl ?_
    obtain ⟨x7, e7, h⟩ := h
    refine v_getR C (pc := 26) (ci := 5) 37 iwX5_count_X5 rfl (by decide) flX5_count_104 e7 dX5_count_26 ?_
    refine v_iload_n C (pc := 29) (i := 1) dX5_count_29 rfl ?_
    obtain ⟨x8, e8, h⟩ := h
    refine v_iald C (pc := 30) e8 dX5_count_30 ?_
    exact v_eret (pc := 31) E rfl (nar_int _) ⟨_, rfl, h⟩ (by decide) (by decide) dX5_count_31
  · rw [if_neg c6] at h
    refine v_iconst C (pc := 21) (v := 0) dX5_count_21 (by decide) ?_
    refine v_goto C (pc := 22) (tgt := 31) dX5_count_22 (by decide) ?_
    exact v_eret (pc := 31) E rfl (nar_int _) ⟨_, rfl, h⟩ (by decide) (by decide) dX5_count_31
def wX5_count (M : hM) (o : Nat) (a1 : Int32) (Q : hM → Int32 → Prop) : Prop :=
  ∃ x1, fX5_in a1 0 5 = some x1 ∧
  if (x1 : Int32) = 0 then (
    bX5_count_15 o Q M a1 (some o) 1
  ) else (
    bX5_count_15 o Q M a1 (some o) 0
  )
set_option maxRecDepth 100000 in
set_option maxHeartbeats 4000000 in
theorem cX5_count_met (l : Launch) (hfl : l.stackTraces = false) (G : hG) (M : hM) {o : Nat} {a1 : Int32} {Q : hM → Int32 → Prop} (h : wX5_count M o a1 Q) : hEMet l yX5_count wsX5_count rmX5_count [.ref o, .int a1] G M (hQi Q) (fun _ _ => False) 0 0 := by
  refine he_entry (own := RX5) (cc := cX5_count) (maxL := 2) (ret := (some .int)) (lv := [some (va_rf (some o)), some (.int a1)]) hfl (by decide) rfl rfl (hcc rfl (hcc rfl hc0)) (Nat.le_of_ble_eq_true rfl) rfl (fun κ sz hG hl hR E ht hn => ?_)
  subst hG; subst hl
  unfold wX5_count at h
  have F := E.1
  have C := F.1
  refine v_aload_n C (pc := 0) (i := 0) dX5_count_0 rfl ?_
  refine v_iload_n C (pc := 1) (i := 1) dX5_count_1 rfl ?_
  refine v_iconst C (pc := 2) (v := 0) dX5_count_2 (by decide) ?_
  refine v_iconst C (pc := 3) (v := 5) dX5_count_3 (by decide) ?_
  obtain ⟨x1, e1, h⟩ := h
  refine v_pS C (pc := 4) [.int a1, .int 0, .int 5] 3 (cX5_in_met (kl κ) (kG κ) _ e1) gX5_count_X5_in rfl hdsX5_in rfl rfl rfl (by rw [hR]; exact ⟨Nat.le_of_ble_eq_true rfl, Nat.le_of_ble_eq_true rfl⟩) (by rw [hR]; decide) (Nat.le_of_ble_eq_true rfl) rfl dX5_count_4 ?_
  refine v_if_eq C (pc := 7) (tgt := 14) dX5_count_7 (by decide) (fun c2 => ?_) (fun c2 => ?_)
  · rw [if_pos c2] at h
    refine v_iconst C (pc := 14) (v := 1) dX5_count_14 (by decide) ?_
    exact tbX5_count_15 E hR ht  h
  · rw [if_neg c2] at h
    refine v_iconst C (pc := 10) (v := 0) dX5_count_10 (by decide) ?_
    refine v_goto C (pc := 11) (tgt := 15) dX5_count_11 (by decide) ?_
    exact tbX5_count_15 E hR ht  h
