/-! L_isHeld -/
abbrev rmL_isHeld : Room := { frames := 9, cells := 0, slots := 0, locals := 162 }
def vsL_isHeld : List Cond := wsL_isHeld ++ hL3
def bL_isHeld_231 (Q : hM → Int32 → Prop) (M : hM) (a2 : Option Nat) (a3 : Int32) (a6 : Int32) (a7 : Int32) (a8 : Int32) (a9 : Int32) (s0 : Int32) : Prop :=
  ∃ M7, sI M 0 a2 a3 a7 = some M7 ∧
  ∃ M8, sI M7 0 a2 (a3 + 1) a8 = some M8 ∧
  ∃ M9, sI M8 0 a2 (a3 + 2) a9 = some M9 ∧
  ∃ M10, sI M9 0 a2 (a3 + 3) a6 = some M10 ∧
  (s0 = 0 ∨ s0 = 1) ∧ Q M10 s0
set_option maxRecDepth 100000 in
set_option maxHeartbeats 4000000 in
theorem tbL_isHeld_231 {κ : hKx} {M0 : hM} {sz : Nat} {Q : hM → Int32 → Prop} (E : Ce κ RL cL_isHeld vsL_isHeld (some .boolean) M0 sz (hQi Q) (fun _ _ => False) 0 0) (hR : kR κ = rmL_isHeld) (ht : ∀ x ∈ (kc κ).exceptionTable.toList, False)  {M : hM} {a2 : Option Nat} {a3 : Int32} {a6 : Int32} {a7 : Int32} {a8 : Int32} {a9 : Int32} {s0 : Int32}  (h : bL_isHeld_231 Q M a2 a3 a6 a7 a8 a9 s0) : VW κ 0 0 M 231 [none, none, some (va_rf a2), some (.int a3), none, none, some (.int a6), some (.int a7), some (.int a8), some (.int a9), none] [.int s0] := by
  unfold bL_isHeld_231 at h
  have F := E.1
  have C := F.1
  refine v_istore C (pc := 231) (i := 10) (lv' := [none, none, some (va_rf a2), some (.int a3), none, none, some (.int a6), some (.int a7), some (.int a8), some (.int a9), some (.int s0)]) dL_isHeld_231 rfl (lw_bi (j := 9) rfl) rfl ?_
  refine v_aload_n C (pc := 233) (i := 2) dL_isHeld_233 rfl ?_
  refine v_iload_n C (pc := 234) (i := 3) dL_isHeld_234 rfl ?_
  refine v_iload C (pc := 235) (i := 7) dL_isHeld_235 rfl ?_
  obtain ⟨M7, e7, h⟩ := h
  refine v_iast F (pc := 237) e7 dL_isHeld_237 ?_
  refine v_aload_n C (pc := 238) (i := 2) dL_isHeld_238 rfl ?_
  refine v_iload_n C (pc := 239) (i := 3) dL_isHeld_239 rfl ?_
  refine v_iconst C (pc := 240) (v := 1) dL_isHeld_240 (by decide) ?_
  refine v_iadd C (pc := 241) dL_isHeld_241 ?_
  refine v_iload C (pc := 242) (i := 8) dL_isHeld_242 rfl ?_
  obtain ⟨M8, e8, h⟩ := h
  refine v_iast F (pc := 244) e8 dL_isHeld_244 ?_
  refine v_aload_n C (pc := 245) (i := 2) dL_isHeld_245 rfl ?_
  refine v_iload_n C (pc := 246) (i := 3) dL_isHeld_246 rfl ?_
  refine v_iconst C (pc := 247) (v := 2) dL_isHeld_247 (by decide) ?_
  refine v_iadd C (pc := 248) dL_isHeld_248 ?_
  refine v_iload C (pc := 249) (i := 9) dL_isHeld_249 rfl ?_
  obtain ⟨M9, e9, h⟩ := h
  refine v_iast F (pc := 251) e9 dL_isHeld_251 ?_
  refine v_aload_n C (pc := 252) (i := 2) dL_isHeld_252 rfl ?_
  refine v_iload_n C (pc := 253) (i := 3) dL_isHeld_253 rfl ?_
  refine v_iconst C (pc := 254) (v := 3) dL_isHeld_254 (by decide) ?_
  refine v_iadd C (pc := 255) dL_isHeld_255 ?_
  refine v_iload C (pc := 256) (i := 6) dL_isHeld_256 rfl ?_
  obtain ⟨M10, e10, h⟩ := h
  refine v_iast F (pc := 258) e10 dL_isHeld_258 ?_
  refine v_iload C (pc := 259) (i := 10) dL_isHeld_259 rfl ?_
  obtain ⟨hb, h⟩ := h
  exact v_eret (pc := 261) E rfl (nar_bool hb) ⟨_, rfl, h⟩ (by decide) (by decide) dL_isHeld_261
def bL_isHeld_230 (Q : hM → Int32 → Prop) (M : hM) (a2 : Option Nat) (a3 : Int32) (a6 : Int32) (a7 : Int32) (a8 : Int32) (a9 : Int32) : Prop :=
  bL_isHeld_231 Q M a2 a3 a6 a7 a8 a9 0
set_option maxRecDepth 100000 in
set_option maxHeartbeats 4000000 in
theorem tbL_isHeld_230 {κ : hKx} {M0 : hM} {sz : Nat} {Q : hM → Int32 → Prop} (E : Ce κ RL cL_isHeld vsL_isHeld (some .boolean) M0 sz (hQi Q) (fun _ _ => False) 0 0) (hR : kR κ = rmL_isHeld) (ht : ∀ x ∈ (kc κ).exceptionTable.toList, False)  {M : hM} {a2 : Option Nat} {a3 : Int32} {a6 : Int32} {a7 : Int32} {a8 : Int32} {a9 : Int32}  (h : bL_isHeld_230 Q M a2 a3 a6 a7 a8 a9) : VW κ 0 0 M 230 [none, none, some (va_rf a2), some (.int a3), none, none, some (.int a6), some (.int a7), some (.int a8), some (.int a9), none] [] := by
  unfold bL_isHeld_230 at h
  have F := E.1
  have C := F.1
  refine v_iconst C (pc := 230) (v := 0) dL_isHeld_230 (by decide) ?_
  exact tbL_isHeld_231 E hR ht  h
def bL_isHeld_226 (Q : hM → Int32 → Prop) (M : hM) (a2 : Option Nat) (a3 : Int32) (a6 : Int32) (a7 : Int32) (a8 : Int32) (a9 : Int32) : Prop :=
  bL_isHeld_231 Q M a2 a3 a6 a7 a8 a9 1
set_option maxRecDepth 100000 in
set_option maxHeartbeats 4000000 in
theorem tbL_isHeld_226 {κ : hKx} {M0 : hM} {sz : Nat} {Q : hM → Int32 → Prop} (E : Ce κ RL cL_isHeld vsL_isHeld (some .boolean) M0 sz (hQi Q) (fun _ _ => False) 0 0) (hR : kR κ = rmL_isHeld) (ht : ∀ x ∈ (kc κ).exceptionTable.toList, False)  {M : hM} {a2 : Option Nat} {a3 : Int32} {a6 : Int32} {a7 : Int32} {a8 : Int32} {a9 : Int32}  (h : bL_isHeld_226 Q M a2 a3 a6 a7 a8 a9) : VW κ 0 0 M 226 [none, none, some (va_rf a2), some (.int a3), none, none, some (.int a6), some (.int a7), some (.int a8), some (.int a9), none] [] := by
  unfold bL_isHeld_226 at h
  have F := E.1
  have C := F.1
  refine v_iconst C (pc := 226) (v := 1) dL_isHeld_226 (by decide) ?_
  refine v_goto C (pc := 227) (tgt := 231) dL_isHeld_227 (by decide) ?_
  exact tbL_isHeld_231 E hR ht  h
def bL_isHeld_194 (Q : hM → Int32 → Prop) (M : hM) (a0 : Option Nat) (a2 : Option Nat) (a3 : Int32) (a4 : Int32) (a5 : Int32) (a6 : Int32) (a7 : Int32) (a8 : Int32) (a9 : Int32) : Prop :=
  ∃ x25, fL_ofq M a0 a4 a5 4 = some x25 ∧
  if (60 : Int32) < x25 then (
    bL_isHeld_230 Q M a2 a3 a6 a7 a8 a9
  ) else (
    if (a6 : Int32) = 2 then (
      bL_isHeld_226 Q M a2 a3 a6 a7 a8 a9
    ) else (
      ∃ x28, fL_ofq M a0 a4 a5 4 = some x28 ∧
      if (x28 : Int32) = 0 then (
        bL_isHeld_226 Q M a2 a3 a6 a7 a8 a9
      ) else (
        bL_isHeld_230 Q M a2 a3 a6 a7 a8 a9
      )
    )
  )
set_option maxRecDepth 100000 in
set_option maxHeartbeats 4000000 in
theorem tbL_isHeld_194 {κ : hKx} {M0 : hM} {sz : Nat} {Q : hM → Int32 → Prop} (E : Ce κ RL cL_isHeld vsL_isHeld (some .boolean) M0 sz (hQi Q) (fun _ _ => False) 0 0) (hR : kR κ = rmL_isHeld) (ht : ∀ x ∈ (kc κ).exceptionTable.toList, False)  {M : hM} {a0 : Option Nat} {a2 : Option Nat} {a3 : Int32} {a4 : Int32} {a5 : Int32} {a6 : Int32} {a7 : Int32} {a8 : Int32} {a9 : Int32}  (h : bL_isHeld_194 Q M a0 a2 a3 a4 a5 a6 a7 a8 a9) : VW κ 0 0 M 194 [some (va_rf a0), none, some (va_rf a2), some (.int a3), some (.int a4), some (.int a5), some (.int a6), some (.int a7), some (.int a8), some (.int a9), none] [] := by
  unfold bL_isHeld_194 at h
  have F := E.1
  have C := F.1
  refine v_aload_n C (pc := 194) (i := 0) dL_isHeld_194 rfl ?_
  refine v_iload C (pc := 195) (i := 4) dL_isHeld_195 rfl ?_
  refine v_iload C (pc := 197) (i := 5) dL_isHeld_197 rfl ?_
  refine v_iconst C (pc := 199) (v := 4) dL_isHeld_199 (by decide) ?_
  obtain ⟨x25, e25, h⟩ := h
  refine v_pSH C (pc := 200) [va_rf a0, .int a4, .int a5, .int 4] 4 (cL_ofq_met (kl κ) (kG κ) _ e25) (good_l3 gL_isHeld_L_of) rfl hdsL_of rfl rfl rfl (by rw [hR]; exact ⟨Nat.le_of_ble_eq_true rfl, Nat.le_of_ble_eq_true rfl⟩) (by rw [hR]; decide) (Nat.le_of_ble_eq_true rfl) rfl dL_isHeld_200 ?_
  refine v_bipush C (pc := 203) (v := 60) dL_isHeld_203 (by decide) ?_
  refine v_icmp_gt C (pc := 205) (tgt := 230) dL_isHeld_205 (by decide) (fun c26 => ?_) (fun c26 => ?_)
  · rw [if_pos c26] at h
    refine v_mask (lv' := [none, none, some (va_rf a2), some (.int a3), none, none, some (.int a6), some (.int a7), some (.int a8), some (.int a9), none]) [false, false, true, true, false, false, true, true, true, true, false] rfl rfl ?_
    exact tbL_isHeld_230 E hR ht  h
  · rw [if_neg c26] at h
    refine v_iload C (pc := 208) (i := 6) dL_isHeld_208 rfl ?_
    refine v_iconst C (pc := 210) (v := 2) dL_isHeld_210 (by decide) ?_
    refine v_icmp_eq C (pc := 211) (tgt := 226) dL_isHeld_211 (by decide) (fun c27 => ?_) (fun c27 => ?_)
    · rw [if_pos c27] at h
      refine v_mask (lv' := [none, none, some (va_rf a2), some (.int a3), none, none, some (.int a6), some (.int a7), some (.int a8), some (.int a9), none]) [false, false, true, true, false, false, true, true, true, true, false] rfl rfl ?_
      exact tbL_isHeld_226 E hR ht  h
    · rw [if_neg c27] at h
      refine v_aload_n C (pc := 214) (i := 0) dL_isHeld_214 rfl ?_
      refine v_iload C (pc := 215) (i := 4) dL_isHeld_215 rfl ?_
      refine v_iload C (pc := 217) (i := 5) dL_isHeld_217 rfl ?_
      refine v_iconst C (pc := 219) (v := 4) dL_isHeld_219 (by decide) ?_
      obtain ⟨x28, e28, h⟩ := h
      refine v_pSH C (pc := 220) [va_rf a0, .int a4, .int a5, .int 4] 4 (cL_ofq_met (kl κ) (kG κ) _ e28) (good_l3 gL_isHeld_L_of) rfl hdsL_of rfl rfl rfl (by rw [hR]; exact ⟨Nat.le_of_ble_eq_true rfl, Nat.le_of_ble_eq_true rfl⟩) (by rw [hR]; decide) (Nat.le_of_ble_eq_true rfl) rfl dL_isHeld_220 ?_
      refine v_if_ne C (pc := 223) (tgt := 230) dL_isHeld_223 (by decide) (fun c29 => ?_) (fun c29 => ?_)
      · rw [if_neg c29] at h
        refine v_mask (lv' := [none, none, some (va_rf a2), some (.int a3), none, none, some (.int a6), some (.int a7), some (.int a8), some (.int a9), none]) [false, false, true, true, false, false, true, true, true, true, false] rfl rfl ?_
        exact tbL_isHeld_230 E hR ht  h
      · rw [if_pos c29] at h
        refine v_mask (lv' := [none, none, some (va_rf a2), some (.int a3), none, none, some (.int a6), some (.int a7), some (.int a8), some (.int a9), none]) [false, false, true, true, false, false, true, true, true, true, false] rfl rfl ?_
        exact tbL_isHeld_226 E hR ht  h
def bL_isHeld_152 (Q : hM → Int32 → Prop) (M : hM) (a0 : Option Nat) (a2 : Option Nat) (a3 : Int32) (a4 : Int32) (a5 : Int32) (a6 : Int32) (a7 : Int32) (a8 : Int32) (a9 : Int32) : Prop :=
  if (10 : Int32) < a9 then (
    bL_isHeld_230 Q M a2 a3 a6 a7 a8 a9
  ) else (
    ∃ x22, aI M 0 a2 (a3 + 2) = some x22 ∧
    if (a9 : Int32) < x22 then (
      bL_isHeld_230 Q M a2 a3 a6 a7 a8 a9
    ) else (
      if (a6 : Int32) = 0 then (
        bL_isHeld_194 Q M a0 a2 a3 a4 a5 a6 a7 a8 a9
      ) else (
        ∃ x30, aI M 0 a2 (a3 + 3) = some x30 ∧
        if (x30 : Int32) = a6 then (
          ∃ x32, aI M 0 a2 (a3 + 2) = some x32 ∧
          if (a9 : Int32) = x32 then (
            bL_isHeld_194 Q M a0 a2 a3 a4 a5 a6 a7 a8 a9
          ) else (
            bL_isHeld_230 Q M a2 a3 a6 a7 a8 a9
          )
        ) else (
          bL_isHeld_194 Q M a0 a2 a3 a4 a5 a6 a7 a8 a9
        )
      )
    )
  )
set_option maxRecDepth 100000 in
set_option maxHeartbeats 4000000 in
theorem tbL_isHeld_152 {κ : hKx} {M0 : hM} {sz : Nat} {Q : hM → Int32 → Prop} (E : Ce κ RL cL_isHeld vsL_isHeld (some .boolean) M0 sz (hQi Q) (fun _ _ => False) 0 0) (hR : kR κ = rmL_isHeld) (ht : ∀ x ∈ (kc κ).exceptionTable.toList, False)  {M : hM} {a0 : Option Nat} {a2 : Option Nat} {a3 : Int32} {a4 : Int32} {a5 : Int32} {a6 : Int32} {a7 : Int32} {a8 : Int32} {a9 : Int32}  (h : bL_isHeld_152 Q M a0 a2 a3 a4 a5 a6 a7 a8 a9) : VW κ 0 0 M 152 [some (va_rf a0), none, some (va_rf a2), some (.int a3), some (.int a4), some (.int a5), some (.int a6), some (.int a7), some (.int a8), some (.int a9), none] [] := by
  unfold bL_isHeld_152 at h
  have F := E.1
  have C := F.1
  refine v_iload C (pc := 152) (i := 9) dL_isHeld_152 rfl ?_
  refine v_bipush C (pc := 154) (v := 10) dL_isHeld_154 (by decide) ?_
  refine v_icmp_gt C (pc := 156) (tgt := 230) dL_isHeld_156 (by decide) (fun c21 => ?_) (fun c21 => ?_)
  · rw [if_pos c21] at h
    refine v_mask (lv' := [none, none, some (va_rf a2), some (.int a3), none, none, some (.int a6), some (.int a7), some (.int a8), some (.int a9), none]) [false, false, true, true, false, false, true, true, true, true, false] rfl rfl ?_
    exact tbL_isHeld_230 E hR ht  h
  · rw [if_neg c21] at h
    refine v_iload C (pc := 159) (i := 9) dL_isHeld_159 rfl ?_
    refine v_aload_n C (pc := 161) (i := 2) dL_isHeld_161 rfl ?_
    refine v_iload_n C (pc := 162) (i := 3) dL_isHeld_162 rfl ?_
    refine v_iconst C (pc := 163) (v := 2) dL_isHeld_163 (by decide) ?_
    refine v_iadd C (pc := 164) dL_isHeld_164 ?_
    obtain ⟨x22, e22, h⟩ := h
    refine v_iald C (pc := 165) e22 dL_isHeld_165 ?_
    refine v_icmp_lt C (pc := 166) (tgt := 230) dL_isHeld_166 (by decide) (fun c23 => ?_) (fun c23 => ?_)
    · rw [if_pos c23] at h
      refine v_mask (lv' := [none, none, some (va_rf a2), some (.int a3), none, none, some (.int a6), some (.int a7), some (.int a8), some (.int a9), none]) [false, false, true, true, false, false, true, true, true, true, false] rfl rfl ?_
      exact tbL_isHeld_230 E hR ht  h
    · rw [if_neg c23] at h
      refine v_iload C (pc := 169) (i := 6) dL_isHeld_169 rfl ?_
      refine v_if_eq C (pc := 171) (tgt := 194) dL_isHeld_171 (by decide) (fun c24 => ?_) (fun c24 => ?_)
      · rw [if_pos c24] at h
        exact tbL_isHeld_194 E hR ht  h
      · rw [if_neg c24] at h
        refine v_aload_n C (pc := 174) (i := 2) dL_isHeld_174 rfl ?_
        refine v_iload_n C (pc := 175) (i := 3) dL_isHeld_175 rfl ?_
        refine v_iconst C (pc := 176) (v := 3) dL_isHeld_176 (by decide) ?_
        refine v_iadd C (pc := 177) dL_isHeld_177 ?_
        obtain ⟨x30, e30, h⟩ := h
        refine v_iald C (pc := 178) e30 dL_isHeld_178 ?_
        refine v_iload C (pc := 179) (i := 6) dL_isHeld_179 rfl ?_
        refine v_icmp_ne C (pc := 181) (tgt := 194) dL_isHeld_181 (by decide) (fun c31 => ?_) (fun c31 => ?_)
        · rw [if_neg c31] at h
          exact tbL_isHeld_194 E hR ht  h
        · rw [if_pos c31] at h
          refine v_iload C (pc := 184) (i := 9) dL_isHeld_184 rfl ?_
          refine v_aload_n C (pc := 186) (i := 2) dL_isHeld_186 rfl ?_
          refine v_iload_n C (pc := 187) (i := 3) dL_isHeld_187 rfl ?_
          refine v_iconst C (pc := 188) (v := 2) dL_isHeld_188 (by decide) ?_
          refine v_iadd C (pc := 189) dL_isHeld_189 ?_
          obtain ⟨x32, e32, h⟩ := h
          refine v_iald C (pc := 190) e32 dL_isHeld_190 ?_
          refine v_icmp_ne C (pc := 191) (tgt := 230) dL_isHeld_191 (by decide) (fun c33 => ?_) (fun c33 => ?_)
          · rw [if_neg c33] at h
            refine v_mask (lv' := [none, none, some (va_rf a2), some (.int a3), none, none, some (.int a6), some (.int a7), some (.int a8), some (.int a9), none]) [false, false, true, true, false, false, true, true, true, true, false] rfl rfl ?_
            exact tbL_isHeld_230 E hR ht  h
          · rw [if_pos c33] at h
            exact tbL_isHeld_194 E hR ht  h
def bL_isHeld_131 (Q : hM → Int32 → Prop) (M : hM) (a0 : Option Nat) (a2 : Option Nat) (a3 : Int32) (a4 : Int32) (a5 : Int32) (a6 : Int32) (a7 : Int32) (a8 : Int32) (a9 : Int32) (s0 : Int32) (s1 : Int32) : Prop :=
  if (s0 : Int32) = s1 then (
    if (a6 : Int32) = 1 then (
      ∃ x34, fL_ofq M a0 a4 a5 2 = some x34 ∧
      if (x34 : Int32) = 0 then (
        bL_isHeld_152 Q M a0 a2 a3 a4 a5 a6 a7 a8 a9
      ) else (
        bL_isHeld_230 Q M a2 a3 a6 a7 a8 a9
      )
    ) else (
      bL_isHeld_152 Q M a0 a2 a3 a4 a5 a6 a7 a8 a9
    )
  ) else (
    bL_isHeld_230 Q M a2 a3 a6 a7 a8 a9
  )
set_option maxRecDepth 100000 in
set_option maxHeartbeats 4000000 in
theorem tbL_isHeld_131 {κ : hKx} {M0 : hM} {sz : Nat} {Q : hM → Int32 → Prop} (E : Ce κ RL cL_isHeld vsL_isHeld (some .boolean) M0 sz (hQi Q) (fun _ _ => False) 0 0) (hR : kR κ = rmL_isHeld) (ht : ∀ x ∈ (kc κ).exceptionTable.toList, False)  {M : hM} {a0 : Option Nat} {a2 : Option Nat} {a3 : Int32} {a4 : Int32} {a5 : Int32} {a6 : Int32} {a7 : Int32} {a8 : Int32} {a9 : Int32} {s0 : Int32} {s1 : Int32}  (h : bL_isHeld_131 Q M a0 a2 a3 a4 a5 a6 a7 a8 a9 s0 s1) : VW κ 0 0 M 131 [some (va_rf a0), none, some (va_rf a2), some (.int a3), some (.int a4), some (.int a5), some (.int a6), some (.int a7), some (.int a8), some (.int a9), none] [.int s1, .int s0] := by
  unfold bL_isHeld_131 at h
  have F := E.1
  have C := F.1
  refine v_icmp_ne C (pc := 131) (tgt := 230) dL_isHeld_131 (by decide) (fun c19 => ?_) (fun c19 => ?_)
  · rw [if_neg c19] at h
    refine v_mask (lv' := [none, none, some (va_rf a2), some (.int a3), none, none, some (.int a6), some (.int a7), some (.int a8), some (.int a9), none]) [false, false, true, true, false, false, true, true, true, true, false] rfl rfl ?_
    exact tbL_isHeld_230 E hR ht  h
  · rw [if_pos c19] at h
    refine v_iload C (pc := 134) (i := 6) dL_isHeld_134 rfl ?_
    refine v_iconst C (pc := 136) (v := 1) dL_isHeld_136 (by decide) ?_
    refine v_icmp_ne C (pc := 137) (tgt := 152) dL_isHeld_137 (by decide) (fun c20 => ?_) (fun c20 => ?_)
    · rw [if_neg c20] at h
      exact tbL_isHeld_152 E hR ht  h
    · rw [if_pos c20] at h
      refine v_aload_n C (pc := 140) (i := 0) dL_isHeld_140 rfl ?_
      refine v_iload C (pc := 141) (i := 4) dL_isHeld_141 rfl ?_
      refine v_iload C (pc := 143) (i := 5) dL_isHeld_143 rfl ?_
      refine v_iconst C (pc := 145) (v := 2) dL_isHeld_145 (by decide) ?_
      obtain ⟨x34, e34, h⟩ := h
      refine v_pSH C (pc := 146) [va_rf a0, .int a4, .int a5, .int 2] 4 (cL_ofq_met (kl κ) (kG κ) _ e34) (good_l3 gL_isHeld_L_of) rfl hdsL_of rfl rfl rfl (by rw [hR]; exact ⟨Nat.le_of_ble_eq_true rfl, Nat.le_of_ble_eq_true rfl⟩) (by rw [hR]; decide) (Nat.le_of_ble_eq_true rfl) rfl dL_isHeld_146 ?_
      refine v_if_ne C (pc := 149) (tgt := 230) dL_isHeld_149 (by decide) (fun c35 => ?_) (fun c35 => ?_)
      · rw [if_neg c35] at h
        refine v_mask (lv' := [none, none, some (va_rf a2), some (.int a3), none, none, some (.int a6), some (.int a7), some (.int a8), some (.int a9), none]) [false, false, true, true, false, false, true, true, true, true, false] rfl rfl ?_
        exact tbL_isHeld_230 E hR ht  h
      · rw [if_pos c35] at h
        exact tbL_isHeld_152 E hR ht  h
def bL_isHeld_120 (Q : hM → Int32 → Prop) (M : hM) (a0 : Option Nat) (a2 : Option Nat) (a3 : Int32) (a4 : Int32) (a5 : Int32) (a6 : Int32) (a7 : Int32) (a8 : Int32) (a9 : Int32) (s0 : Int32) : Prop :=
  if (a6 : Int32) = 2 then (
    bL_isHeld_131 Q M a0 a2 a3 a4 a5 a6 a7 a8 a9 s0 1
  ) else (
    bL_isHeld_131 Q M a0 a2 a3 a4 a5 a6 a7 a8 a9 s0 0
  )
set_option maxRecDepth 100000 in
set_option maxHeartbeats 4000000 in
theorem tbL_isHeld_120 {κ : hKx} {M0 : hM} {sz : Nat} {Q : hM → Int32 → Prop} (E : Ce κ RL cL_isHeld vsL_isHeld (some .boolean) M0 sz (hQi Q) (fun _ _ => False) 0 0) (hR : kR κ = rmL_isHeld) (ht : ∀ x ∈ (kc κ).exceptionTable.toList, False)  {M : hM} {a0 : Option Nat} {a2 : Option Nat} {a3 : Int32} {a4 : Int32} {a5 : Int32} {a6 : Int32} {a7 : Int32} {a8 : Int32} {a9 : Int32} {s0 : Int32}  (h : bL_isHeld_120 Q M a0 a2 a3 a4 a5 a6 a7 a8 a9 s0) : VW κ 0 0 M 120 [some (va_rf a0), none, some (va_rf a2), some (.int a3), some (.int a4), some (.int a5), some (.int a6), some (.int a7), some (.int a8), some (.int a9), none] [.int s0] := by
  unfold bL_isHeld_120 at h
  have F := E.1
  have C := F.1
  refine v_iload C (pc := 120) (i := 6) dL_isHeld_120 rfl ?_
  refine v_iconst C (pc := 122) (v := 2) dL_isHeld_122 (by decide) ?_
  refine v_icmp_ne C (pc := 123) (tgt := 130) dL_isHeld_123 (by decide) (fun c18 => ?_) (fun c18 => ?_)
  · rw [if_neg c18] at h
    refine v_iconst C (pc := 130) (v := 0) dL_isHeld_130 (by decide) ?_
    exact tbL_isHeld_131 E hR ht  h
  · rw [if_pos c18] at h
    refine v_iconst C (pc := 126) (v := 1) dL_isHeld_126 (by decide) ?_
    refine v_goto C (pc := 127) (tgt := 131) dL_isHeld_127 (by decide) ?_
    exact tbL_isHeld_131 E hR ht  h
def wL_isHeld (M : hM) (a0 : Option Nat) (a1 : Int32) (a2 : Option Nat) (a3 : Int32) (Q : hM → Int32 → Prop) : Prop :=
  ∃ x1, fL_ofq M a0 (a1 / 8) (a1 - a1 / 8 * 8) 0 = some x1 ∧
  ∃ x2, fL_ofq M a0 (a1 / 8) (a1 - a1 / 8 * 8) 7 = some x2 ∧
  ∃ x3, fL_ofq M a0 (a1 / 8) (a1 - a1 / 8 * 8) 6 = some x3 ∧
  ∃ x4, fL_ofq M a0 (a1 / 8) (a1 - a1 / 8 * 8) 3 = some x4 ∧
  ∃ x5, aI M 0 a2 a3 = some x5 ∧
  if ((x5 &&& (x2 ^^^ (-1))) : Int32) = 0 then (
    ∃ x11, aI M 0 a2 (a3 + 1) = some x11 ∧
    if ((x11 &&& (x3 ^^^ (-1))) : Int32) = 0 then (
      if ((x3 &&& (x2 ^^^ (-1))) : Int32) = 0 then (
        if (x1 : Int32) < 0 then (
          bL_isHeld_230 Q M a2 a3 x1 x2 x3 x4
        ) else (
          if (2 : Int32) < x1 then (
            bL_isHeld_230 Q M a2 a3 x1 x2 x3 x4
          ) else (
            ∃ x16, fL_ofq M a0 (a1 / 8) (a1 - a1 / 8 * 8) 1 = some x16 ∧
            if (x16 : Int32) = 0 then (
              bL_isHeld_120 Q M a0 a2 a3 (a1 / 8) (a1 - a1 / 8 * 8) x1 x2 x3 x4 0
            ) else (
              bL_isHeld_120 Q M a0 a2 a3 (a1 / 8) (a1 - a1 / 8 * 8) x1 x2 x3 x4 1
            )
          )
        )
      ) else (
        bL_isHeld_230 Q M a2 a3 x1 x2 x3 x4
      )
    ) else (
      bL_isHeld_230 Q M a2 a3 x1 x2 x3 x4
    )
  ) else (
    bL_isHeld_230 Q M a2 a3 x1 x2 x3 x4
  )
set_option maxRecDepth 100000 in
set_option maxHeartbeats 4000000 in
theorem cL_isHeld_met (l : Launch) (hfl : l.stackTraces = false) (G : hG) (M : hM) {a0 : Option Nat} {a1 : Int32} {a2 : Option Nat} {a3 : Int32} {Q : hM → Int32 → Prop} (h : wL_isHeld M a0 a1 a2 a3 Q) : hEMet l yL_isHeld vsL_isHeld rmL_isHeld [va_rf a0, .int a1, va_rf a2, .int a3] G M (hQi Q) (fun _ _ => False) 0 0 := by
  refine he_entry (own := RL) (cc := cL_isHeld) (maxL := 11) (ret := (some .boolean)) (lv := [some (va_rf a0), some (.int a1), some (va_rf a2), some (.int a3), none, none, none, none, none, none, none]) hfl (by decide) rfl rfl (hcc (rf_cat _) (hcc rfl (hcc (rf_cat _) (hcc rfl hc0)))) (Nat.le_of_ble_eq_true rfl) rfl (fun κ sz hG hl hR E ht hn => ?_)
  subst hG; subst hl
  unfold wL_isHeld at h
  have F := E.1
  have C := F.1
  refine v_iload_n C (pc := 0) (i := 1) dL_isHeld_0 rfl ?_
  refine v_bipush C (pc := 1) (v := 8) dL_isHeld_1 (by decide) ?_
  refine v_idiv C (pc := 3) dL_isHeld_3 (by decide) ?_
  refine v_istore C (pc := 4) (i := 4) (lv' := [some (va_rf a0), some (.int a1), some (va_rf a2), some (.int a3), some (.int (a1 / 8)), none, none, none, none, none, none]) dL_isHeld_4 rfl (lw_bi (j := 3) rfl) rfl ?_
  refine v_iload_n C (pc := 6) (i := 1) dL_isHeld_6 rfl ?_
  refine v_bipush C (pc := 7) (v := 8) dL_isHeld_7 (by decide) ?_
  refine v_irem C (pc := 9) dL_isHeld_9 (by decide) ?_
  refine v_istore C (pc := 10) (i := 5) (lv' := [some (va_rf a0), some (.int a1), some (va_rf a2), some (.int a3), some (.int (a1 / 8)), some (.int (a1 - a1 / 8 * 8)), none, none, none, none, none]) dL_isHeld_10 rfl (lw_bi (j := 4) rfl) rfl ?_
  refine v_aload_n C (pc := 12) (i := 0) dL_isHeld_12 rfl ?_
  refine v_iload C (pc := 13) (i := 4) dL_isHeld_13 rfl ?_
  refine v_iload C (pc := 15) (i := 5) dL_isHeld_15 rfl ?_
  refine v_iconst C (pc := 17) (v := 0) dL_isHeld_17 (by decide) ?_
  obtain ⟨x1, e1, h⟩ := h
  refine v_pSH C (pc := 18) [va_rf a0, .int (a1 / 8), .int (a1 - a1 / 8 * 8), .int 0] 4 (cL_ofq_met (kl κ) (kG κ) _ e1) (good_l3 gL_isHeld_L_of) rfl hdsL_of rfl rfl rfl (by rw [hR]; exact ⟨Nat.le_of_ble_eq_true rfl, Nat.le_of_ble_eq_true rfl⟩) (by rw [hR]; decide) (Nat.le_of_ble_eq_true rfl) rfl dL_isHeld_18 ?_
  refine v_istore C (pc := 21) (i := 6) (lv' := [some (va_rf a0), some (.int a1), some (va_rf a2), some (.int a3), some (.int (a1 / 8)), some (.int (a1 - a1 / 8 * 8)), some (.int x1), none, none, none, none]) dL_isHeld_21 rfl (lw_bi (j := 5) rfl) rfl ?_
  refine v_aload_n C (pc := 23) (i := 0) dL_isHeld_23 rfl ?_
  refine v_iload C (pc := 24) (i := 4) dL_isHeld_24 rfl ?_
  refine v_iload C (pc := 26) (i := 5) dL_isHeld_26 rfl ?_
  refine v_bipush C (pc := 28) (v := 7) dL_isHeld_28 (by decide) ?_
  obtain ⟨x2, e2, h⟩ := h
  refine v_pSH C (pc := 30) [va_rf a0, .int (a1 / 8), .int (a1 - a1 / 8 * 8), .int 7] 4 (cL_ofq_met (kl κ) (kG κ) _ e2) (good_l3 gL_isHeld_L_of) rfl hdsL_of rfl rfl rfl (by rw [hR]; exact ⟨Nat.le_of_ble_eq_true rfl, Nat.le_of_ble_eq_true rfl⟩) (by rw [hR]; decide) (Nat.le_of_ble_eq_true rfl) rfl dL_isHeld_30 ?_
  refine v_istore C (pc := 33) (i := 7) (lv' := [some (va_rf a0), some (.int a1), some (va_rf a2), some (.int a3), some (.int (a1 / 8)), some (.int (a1 - a1 / 8 * 8)), some (.int x1), some (.int x2), none, none, none]) dL_isHeld_33 rfl (lw_bi (j := 6) rfl) rfl ?_
  refine v_aload_n C (pc := 35) (i := 0) dL_isHeld_35 rfl ?_
  refine v_iload C (pc := 36) (i := 4) dL_isHeld_36 rfl ?_
  refine v_iload C (pc := 38) (i := 5) dL_isHeld_38 rfl ?_
  refine v_bipush C (pc := 40) (v := 6) dL_isHeld_40 (by decide) ?_
  obtain ⟨x3, e3, h⟩ := h
  refine v_pSH C (pc := 42) [va_rf a0, .int (a1 / 8), .int (a1 - a1 / 8 * 8), .int 6] 4 (cL_ofq_met (kl κ) (kG κ) _ e3) (good_l3 gL_isHeld_L_of) rfl hdsL_of rfl rfl rfl (by rw [hR]; exact ⟨Nat.le_of_ble_eq_true rfl, Nat.le_of_ble_eq_true rfl⟩) (by rw [hR]; decide) (Nat.le_of_ble_eq_true rfl) rfl dL_isHeld_42 ?_
  refine v_istore C (pc := 45) (i := 8) (lv' := [some (va_rf a0), some (.int a1), some (va_rf a2), some (.int a3), some (.int (a1 / 8)), some (.int (a1 - a1 / 8 * 8)), some (.int x1), some (.int x2), some (.int x3), none, none]) dL_isHeld_45 rfl (lw_bi (j := 7) rfl) rfl ?_
  refine v_aload_n C (pc := 47) (i := 0) dL_isHeld_47 rfl ?_
  refine v_iload C (pc := 48) (i := 4) dL_isHeld_48 rfl ?_
  refine v_iload C (pc := 50) (i := 5) dL_isHeld_50 rfl ?_
  refine v_iconst C (pc := 52) (v := 3) dL_isHeld_52 (by decide) ?_
  obtain ⟨x4, e4, h⟩ := h
  refine v_pSH C (pc := 53) [va_rf a0, .int (a1 / 8), .int (a1 - a1 / 8 * 8), .int 3] 4 (cL_ofq_met (kl κ) (kG κ) _ e4) (good_l3 gL_isHeld_L_of) rfl hdsL_of rfl rfl rfl (by rw [hR]; exact ⟨Nat.le_of_ble_eq_true rfl, Nat.le_of_ble_eq_true rfl⟩) (by rw [hR]; decide) (Nat.le_of_ble_eq_true rfl) rfl dL_isHeld_53 ?_
  refine v_istore C (pc := 56) (i := 9) (lv' := [some (va_rf a0), some (.int a1), some (va_rf a2), some (.int a3), some (.int (a1 / 8)), some (.int (a1 - a1 / 8 * 8)), some (.int x1), some (.int x2), some (.int x3), some (.int x4), none]) dL_isHeld_56 rfl (lw_bi (j := 8) rfl) rfl ?_
  refine v_aload_n C (pc := 58) (i := 2) dL_isHeld_58 rfl ?_
  refine v_iload_n C (pc := 59) (i := 3) dL_isHeld_59 rfl ?_
  obtain ⟨x5, e5, h⟩ := h
  refine v_iald C (pc := 60) e5 dL_isHeld_60 ?_
  refine v_iload C (pc := 61) (i := 7) dL_isHeld_61 rfl ?_
  refine v_iconst C (pc := 63) (v := (-1)) dL_isHeld_63 (by decide) ?_
  refine v_ixor C (pc := 64) dL_isHeld_64 ?_
  refine v_iand C (pc := 65) dL_isHeld_65 ?_
  refine v_if_ne C (pc := 66) (tgt := 230) dL_isHeld_66 (by decide) (fun c6 => ?_) (fun c6 => ?_)
  · rw [if_neg c6] at h
    refine v_mask (lv' := [none, none, some (va_rf a2), some (.int a3), none, none, some (.int x1), some (.int x2), some (.int x3), some (.int x4), none]) [false, false, true, true, false, false, true, true, true, true, false] rfl rfl ?_
    exact tbL_isHeld_230 E hR ht  h
  · rw [if_pos c6] at h
    refine v_aload_n C (pc := 69) (i := 2) dL_isHeld_69 rfl ?_
    refine v_iload_n C (pc := 70) (i := 3) dL_isHeld_70 rfl ?_
    refine v_iconst C (pc := 71) (v := 1) dL_isHeld_71 (by decide) ?_
    refine v_iadd C (pc := 72) dL_isHeld_72 ?_
    obtain ⟨x11, e11, h⟩ := h
    refine v_iald C (pc := 73) e11 dL_isHeld_73 ?_
    refine v_iload C (pc := 74) (i := 8) dL_isHeld_74 rfl ?_
    refine v_iconst C (pc := 76) (v := (-1)) dL_isHeld_76 (by decide) ?_
    refine v_ixor C (pc := 77) dL_isHeld_77 ?_
    refine v_iand C (pc := 78) dL_isHeld_78 ?_
    refine v_if_ne C (pc := 79) (tgt := 230) dL_isHeld_79 (by decide) (fun c12 => ?_) (fun c12 => ?_)
    · rw [if_neg c12] at h
      refine v_mask (lv' := [none, none, some (va_rf a2), some (.int a3), none, none, some (.int x1), some (.int x2), some (.int x3), some (.int x4), none]) [false, false, true, true, false, false, true, true, true, true, false] rfl rfl ?_
      exact tbL_isHeld_230 E hR ht  h
    · rw [if_pos c12] at h
      refine v_iload C (pc := 82) (i := 8) dL_isHeld_82 rfl ?_
      refine v_iload C (pc := 84) (i := 7) dL_isHeld_84 rfl ?_
      refine v_iconst C (pc := 86) (v := (-1)) dL_isHeld_86 (by decide) ?_
      refine v_ixor C (pc := 87) dL_isHeld_87 ?_
      refine v_iand C (pc := 88) dL_isHeld_88 ?_
      refine v_if_ne C (pc := 89) (tgt := 230) dL_isHeld_89 (by decide) (fun c13 => ?_) (fun c13 => ?_)
      · rw [if_neg c13] at h
        refine v_mask (lv' := [none, none, some (va_rf a2), some (.int a3), none, none, some (.int x1), some (.int x2), some (.int x3), some (.int x4), none]) [false, false, true, true, false, false, true, true, true, true, false] rfl rfl ?_
        exact tbL_isHeld_230 E hR ht  h
      · rw [if_pos c13] at h
        refine v_iload C (pc := 92) (i := 6) dL_isHeld_92 rfl ?_
        refine v_if_lt C (pc := 94) (tgt := 230) dL_isHeld_94 (by decide) (fun c14 => ?_) (fun c14 => ?_)
        · rw [if_pos c14] at h
          refine v_mask (lv' := [none, none, some (va_rf a2), some (.int a3), none, none, some (.int x1), some (.int x2), some (.int x3), some (.int x4), none]) [false, false, true, true, false, false, true, true, true, true, false] rfl rfl ?_
          exact tbL_isHeld_230 E hR ht  h
        · rw [if_neg c14] at h
          refine v_iload C (pc := 97) (i := 6) dL_isHeld_97 rfl ?_
          refine v_iconst C (pc := 99) (v := 2) dL_isHeld_99 (by decide) ?_
          refine v_icmp_gt C (pc := 100) (tgt := 230) dL_isHeld_100 (by decide) (fun c15 => ?_) (fun c15 => ?_)
          · rw [if_pos c15] at h
            refine v_mask (lv' := [none, none, some (va_rf a2), some (.int a3), none, none, some (.int x1), some (.int x2), some (.int x3), some (.int x4), none]) [false, false, true, true, false, false, true, true, true, true, false] rfl rfl ?_
            exact tbL_isHeld_230 E hR ht  h
          · rw [if_neg c15] at h
            refine v_aload_n C (pc := 103) (i := 0) dL_isHeld_103 rfl ?_
            refine v_iload C (pc := 104) (i := 4) dL_isHeld_104 rfl ?_
            refine v_iload C (pc := 106) (i := 5) dL_isHeld_106 rfl ?_
            refine v_iconst C (pc := 108) (v := 1) dL_isHeld_108 (by decide) ?_
            obtain ⟨x16, e16, h⟩ := h
            refine v_pSH C (pc := 109) [va_rf a0, .int (a1 / 8), .int (a1 - a1 / 8 * 8), .int 1] 4 (cL_ofq_met (kl κ) (kG κ) _ e16) (good_l3 gL_isHeld_L_of) rfl hdsL_of rfl rfl rfl (by rw [hR]; exact ⟨Nat.le_of_ble_eq_true rfl, Nat.le_of_ble_eq_true rfl⟩) (by rw [hR]; decide) (Nat.le_of_ble_eq_true rfl) rfl dL_isHeld_109 ?_
            refine v_if_eq C (pc := 112) (tgt := 119) dL_isHeld_112 (by decide) (fun c17 => ?_) (fun c17 => ?_)
            · rw [if_pos c17] at h
              refine v_iconst C (pc := 119) (v := 0) dL_isHeld_119 (by decide) ?_
              refine v_mask (lv' := [some (va_rf a0), none, some (va_rf a2), some (.int a3), some (.int (a1 / 8)), some (.int (a1 - a1 / 8 * 8)), some (.int x1), some (.int x2), some (.int x3), some (.int x4), none]) [true, false, true, true, true, true, true, true, true, true, false] rfl rfl ?_
              exact tbL_isHeld_120 E hR ht  h
            · rw [if_neg c17] at h
              refine v_iconst C (pc := 115) (v := 1) dL_isHeld_115 (by decide) ?_
              refine v_goto C (pc := 116) (tgt := 120) dL_isHeld_116 (by decide) ?_
              refine v_mask (lv' := [some (va_rf a0), none, some (va_rf a2), some (.int a3), some (.int (a1 / 8)), some (.int (a1 - a1 / 8 * 8)), some (.int x1), some (.int x2), some (.int x3), some (.int x4), none]) [true, false, true, true, true, true, true, true, true, true, false] rfl rfl ?_
              exact tbL_isHeld_120 E hR ht  h
/-! L_isLawful -/
abbrev rmL_isLawful : Room := { frames := 10, cells := 0, slots := 0, locals := 220 }
def vsL_isLawful : List Cond := wsL_isLawful ++ hL3
def bL_isLawful_324 (k253 : hM → Int32 → Int32 → Prop) (Q : hM → Int32 → Prop) (M : hM) (a0 : Option Nat) (a1 : Option Nat) (a7 : Int32) (a8 : Int32) (a9 : Int32) : Prop :=
  k253 M 1 (a9 + 1)
set_option maxRecDepth 100000 in
set_option maxHeartbeats 4000000 in
theorem tbL_isLawful_324 {κ : hKx} {M0 : hM} {sz : Nat} {Q : hM → Int32 → Prop} (E : Ce κ RL cL_isLawful vsL_isLawful (some .boolean) M0 sz (hQi Q) (fun _ _ => False) 0 0) (hR : kR κ = rmL_isLawful) (ht : ∀ x ∈ (kc κ).exceptionTable.toList, False) {k253 : hM → Int32 → Int32 → Prop} {M : hM} {a0 : Option Nat} {a1 : Option Nat} {a7 : Int32} {a8 : Int32} {a9 : Int32} (hk253 : ∀ (M : hM) (a6 : Int32) (a9 : Int32), k253 M a6 a9 → VW κ 0 0 M 253 [some (va_rf a0), some (va_rf a1), none, none, none, none, some (.int a6), some (.int a7), some (.int a8), some (.int a9), none] []) (h : bL_isLawful_324 k253 Q M a0 a1 a7 a8 a9) : VW κ 0 0 M 324 [some (va_rf a0), some (va_rf a1), none, none, none, none, none, some (.int a7), some (.int a8), some (.int a9), none] [] := by
  unfold bL_isLawful_324 at h
  have F := E.1
  have C := F.1
  refine v_iconst C (pc := 324) (v := 1) dL_isLawful_324 (by decide) ?_
  refine v_goto C (pc := 325) (tgt := 329) dL_isLawful_325 (by decide) ?_
  refine v_istore C (pc := 329) (i := 6) (lv' := [some (va_rf a0), some (va_rf a1), none, none, none, none, some (.int 1), some (.int a7), some (.int a8), some (.int a9), none]) dL_isLawful_329 rfl (lw_bn (j := 5) rfl) rfl ?_
  refine v_iinc C (pc := 331) (i := 9) (w := 1) (lv' := [some (va_rf a0), some (va_rf a1), none, none, none, none, some (.int 1), some (.int a7), some (.int a8), some (.int (a9 + 1)), none]) dL_isLawful_331 rfl (by decide) rfl ?_
  refine v_goto C (pc := 334) (tgt := 253) dL_isLawful_334 (by decide) ?_
  exact hk253 _ _ _ h
def lL_isLawful_253 (Q : hM → Int32 → Prop) (a0 : Option Nat) (a1 : Option Nat) (a7 : Int32) (a8 : Int32) : Nat → hM → Int32 → Int32 → Prop
  | 0, _, _ , _ => False
  | n + 1, M, a6, a9 =>
    ∃ x15, aI M 0 a1 0 = some x15 ∧
    if (x15 : Int32) ≤ a9 then (
      (a6 = 0 ∨ a6 = 1) ∧ Q M a6
    ) else (
      if (a6 : Int32) = 0 then (
        (a6 = 0 ∨ a6 = 1) ∧ Q M a6
      ) else (
        ∃ y19, hC M 4 a0 = some y19 ∧
        ∃ x18, fX4_day M y19 = some x18 ∧
        ∃ x20, fL_whyNotq M (some y19) (a7 / 8) (a7 - a7 / 8 * 8) a9 x18 = some x20 ∧
        if (((a8 >>> (a9 &&& 31)) &&& 1) : Int32) = 0 then (
          if (x20 : Int32) = 2 then (
            (lL_isLawful_253 Q a0 a1 a7 a8 n) M 0 (a9 + 1)
          ) else (
            (lL_isLawful_253 Q a0 a1 a7 a8 n) M 1 (a9 + 1)
          )
        ) else (
          if (x20 : Int32) = 1 then (
            bL_isLawful_324 (lL_isLawful_253 Q a0 a1 a7 a8 n) Q M (some y19) a1 a7 a8 a9
          ) else (
            if (x20 : Int32) = 2 then (
              bL_isLawful_324 (lL_isLawful_253 Q a0 a1 a7 a8 n) Q M (some y19) a1 a7 a8 a9
            ) else (
              (lL_isLawful_253 Q a0 a1 a7 a8 n) M 0 (a9 + 1)
            )
          )
        )
      )
    )
set_option maxRecDepth 100000 in
set_option maxHeartbeats 4000000 in
theorem tlL_isLawful_253 {κ : hKx} {M0 : hM} {sz : Nat} {Q : hM → Int32 → Prop} (E : Ce κ RL cL_isLawful vsL_isLawful (some .boolean) M0 sz (hQi Q) (fun _ _ => False) 0 0) (hR : kR κ = rmL_isLawful) (ht : ∀ x ∈ (kc κ).exceptionTable.toList, False)  {a0 : Option Nat} {a1 : Option Nat} {a7 : Int32} {a8 : Int32}  : ∀ (n : Nat) (M : hM) (a6 : Int32) (a9 : Int32), lL_isLawful_253 Q a0 a1 a7 a8 n M a6 a9 → VW κ 0 0 M 253 [some (va_rf a0), some (va_rf a1), none, none, none, none, some (.int a6), some (.int a7), some (.int a8), some (.int a9), none] [] := by
  have F := E.1
  have C := F.1
  intro n
  induction n with
  | zero =>
    intro M a6 a9 h
    unfold lL_isLawful_253 at h
    exact h.elim
  | succ n ih =>
    intro M a6 a9 h
    unfold lL_isLawful_253 at h
    refine v_iload C (pc := 253) (i := 9) dL_isLawful_253 rfl ?_
    refine v_aload_n C (pc := 255) (i := 1) dL_isLawful_255 rfl ?_
    refine v_iconst C (pc := 256) (v := 0) dL_isLawful_256 (by decide) ?_
    obtain ⟨x15, e15, h⟩ := h
    refine v_iald C (pc := 257) e15 dL_isLawful_257 ?_
    refine v_icmp_ge C (pc := 258) (tgt := 337) dL_isLawful_258 (by decide) (fun c16 => ?_) (fun c16 => ?_)
    · rw [if_pos c16] at h
      refine v_iload C (pc := 337) (i := 6) dL_isLawful_337 rfl ?_
      obtain ⟨hb, h⟩ := h
      exact v_eret (pc := 339) E rfl (nar_bool hb) ⟨_, rfl, h⟩ (by decide) (by decide) dL_isLawful_339
    · rw [if_neg c16] at h
      refine v_iload C (pc := 261) (i := 6) dL_isLawful_261 rfl ?_
      refine v_if_eq C (pc := 263) (tgt := 337) dL_isLawful_263 (by decide) (fun c17 => ?_) (fun c17 => ?_)
      · rw [if_pos c17] at h
        refine v_iload C (pc := 337) (i := 6) dL_isLawful_337 rfl ?_
        obtain ⟨hb, h⟩ := h
        exact v_eret (pc := 339) E rfl (nar_bool hb) ⟨_, rfl, h⟩ (by decide) (by decide) dL_isLawful_339
      · rw [if_neg c17] at h
        refine v_aload_n C (pc := 266) (i := 0) dL_isLawful_266 rfl ?_
        refine v_iload C (pc := 267) (i := 7) dL_isLawful_267 rfl ?_
        refine v_bipush C (pc := 269) (v := 8) dL_isLawful_269 (by decide) ?_
        refine v_idiv C (pc := 271) dL_isLawful_271 (by decide) ?_
        refine v_iload C (pc := 272) (i := 7) dL_isLawful_272 rfl ?_
        refine v_bipush C (pc := 274) (v := 8) dL_isLawful_274 (by decide) ?_
        refine v_irem C (pc := 276) dL_isLawful_276 (by decide) ?_
        refine v_iload C (pc := 277) (i := 9) dL_isLawful_277 rfl ?_
        refine v_aload_n C (pc := 279) (i := 0) dL_isLawful_279 rfl ?_
        obtain ⟨y19, hy19, hh⟩ := h
        skip
        obtain ⟨rfl, fsy19, hfy19⟩ := hC_inv hy19
        have h := hh
        clear hh
        obtain ⟨x18, e18, h⟩ := h
        refine v_pV C (pc := 280) (ci := 4) [] 0 (cX4_day_met (kl κ) (kG κ) _ e18) hfy19 rfl (good_l gL_isLawful_X4_day) rfl hdX4_day rfl rfl rfl (by rw [hR]; exact ⟨Nat.le_of_ble_eq_true rfl, Nat.le_of_ble_eq_true rfl⟩) (by rw [hR]; decide) (Nat.le_of_ble_eq_true rfl) rfl dL_isLawful_280 ?_
        obtain ⟨x20, e20, h⟩ := h
        refine v_pSH C (pc := 283) [va_rf (some y19), .int (a7 / 8), .int (a7 - a7 / 8 * 8), .int a9, .int x18] 5 (cL_whyNotq_met (kl κ) (kG κ) _ e20) (good_l3 gL_isLawful_L_whyNot) rfl hdsL_whyNot rfl rfl rfl (by rw [hR]; exact ⟨Nat.le_of_ble_eq_true rfl, Nat.le_of_ble_eq_true rfl⟩) (by rw [hR]; decide) (Nat.le_of_ble_eq_true rfl) rfl dL_isLawful_283 ?_
        refine v_istore C (pc := 286) (i := 10) (lv' := [some (va_rf (some y19)), some (va_rf a1), none, none, none, none, some (.int a6), some (.int a7), some (.int a8), some (.int a9), some (.int x20)]) dL_isLawful_286 rfl (lw_bi (j := 9) rfl) rfl ?_
        refine v_iload C (pc := 288) (i := 8) dL_isLawful_288 rfl ?_
        refine v_iload C (pc := 290) (i := 9) dL_isLawful_290 rfl ?_
        refine v_ishr C (pc := 292) dL_isLawful_292 ?_
        refine v_iconst C (pc := 293) (v := 1) dL_isLawful_293 (by decide) ?_
        refine v_iand C (pc := 294) dL_isLawful_294 ?_
        refine v_if_ne C (pc := 295) (tgt := 312) dL_isLawful_295 (by decide) (fun c21 => ?_) (fun c21 => ?_)
        · rw [if_neg c21] at h
          refine v_iload C (pc := 312) (i := 10) dL_isLawful_312 rfl ?_
          refine v_iconst C (pc := 314) (v := 1) dL_isLawful_314 (by decide) ?_
          refine v_icmp_eq C (pc := 315) (tgt := 324) dL_isLawful_315 (by decide) (fun c22 => ?_) (fun c22 => ?_)
          · rw [if_pos c22] at h
            refine v_mask (lv' := [some (va_rf (some y19)), some (va_rf a1), none, none, none, none, none, some (.int a7), some (.int a8), some (.int a9), none]) [true, true, false, false, false, false, false, true, true, true, false] rfl rfl ?_
            exact tbL_isLawful_324 E hR ht (fun q0 q1 q2 h => ih q0 q1 q2 h) h
          · rw [if_neg c22] at h
            refine v_iload C (pc := 318) (i := 10) dL_isLawful_318 rfl ?_
            refine v_iconst C (pc := 320) (v := 2) dL_isLawful_320 (by decide) ?_
            refine v_icmp_ne C (pc := 321) (tgt := 328) dL_isLawful_321 (by decide) (fun c23 => ?_) (fun c23 => ?_)
            · rw [if_neg c23] at h
              refine v_iconst C (pc := 328) (v := 0) dL_isLawful_328 (by decide) ?_
              refine v_istore C (pc := 329) (i := 6) (lv' := [some (va_rf (some y19)), some (va_rf a1), none, none, none, none, some (.int 0), some (.int a7), some (.int a8), some (.int a9), some (.int x20)]) dL_isLawful_329 rfl (lw_bn (j := 5) rfl) rfl ?_
              refine v_iinc C (pc := 331) (i := 9) (w := 1) (lv' := [some (va_rf (some y19)), some (va_rf a1), none, none, none, none, some (.int 0), some (.int a7), some (.int a8), some (.int (a9 + 1)), some (.int x20)]) dL_isLawful_331 rfl (by decide) rfl ?_
              refine v_goto C (pc := 334) (tgt := 253) dL_isLawful_334 (by decide) ?_
              refine v_mask (lv' := [some (va_rf (some y19)), some (va_rf a1), none, none, none, none, some (.int 0), some (.int a7), some (.int a8), some (.int (a9 + 1)), none]) [true, true, false, false, false, false, true, true, true, true, false] rfl rfl ?_
              exact ih _ _ _ h
            · rw [if_pos c23] at h
              refine v_mask (lv' := [some (va_rf (some y19)), some (va_rf a1), none, none, none, none, none, some (.int a7), some (.int a8), some (.int a9), none]) [true, true, false, false, false, false, false, true, true, true, false] rfl rfl ?_
              exact tbL_isLawful_324 E hR ht (fun q0 q1 q2 h => ih q0 q1 q2 h) h
        · rw [if_pos c21] at h
          refine v_iload C (pc := 298) (i := 10) dL_isLawful_298 rfl ?_
          refine v_iconst C (pc := 300) (v := 2) dL_isLawful_300 (by decide) ?_
          refine v_icmp_eq C (pc := 301) (tgt := 308) dL_isLawful_301 (by decide) (fun c24 => ?_) (fun c24 => ?_)
          · rw [if_pos c24] at h
            refine v_iconst C (pc := 308) (v := 0) dL_isLawful_308 (by decide) ?_
            refine v_goto C (pc := 309) (tgt := 329) dL_isLawful_309 (by decide) ?_
            refine v_istore C (pc := 329) (i := 6) (lv' := [some (va_rf (some y19)), some (va_rf a1), none, none, none, none, some (.int 0), some (.int a7), some (.int a8), some (.int a9), some (.int x20)]) dL_isLawful_329 rfl (lw_bn (j := 5) rfl) rfl ?_
            refine v_iinc C (pc := 331) (i := 9) (w := 1) (lv' := [some (va_rf (some y19)), some (va_rf a1), none, none, none, none, some (.int 0), some (.int a7), some (.int a8), some (.int (a9 + 1)), some (.int x20)]) dL_isLawful_331 rfl (by decide) rfl ?_
            refine v_goto C (pc := 334) (tgt := 253) dL_isLawful_334 (by decide) ?_
            refine v_mask (lv' := [some (va_rf (some y19)), some (va_rf a1), none, none, none, none, some (.int 0), some (.int a7), some (.int a8), some (.int (a9 + 1)), none]) [true, true, false, false, false, false, true, true, true, true, false] rfl rfl ?_
            exact ih _ _ _ h
          · rw [if_neg c24] at h
            refine v_iconst C (pc := 304) (v := 1) dL_isLawful_304 (by decide) ?_
            refine v_goto C (pc := 305) (tgt := 329) dL_isLawful_305 (by decide) ?_
            refine v_istore C (pc := 329) (i := 6) (lv' := [some (va_rf (some y19)), some (va_rf a1), none, none, none, none, some (.int 1), some (.int a7), some (.int a8), some (.int a9), some (.int x20)]) dL_isLawful_329 rfl (lw_bn (j := 5) rfl) rfl ?_
            refine v_iinc C (pc := 331) (i := 9) (w := 1) (lv' := [some (va_rf (some y19)), some (va_rf a1), none, none, none, none, some (.int 1), some (.int a7), some (.int a8), some (.int (a9 + 1)), some (.int x20)]) dL_isLawful_331 rfl (by decide) rfl ?_
            refine v_goto C (pc := 334) (tgt := 253) dL_isLawful_334 (by decide) ?_
            refine v_mask (lv' := [some (va_rf (some y19)), some (va_rf a1), none, none, none, none, some (.int 1), some (.int a7), some (.int a8), some (.int (a9 + 1)), none]) [true, true, false, false, false, false, true, true, true, true, false] rfl rfl ?_
            exact ih _ _ _ h
def bL_isLawful_230 (Q : hM → Int32 → Prop) (M : hM) (a0 : Option Nat) (a1 : Option Nat) (a7 : Int32) (s0 : Int32) : Prop :=
  ∃ x14, fL_ofq M a0 (a7 / 8) (a7 - a7 / 8 * 8) 7 = some x14 ∧
  lL_isLawful_253 Q a0 a1 a7 x14 1000 M s0 0
set_option maxRecDepth 100000 in
set_option maxHeartbeats 4000000 in
theorem tbL_isLawful_230 {κ : hKx} {M0 : hM} {sz : Nat} {Q : hM → Int32 → Prop} (E : Ce κ RL cL_isLawful vsL_isLawful (some .boolean) M0 sz (hQi Q) (fun _ _ => False) 0 0) (hR : kR κ = rmL_isLawful) (ht : ∀ x ∈ (kc κ).exceptionTable.toList, False)  {M : hM} {a0 : Option Nat} {a1 : Option Nat} {a7 : Int32} {s0 : Int32}  (h : bL_isLawful_230 Q M a0 a1 a7 s0) : VW κ 0 0 M 230 [some (va_rf a0), some (va_rf a1), none, none, none, none, none, some (.int a7), none, none, none] [.int s0] := by
  unfold bL_isLawful_230 at h
  have F := E.1
  have C := F.1
  refine v_istore C (pc := 230) (i := 6) (lv' := [some (va_rf a0), some (va_rf a1), none, none, none, none, some (.int s0), some (.int a7), none, none, none]) dL_isLawful_230 rfl (lw_bn (j := 5) rfl) rfl ?_
  refine v_aload_n C (pc := 232) (i := 0) dL_isLawful_232 rfl ?_
  refine v_iload C (pc := 233) (i := 7) dL_isLawful_233 rfl ?_
  refine v_bipush C (pc := 235) (v := 8) dL_isLawful_235 (by decide) ?_
  refine v_idiv C (pc := 237) dL_isLawful_237 (by decide) ?_
  refine v_iload C (pc := 238) (i := 7) dL_isLawful_238 rfl ?_
  refine v_bipush C (pc := 240) (v := 8) dL_isLawful_240 (by decide) ?_
  refine v_irem C (pc := 242) dL_isLawful_242 (by decide) ?_
  refine v_bipush C (pc := 243) (v := 7) dL_isLawful_243 (by decide) ?_
  obtain ⟨x14, e14, h⟩ := h
  refine v_pSH C (pc := 245) [va_rf a0, .int (a7 / 8), .int (a7 - a7 / 8 * 8), .int 7] 4 (cL_ofq_met (kl κ) (kG κ) _ e14) (good_l3 gL_isLawful_L_of) rfl hdsL_of rfl rfl rfl (by rw [hR]; exact ⟨Nat.le_of_ble_eq_true rfl, Nat.le_of_ble_eq_true rfl⟩) (by rw [hR]; decide) (Nat.le_of_ble_eq_true rfl) rfl dL_isLawful_245 ?_
  refine v_istore C (pc := 248) (i := 8) (lv' := [some (va_rf a0), some (va_rf a1), none, none, none, none, some (.int s0), some (.int a7), some (.int x14), none, none]) dL_isLawful_248 rfl (lw_bi (j := 7) rfl) rfl ?_
  refine v_iconst C (pc := 250) (v := 0) dL_isLawful_250 (by decide) ?_
  refine v_istore C (pc := 251) (i := 9) (lv' := [some (va_rf a0), some (va_rf a1), none, none, none, none, some (.int s0), some (.int a7), some (.int x14), some (.int 0), none]) dL_isLawful_251 rfl (lw_bi (j := 8) rfl) rfl ?_
  exact tlL_isLawful_253 E hR ht  1000 _ _ _ h
def bL_isLawful_229 (Q : hM → Int32 → Prop) (M : hM) (a0 : Option Nat) (a1 : Option Nat) (a7 : Int32) : Prop :=
  bL_isLawful_230 Q M a0 a1 a7 0
set_option maxRecDepth 100000 in
set_option maxHeartbeats 4000000 in
theorem tbL_isLawful_229 {κ : hKx} {M0 : hM} {sz : Nat} {Q : hM → Int32 → Prop} (E : Ce κ RL cL_isLawful vsL_isLawful (some .boolean) M0 sz (hQi Q) (fun _ _ => False) 0 0) (hR : kR κ = rmL_isLawful) (ht : ∀ x ∈ (kc κ).exceptionTable.toList, False)  {M : hM} {a0 : Option Nat} {a1 : Option Nat} {a7 : Int32}  (h : bL_isLawful_229 Q M a0 a1 a7) : VW κ 0 0 M 229 [some (va_rf a0), some (va_rf a1), none, none, none, none, none, some (.int a7), none, none, none] [] := by
  unfold bL_isLawful_229 at h
  have F := E.1
  have C := F.1
  refine v_iconst C (pc := 229) (v := 0) dL_isLawful_229 (by decide) ?_
  exact tbL_isLawful_230 E hR ht  h
def bL_isLawful_131 (Q : hM → Int32 → Prop) (M : hM) (a0 : Option Nat) (a1 : Option Nat) (a2 : Option Nat) (a5 : Int32) (a6 : Int32) : Prop :=
  if (a6 : Int32) = 0 then (
    (a6 = 0 ∨ a6 = 1) ∧ Q M a6
  ) else (
    ∃ x4, aI M 0 a1 0 = some x4 ∧
    if (x4 : Int32) ≤ 0 then (
      (a6 = 0 ∨ a6 = 1) ∧ Q M a6
    ) else (
      ∃ x6, aI M 0 a1 1 = some x6 ∧
      if ((8 * x6) : Int32) ≤ (a5 - a5 / 48 * 48) then (
        (a6 = 0 ∨ a6 = 1) ∧ Q M a6
      ) else (
        ∃ x8, aI M 0 a2 ((a5 - a5 / 48 * 48) / 8) = some x8 ∧
        if (((x8 >>> (((a5 - a5 / 48 * 48) - (a5 - a5 / 48 * 48) / 8 * 8) &&& 31)) &&& 1) : Int32) = 1 then (
          ∃ y11, hC M 4 a0 = some y11 ∧
          ∃ x10, fX4_day M y11 = some x10 ∧
          ∃ x12, fL_isBest M (some y11) a1 (a5 - a5 / 48 * 48) x10 = some x12 ∧
          if (x12 : Int32) = 0 then (
            bL_isLawful_229 Q M (some y11) a1 (a5 - a5 / 48 * 48)
          ) else (
            ∃ y26, hC M 4 (some y11) = some y26 ∧
            ∃ x25, fX4_day M y11 = some x25 ∧
            ∃ x27, rmI (a5 / 48) (x25 + 1) = some x27 ∧
            ∃ x28, fL_isBest M (some y11) a1 (a5 - a5 / 48 * 48) ((a5 / 48) - (a5 / 48) / (x25 + 1) * (x25 + 1)) = some x28 ∧
            if (x28 : Int32) = 0 then (
              bL_isLawful_229 Q M (some y11) a1 (a5 - a5 / 48 * 48)
            ) else (
              ∃ x30, fL_areNested M (some y11) a1 a5 = some x30 ∧
              if (x30 : Int32) = 0 then (
                bL_isLawful_229 Q M (some y11) a1 (a5 - a5 / 48 * 48)
              ) else (
                bL_isLawful_230 Q M (some y11) a1 (a5 - a5 / 48 * 48) 1
              )
            )
          )
        ) else (
          (a6 = 0 ∨ a6 = 1) ∧ Q M a6
        )
      )
    )
  )
set_option maxRecDepth 100000 in
set_option maxHeartbeats 4000000 in
theorem tbL_isLawful_131 {κ : hKx} {M0 : hM} {sz : Nat} {Q : hM → Int32 → Prop} (E : Ce κ RL cL_isLawful vsL_isLawful (some .boolean) M0 sz (hQi Q) (fun _ _ => False) 0 0) (hR : kR κ = rmL_isLawful) (ht : ∀ x ∈ (kc κ).exceptionTable.toList, False)  {M : hM} {a0 : Option Nat} {a1 : Option Nat} {a2 : Option Nat} {a5 : Int32} {a6 : Int32}  (h : bL_isLawful_131 Q M a0 a1 a2 a5 a6) : VW κ 0 0 M 131 [some (va_rf a0), some (va_rf a1), some (va_rf a2), none, none, some (.int a5), some (.int a6), none, none, none, none] [] := by
  unfold bL_isLawful_131 at h
  have F := E.1
  have C := F.1
  refine v_iload C (pc := 131) (i := 5) dL_isLawful_131 rfl ?_
  refine v_bipush C (pc := 133) (v := 48) dL_isLawful_133 (by decide) ?_
  refine v_irem C (pc := 135) dL_isLawful_135 (by decide) ?_
  refine v_istore C (pc := 136) (i := 7) (lv' := [some (va_rf a0), some (va_rf a1), some (va_rf a2), none, none, some (.int a5), some (.int a6), some (.int (a5 - a5 / 48 * 48)), none, none, none]) dL_isLawful_136 rfl (lw_bi (j := 6) rfl) rfl ?_
  refine v_iload C (pc := 138) (i := 6) dL_isLawful_138 rfl ?_
  refine v_if_eq C (pc := 140) (tgt := 337) dL_isLawful_140 (by decide) (fun c3 => ?_) (fun c3 => ?_)
  · rw [if_pos c3] at h
    refine v_iload C (pc := 337) (i := 6) dL_isLawful_337 rfl ?_
    obtain ⟨hb, h⟩ := h
    exact v_eret (pc := 339) E rfl (nar_bool hb) ⟨_, rfl, h⟩ (by decide) (by decide) dL_isLawful_339
  · rw [if_neg c3] at h
    refine v_aload_n C (pc := 143) (i := 1) dL_isLawful_143 rfl ?_
    refine v_iconst C (pc := 144) (v := 0) dL_isLawful_144 (by decide) ?_
    obtain ⟨x4, e4, h⟩ := h
    refine v_iald C (pc := 145) e4 dL_isLawful_145 ?_
    refine v_if_le C (pc := 146) (tgt := 337) dL_isLawful_146 (by decide) (fun c5 => ?_) (fun c5 => ?_)
    · rw [if_pos c5] at h
      refine v_iload C (pc := 337) (i := 6) dL_isLawful_337 rfl ?_
      obtain ⟨hb, h⟩ := h
      exact v_eret (pc := 339) E rfl (nar_bool hb) ⟨_, rfl, h⟩ (by decide) (by decide) dL_isLawful_339
    · rw [if_neg c5] at h
      refine v_iload C (pc := 149) (i := 7) dL_isLawful_149 rfl ?_
      refine v_bipush C (pc := 151) (v := 8) dL_isLawful_151 (by decide) ?_
      refine v_aload_n C (pc := 153) (i := 1) dL_isLawful_153 rfl ?_
      refine v_iconst C (pc := 154) (v := 1) dL_isLawful_154 (by decide) ?_
      obtain ⟨x6, e6, h⟩ := h
      refine v_iald C (pc := 155) e6 dL_isLawful_155 ?_
      refine v_imul C (pc := 156) dL_isLawful_156 ?_
      refine v_icmp_ge C (pc := 157) (tgt := 337) dL_isLawful_157 (by decide) (fun c7 => ?_) (fun c7 => ?_)
      · rw [if_pos c7] at h
        refine v_iload C (pc := 337) (i := 6) dL_isLawful_337 rfl ?_
        obtain ⟨hb, h⟩ := h
        exact v_eret (pc := 339) E rfl (nar_bool hb) ⟨_, rfl, h⟩ (by decide) (by decide) dL_isLawful_339
      · rw [if_neg c7] at h
        refine v_aload_n C (pc := 160) (i := 2) dL_isLawful_160 rfl ?_
        refine v_iload C (pc := 161) (i := 7) dL_isLawful_161 rfl ?_
        refine v_bipush C (pc := 163) (v := 8) dL_isLawful_163 (by decide) ?_
        refine v_idiv C (pc := 165) dL_isLawful_165 (by decide) ?_
        obtain ⟨x8, e8, h⟩ := h
        refine v_iald C (pc := 166) e8 dL_isLawful_166 ?_
        refine v_iload C (pc := 167) (i := 7) dL_isLawful_167 rfl ?_
        refine v_bipush C (pc := 169) (v := 8) dL_isLawful_169 (by decide) ?_
        refine v_irem C (pc := 171) dL_isLawful_171 (by decide) ?_
        refine v_ishr C (pc := 172) dL_isLawful_172 ?_
        refine v_iconst C (pc := 173) (v := 1) dL_isLawful_173 (by decide) ?_
        refine v_iand C (pc := 174) dL_isLawful_174 ?_
        refine v_iconst C (pc := 175) (v := 1) dL_isLawful_175 (by decide) ?_
        refine v_icmp_ne C (pc := 176) (tgt := 337) dL_isLawful_176 (by decide) (fun c9 => ?_) (fun c9 => ?_)
        · rw [if_neg c9] at h
          refine v_iload C (pc := 337) (i := 6) dL_isLawful_337 rfl ?_
          obtain ⟨hb, h⟩ := h
          exact v_eret (pc := 339) E rfl (nar_bool hb) ⟨_, rfl, h⟩ (by decide) (by decide) dL_isLawful_339
        · rw [if_pos c9] at h
          refine v_aload_n C (pc := 179) (i := 0) dL_isLawful_179 rfl ?_
          refine v_aload_n C (pc := 180) (i := 1) dL_isLawful_180 rfl ?_
          refine v_iload C (pc := 181) (i := 7) dL_isLawful_181 rfl ?_
          refine v_aload_n C (pc := 183) (i := 0) dL_isLawful_183 rfl ?_
          obtain ⟨y11, hy11, hh⟩ := h
          skip
          obtain ⟨rfl, fsy11, hfy11⟩ := hC_inv hy11
          have h := hh
          clear hh
          obtain ⟨x10, e10, h⟩ := h
          refine v_pV C (pc := 184) (ci := 4) [] 0 (cX4_day_met (kl κ) (kG κ) _ e10) hfy11 rfl (good_l gL_isLawful_X4_day) rfl hdX4_day rfl rfl rfl (by rw [hR]; exact ⟨Nat.le_of_ble_eq_true rfl, Nat.le_of_ble_eq_true rfl⟩) (by rw [hR]; decide) (Nat.le_of_ble_eq_true rfl) rfl dL_isLawful_184 ?_
          obtain ⟨x12, e12, h⟩ := h
          refine v_pS C (pc := 187) [va_rf (some y11), va_rf a1, .int (a5 - a5 / 48 * 48), .int x10] 4 (cL_isBest_met (kl κ) (kG κ) _ e12) (good_l3 gL_isLawful_L_isBest) rfl hdsL_isBest rfl rfl rfl (by rw [hR]; exact ⟨Nat.le_of_ble_eq_true rfl, Nat.le_of_ble_eq_true rfl⟩) (by rw [hR]; decide) (Nat.le_of_ble_eq_true rfl) rfl dL_isLawful_187 ?_
          refine v_if_eq C (pc := 190) (tgt := 229) dL_isLawful_190 (by decide) (fun c13 => ?_) (fun c13 => ?_)
          · rw [if_pos c13] at h
            refine v_mask (lv' := [some (va_rf (some y11)), some (va_rf a1), none, none, none, none, none, some (.int (a5 - a5 / 48 * 48)), none, none, none]) [true, true, false, false, false, false, false, true, false, false, false] rfl rfl ?_
            exact tbL_isLawful_229 E hR ht  h
          · rw [if_neg c13] at h
            refine v_aload_n C (pc := 193) (i := 0) dL_isLawful_193 rfl ?_
            refine v_aload_n C (pc := 194) (i := 1) dL_isLawful_194 rfl ?_
            refine v_iload C (pc := 195) (i := 7) dL_isLawful_195 rfl ?_
            refine v_iload C (pc := 197) (i := 5) dL_isLawful_197 rfl ?_
            refine v_bipush C (pc := 199) (v := 48) dL_isLawful_199 (by decide) ?_
            refine v_idiv C (pc := 201) dL_isLawful_201 (by decide) ?_
            refine v_aload_n C (pc := 202) (i := 0) dL_isLawful_202 rfl ?_
            obtain ⟨y26, hy26, h⟩ := h
            obtain ⟨fsy26, hfy26⟩ := hC_some hy26
            obtain ⟨x25, e25, h⟩ := h
            refine v_pV C (pc := 203) (ci := 4) [] 0 (cX4_day_met (kl κ) (kG κ) _ e25) hfy26 rfl (good_l gL_isLawful_X4_day) rfl hdX4_day rfl rfl rfl (by rw [hR]; exact ⟨Nat.le_of_ble_eq_true rfl, Nat.le_of_ble_eq_true rfl⟩) (by rw [hR]; decide) (Nat.le_of_ble_eq_true rfl) rfl dL_isLawful_203 ?_
            refine v_iconst C (pc := 206) (v := 1) dL_isLawful_206 (by decide) ?_
            refine v_iadd C (pc := 207) dL_isLawful_207 ?_
            obtain ⟨x27, e27, h⟩ := h
            obtain ⟨hde27, rfl⟩ := rmI_inv e27
            refine v_irem C (pc := 208) dL_isLawful_208 hde27 ?_
            obtain ⟨x28, e28, h⟩ := h
            refine v_pS C (pc := 209) [va_rf (some y11), va_rf a1, .int (a5 - a5 / 48 * 48), .int ((a5 / 48) - (a5 / 48) / (x25 + 1) * (x25 + 1))] 4 (cL_isBest_met (kl κ) (kG κ) _ e28) (good_l3 gL_isLawful_L_isBest) rfl hdsL_isBest rfl rfl rfl (by rw [hR]; exact ⟨Nat.le_of_ble_eq_true rfl, Nat.le_of_ble_eq_true rfl⟩) (by rw [hR]; decide) (Nat.le_of_ble_eq_true rfl) rfl dL_isLawful_209 ?_
            refine v_if_eq C (pc := 212) (tgt := 229) dL_isLawful_212 (by decide) (fun c29 => ?_) (fun c29 => ?_)
            · rw [if_pos c29] at h
              refine v_mask (lv' := [some (va_rf (some y11)), some (va_rf a1), none, none, none, none, none, some (.int (a5 - a5 / 48 * 48)), none, none, none]) [true, true, false, false, false, false, false, true, false, false, false] rfl rfl ?_
              exact tbL_isLawful_229 E hR ht  h
            · rw [if_neg c29] at h
              refine v_aload_n C (pc := 215) (i := 0) dL_isLawful_215 rfl ?_
              refine v_aload_n C (pc := 216) (i := 1) dL_isLawful_216 rfl ?_
              refine v_iload C (pc := 217) (i := 5) dL_isLawful_217 rfl ?_
              obtain ⟨x30, e30, h⟩ := h
              refine v_pS C (pc := 219) [va_rf (some y11), va_rf a1, .int a5] 3 (cL_areNested_met (kl κ) (kG κ) _ e30) (good_l3 gL_isLawful_L_areNested) rfl hdsL_areNested rfl rfl rfl (by rw [hR]; exact ⟨Nat.le_of_ble_eq_true rfl, Nat.le_of_ble_eq_true rfl⟩) (by rw [hR]; decide) (Nat.le_of_ble_eq_true rfl) rfl dL_isLawful_219 ?_
              refine v_if_eq C (pc := 222) (tgt := 229) dL_isLawful_222 (by decide) (fun c31 => ?_) (fun c31 => ?_)
              · rw [if_pos c31] at h
                refine v_mask (lv' := [some (va_rf (some y11)), some (va_rf a1), none, none, none, none, none, some (.int (a5 - a5 / 48 * 48)), none, none, none]) [true, true, false, false, false, false, false, true, false, false, false] rfl rfl ?_
                exact tbL_isLawful_229 E hR ht  h
              · rw [if_neg c31] at h
                refine v_iconst C (pc := 225) (v := 1) dL_isLawful_225 (by decide) ?_
                refine v_goto C (pc := 226) (tgt := 230) dL_isLawful_226 (by decide) ?_
                refine v_mask (lv' := [some (va_rf (some y11)), some (va_rf a1), none, none, none, none, none, some (.int (a5 - a5 / 48 * 48)), none, none, none]) [true, true, false, false, false, false, false, true, false, false, false] rfl rfl ?_
                exact tbL_isLawful_230 E hR ht  h
def lL_isLawful_59 (Q : hM → Int32 → Prop) (a0 : Option Nat) (a1 : Option Nat) (a2 : Option Nat) (a3 : Option Nat) (a5 : Int32) : Nat → hM → Int32 → Int32 → Prop
  | 0, _, _ , _ => False
  | n + 1, M, a6, a7 =>
    if (12 : Int32) ≤ a7 then (
      bL_isLawful_131 Q M a0 a1 a2 a5 a6
    ) else (
      if (a6 : Int32) = 0 then (
        bL_isLawful_131 Q M a0 a1 a2 a5 a6
      ) else (
        ∃ x33, aI M 0 a1 1 = some x33 ∧
        if (x33 : Int32) ≤ (a7 / 4) then (
          (lL_isLawful_59 Q a0 a1 a2 a3 a5 n) M a6 (a7 + 1)
        ) else (
          ∃ x35, aI M 0 a2 (a7 / 4) = some x35 ∧
          if (((x35 >>> ((a7 - a7 / 4 * 4) &&& 31)) &&& 1) : Int32) = 1 then (
            wL_isHeld M a0 (((a7 / 4) * 8) + (a7 - a7 / 4 * 4)) a3 (4 * a7) (fun M38 x37 =>
            (lL_isLawful_59 Q a0 a1 a2 a3 a5 n) M38 x37 (a7 + 1))
          ) else (
            (lL_isLawful_59 Q a0 a1 a2 a3 a5 n) M a6 (a7 + 1)
          )
        )
      )
    )
set_option maxRecDepth 100000 in
set_option maxHeartbeats 4000000 in
theorem tlL_isLawful_59 {κ : hKx} {M0 : hM} {sz : Nat} {Q : hM → Int32 → Prop} (E : Ce κ RL cL_isLawful vsL_isLawful (some .boolean) M0 sz (hQi Q) (fun _ _ => False) 0 0) (hR : kR κ = rmL_isLawful) (ht : ∀ x ∈ (kc κ).exceptionTable.toList, False)  {a0 : Option Nat} {a1 : Option Nat} {a2 : Option Nat} {a3 : Option Nat} {a5 : Int32}  : ∀ (n : Nat) (M : hM) (a6 : Int32) (a7 : Int32), lL_isLawful_59 Q a0 a1 a2 a3 a5 n M a6 a7 → VW κ 0 0 M 59 [some (va_rf a0), some (va_rf a1), some (va_rf a2), some (va_rf a3), none, some (.int a5), some (.int a6), some (.int a7), none, none, none] [] := by
  have F := E.1
  have C := F.1
  intro n
  induction n with
  | zero =>
    intro M a6 a7 h
    unfold lL_isLawful_59 at h
    exact h.elim
  | succ n ih =>
    intro M a6 a7 h
    unfold lL_isLawful_59 at h
    refine v_iload C (pc := 59) (i := 7) dL_isLawful_59 rfl ?_
    refine v_bipush C (pc := 61) (v := 12) dL_isLawful_61 (by decide) ?_
    refine v_icmp_ge C (pc := 63) (tgt := 131) dL_isLawful_63 (by decide) (fun c2 => ?_) (fun c2 => ?_)
    · rw [if_pos c2] at h
      refine v_mask (lv' := [some (va_rf a0), some (va_rf a1), some (va_rf a2), none, none, some (.int a5), some (.int a6), none, none, none, none]) [true, true, true, false, false, true, true, false, false, false, false] rfl rfl ?_
      exact tbL_isLawful_131 E hR ht  h
    · rw [if_neg c2] at h
      refine v_iload C (pc := 66) (i := 6) dL_isLawful_66 rfl ?_
      refine v_if_eq C (pc := 68) (tgt := 131) dL_isLawful_68 (by decide) (fun c32 => ?_) (fun c32 => ?_)
      · rw [if_pos c32] at h
        refine v_mask (lv' := [some (va_rf a0), some (va_rf a1), some (va_rf a2), none, none, some (.int a5), some (.int a6), none, none, none, none]) [true, true, true, false, false, true, true, false, false, false, false] rfl rfl ?_
        exact tbL_isLawful_131 E hR ht  h
      · rw [if_neg c32] at h
        refine v_iload C (pc := 71) (i := 7) dL_isLawful_71 rfl ?_
        refine v_iconst C (pc := 73) (v := 4) dL_isLawful_73 (by decide) ?_
        refine v_idiv C (pc := 74) dL_isLawful_74 (by decide) ?_
        refine v_bipush C (pc := 75) (v := 8) dL_isLawful_75 (by decide) ?_
        refine v_imul C (pc := 77) dL_isLawful_77 ?_
        refine v_iload C (pc := 78) (i := 7) dL_isLawful_78 rfl ?_
        refine v_iconst C (pc := 80) (v := 4) dL_isLawful_80 (by decide) ?_
        refine v_irem C (pc := 81) dL_isLawful_81 (by decide) ?_
        refine v_iadd C (pc := 82) dL_isLawful_82 ?_
        refine v_istore C (pc := 83) (i := 8) (lv' := [some (va_rf a0), some (va_rf a1), some (va_rf a2), some (va_rf a3), none, some (.int a5), some (.int a6), some (.int a7), some (.int (((a7 / 4) * 8) + (a7 - a7 / 4 * 4))), none, none]) dL_isLawful_83 rfl (lw_bi (j := 7) rfl) rfl ?_
        refine v_iload C (pc := 85) (i := 7) dL_isLawful_85 rfl ?_
        refine v_iconst C (pc := 87) (v := 4) dL_isLawful_87 (by decide) ?_
        refine v_idiv C (pc := 88) dL_isLawful_88 (by decide) ?_
        refine v_aload_n C (pc := 89) (i := 1) dL_isLawful_89 rfl ?_
        refine v_iconst C (pc := 90) (v := 1) dL_isLawful_90 (by decide) ?_
        obtain ⟨x33, e33, h⟩ := h
        refine v_iald C (pc := 91) e33 dL_isLawful_91 ?_
        refine v_icmp_ge C (pc := 92) (tgt := 125) dL_isLawful_92 (by decide) (fun c34 => ?_) (fun c34 => ?_)
        · rw [if_pos c34] at h
          refine v_iinc C (pc := 125) (i := 7) (w := 1) (lv' := [some (va_rf a0), some (va_rf a1), some (va_rf a2), some (va_rf a3), none, some (.int a5), some (.int a6), some (.int (a7 + 1)), some (.int (((a7 / 4) * 8) + (a7 - a7 / 4 * 4))), none, none]) dL_isLawful_125 rfl (by decide) rfl ?_
          refine v_goto C (pc := 128) (tgt := 59) dL_isLawful_128 (by decide) ?_
          refine v_mask (lv' := [some (va_rf a0), some (va_rf a1), some (va_rf a2), some (va_rf a3), none, some (.int a5), some (.int a6), some (.int (a7 + 1)), none, none, none]) [true, true, true, true, false, true, true, true, false, false, false] rfl rfl ?_
          exact ih _ _ _ h
        · rw [if_neg c34] at h
          refine v_aload_n C (pc := 95) (i := 2) dL_isLawful_95 rfl ?_
          refine v_iload C (pc := 96) (i := 7) dL_isLawful_96 rfl ?_
          refine v_iconst C (pc := 98) (v := 4) dL_isLawful_98 (by decide) ?_
          refine v_idiv C (pc := 99) dL_isLawful_99 (by decide) ?_
          obtain ⟨x35, e35, h⟩ := h
          refine v_iald C (pc := 100) e35 dL_isLawful_100 ?_
          refine v_iload C (pc := 101) (i := 7) dL_isLawful_101 rfl ?_
          refine v_iconst C (pc := 103) (v := 4) dL_isLawful_103 (by decide) ?_
          refine v_irem C (pc := 104) dL_isLawful_104 (by decide) ?_
          refine v_ishr C (pc := 105) dL_isLawful_105 ?_
          refine v_iconst C (pc := 106) (v := 1) dL_isLawful_106 (by decide) ?_
          refine v_iand C (pc := 107) dL_isLawful_107 ?_
          refine v_iconst C (pc := 108) (v := 1) dL_isLawful_108 (by decide) ?_
          refine v_icmp_ne C (pc := 109) (tgt := 125) dL_isLawful_109 (by decide) (fun c36 => ?_) (fun c36 => ?_)
          · rw [if_neg c36] at h
            refine v_iinc C (pc := 125) (i := 7) (w := 1) (lv' := [some (va_rf a0), some (va_rf a1), some (va_rf a2), some (va_rf a3), none, some (.int a5), some (.int a6), some (.int (a7 + 1)), some (.int (((a7 / 4) * 8) + (a7 - a7 / 4 * 4))), none, none]) dL_isLawful_125 rfl (by decide) rfl ?_
            refine v_goto C (pc := 128) (tgt := 59) dL_isLawful_128 (by decide) ?_
            refine v_mask (lv' := [some (va_rf a0), some (va_rf a1), some (va_rf a2), some (va_rf a3), none, some (.int a5), some (.int a6), some (.int (a7 + 1)), none, none, none]) [true, true, true, true, false, true, true, true, false, false, false] rfl rfl ?_
            exact ih _ _ _ h
          · rw [if_pos c36] at h
            refine v_aload_n C (pc := 112) (i := 0) dL_isLawful_112 rfl ?_
            refine v_iload C (pc := 113) (i := 8) dL_isLawful_113 rfl ?_
            refine v_aload_n C (pc := 115) (i := 3) dL_isLawful_115 rfl ?_
            refine v_iconst C (pc := 116) (v := 4) dL_isLawful_116 (by decide) ?_
            refine v_iload C (pc := 117) (i := 7) dL_isLawful_117 rfl ?_
            refine v_imul C (pc := 119) dL_isLawful_119 ?_
            refine v_nSC F (pc := 120) [va_rf a0, .int (((a7 / 4) * 8) + (a7 - a7 / 4 * 4)), va_rf a3, .int (4 * a7)] 4 (cL_isHeld_met (kl κ) F.2.2.2.1 (kG κ) _ h) (good_l3 gL_isLawful_L_isHeld) rfl hdsL_isHeld rfl rfl rfl (by rw [hR]; exact ⟨Nat.le_of_ble_eq_true rfl, Nat.le_of_ble_eq_true rfl⟩) (by rw [hR]; decide) (Nat.le_of_ble_eq_true rfl) rfl dL_isLawful_120 (hk_i fun M38 x37 h => ?_)
            refine v_istore C (pc := 123) (i := 6) (lv' := [some (va_rf a0), some (va_rf a1), some (va_rf a2), some (va_rf a3), none, some (.int a5), some (.int x37), some (.int a7), some (.int (((a7 / 4) * 8) + (a7 - a7 / 4 * 4))), none, none]) dL_isLawful_123 rfl (lw_bi (j := 5) rfl) rfl ?_
            refine v_iinc C (pc := 125) (i := 7) (w := 1) (lv' := [some (va_rf a0), some (va_rf a1), some (va_rf a2), some (va_rf a3), none, some (.int a5), some (.int x37), some (.int (a7 + 1)), some (.int (((a7 / 4) * 8) + (a7 - a7 / 4 * 4))), none, none]) dL_isLawful_125 rfl (by decide) rfl ?_
            refine v_goto C (pc := 128) (tgt := 59) dL_isLawful_128 (by decide) ?_
            refine v_mask (lv' := [some (va_rf a0), some (va_rf a1), some (va_rf a2), some (va_rf a3), none, some (.int a5), some (.int x37), some (.int (a7 + 1)), none, none, none]) [true, true, true, true, false, true, true, true, false, false, false] rfl rfl ?_
            exact ih _ _ _ h
def bL_isLawful_37 (k6 : hM → Int32 → Int32 → Prop) (Q : hM → Int32 → Prop) (M : hM) (a0 : Option Nat) (a1 : Option Nat) (a2 : Option Nat) (a3 : Option Nat) (a4 : Option Nat) (a5 : Int32) (a7 : Int32) (s0 : Int32) : Prop :=
  ∃ x43, fL_countq M a0 a7 = some x43 ∧
  ∃ M44, sI M 0 a4 a7 x43 = some M44 ∧
  k6 M44 s0 (a7 + 1)
set_option maxRecDepth 100000 in
set_option maxHeartbeats 4000000 in
theorem tbL_isLawful_37 {κ : hKx} {M0 : hM} {sz : Nat} {Q : hM → Int32 → Prop} (E : Ce κ RL cL_isLawful vsL_isLawful (some .boolean) M0 sz (hQi Q) (fun _ _ => False) 0 0) (hR : kR κ = rmL_isLawful) (ht : ∀ x ∈ (kc κ).exceptionTable.toList, False) {k6 : hM → Int32 → Int32 → Prop} {M : hM} {a0 : Option Nat} {a1 : Option Nat} {a2 : Option Nat} {a3 : Option Nat} {a4 : Option Nat} {a5 : Int32} {a7 : Int32} {s0 : Int32} (hk6 : ∀ (M : hM) (a6 : Int32) (a7 : Int32), k6 M a6 a7 → VW κ 0 0 M 6 [some (va_rf a0), some (va_rf a1), some (va_rf a2), some (va_rf a3), some (va_rf a4), some (.int a5), some (.int a6), some (.int a7), none, none, none] []) (h : bL_isLawful_37 k6 Q M a0 a1 a2 a3 a4 a5 a7 s0) : VW κ 0 0 M 37 [some (va_rf a0), some (va_rf a1), some (va_rf a2), some (va_rf a3), some (va_rf a4), some (.int a5), none, some (.int a7), none, none, none] [.int s0] := by
  unfold bL_isLawful_37 at h
  have F := E.1
  have C := F.1
  refine v_istore C (pc := 37) (i := 6) (lv' := [some (va_rf a0), some (va_rf a1), some (va_rf a2), some (va_rf a3), some (va_rf a4), some (.int a5), some (.int s0), some (.int a7), none, none, none]) dL_isLawful_37 rfl (lw_bi (j := 5) rfl) rfl ?_
  refine v_aload C (pc := 39) (i := 4) dL_isLawful_39 rfl ?_
  refine v_iload C (pc := 41) (i := 7) dL_isLawful_41 rfl ?_
  refine v_aload_n C (pc := 43) (i := 0) dL_isLawful_43 rfl ?_
  refine v_iload C (pc := 44) (i := 7) dL_isLawful_44 rfl ?_
  obtain ⟨x43, e43, h⟩ := h
  refine v_pSH C (pc := 46) [va_rf a0, .int a7] 2 (cL_countq_met (kl κ) (kG κ) _ e43) (good_l3 gL_isLawful_L_count) rfl hdsL_count rfl rfl rfl (by rw [hR]; exact ⟨Nat.le_of_ble_eq_true rfl, Nat.le_of_ble_eq_true rfl⟩) (by rw [hR]; decide) (Nat.le_of_ble_eq_true rfl) rfl dL_isLawful_46 ?_
  obtain ⟨M44, e44, h⟩ := h
  refine v_iast F (pc := 49) e44 dL_isLawful_49 ?_
  refine v_iinc C (pc := 50) (i := 7) (w := 1) (lv' := [some (va_rf a0), some (va_rf a1), some (va_rf a2), some (va_rf a3), some (va_rf a4), some (.int a5), some (.int s0), some (.int (a7 + 1)), none, none, none]) dL_isLawful_50 rfl (by decide) rfl ?_
  refine v_goto C (pc := 53) (tgt := 6) dL_isLawful_53 (by decide) ?_
  exact hk6 _ _ _ h
def lL_isLawful_6 (Q : hM → Int32 → Prop) (a0 : Option Nat) (a1 : Option Nat) (a2 : Option Nat) (a3 : Option Nat) (a4 : Option Nat) (a5 : Int32) : Nat → hM → Int32 → Int32 → Prop
  | 0, _, _ , _ => False
  | n + 1, M, a6, a7 =>
    if (6 : Int32) ≤ a7 then (
      lL_isLawful_59 Q a0 a1 a2 a3 a5 1000 M a6 0
    ) else (
      if (a6 : Int32) = 0 then (
        lL_isLawful_59 Q a0 a1 a2 a3 a5 1000 M a6 0
      ) else (
        ∃ x40, fL_countq M a0 a7 = some x40 ∧
        ∃ x41, aI M 0 a4 a7 = some x41 ∧
        if (x40 : Int32) < x41 then (
          bL_isLawful_37 (lL_isLawful_6 Q a0 a1 a2 a3 a4 a5 n) Q M a0 a1 a2 a3 a4 a5 a7 0
        ) else (
          bL_isLawful_37 (lL_isLawful_6 Q a0 a1 a2 a3 a4 a5 n) Q M a0 a1 a2 a3 a4 a5 a7 1
        )
      )
    )
set_option maxRecDepth 100000 in
set_option maxHeartbeats 4000000 in
theorem tlL_isLawful_6 {κ : hKx} {M0 : hM} {sz : Nat} {Q : hM → Int32 → Prop} (E : Ce κ RL cL_isLawful vsL_isLawful (some .boolean) M0 sz (hQi Q) (fun _ _ => False) 0 0) (hR : kR κ = rmL_isLawful) (ht : ∀ x ∈ (kc κ).exceptionTable.toList, False)  {a0 : Option Nat} {a1 : Option Nat} {a2 : Option Nat} {a3 : Option Nat} {a4 : Option Nat} {a5 : Int32}  : ∀ (n : Nat) (M : hM) (a6 : Int32) (a7 : Int32), lL_isLawful_6 Q a0 a1 a2 a3 a4 a5 n M a6 a7 → VW κ 0 0 M 6 [some (va_rf a0), some (va_rf a1), some (va_rf a2), some (va_rf a3), some (va_rf a4), some (.int a5), some (.int a6), some (.int a7), none, none, none] [] := by
  have F := E.1
  have C := F.1
  intro n
  induction n with
  | zero =>
    intro M a6 a7 h
    unfold lL_isLawful_6 at h
    exact h.elim
  | succ n ih =>
    intro M a6 a7 h
    unfold lL_isLawful_6 at h
    refine v_iload C (pc := 6) (i := 7) dL_isLawful_6 rfl ?_
    refine v_bipush C (pc := 8) (v := 6) dL_isLawful_8 (by decide) ?_
    refine v_icmp_ge C (pc := 10) (tgt := 56) dL_isLawful_10 (by decide) (fun c1 => ?_) (fun c1 => ?_)
    · rw [if_pos c1] at h
      refine v_iconst C (pc := 56) (v := 0) dL_isLawful_56 (by decide) ?_
      refine v_istore C (pc := 57) (i := 7) (lv' := [some (va_rf a0), some (va_rf a1), some (va_rf a2), some (va_rf a3), some (va_rf a4), some (.int a5), some (.int a6), some (.int 0), none, none, none]) dL_isLawful_57 rfl (lw_bi (j := 6) rfl) rfl ?_
      refine v_mask (lv' := [some (va_rf a0), some (va_rf a1), some (va_rf a2), some (va_rf a3), none, some (.int a5), some (.int a6), some (.int 0), none, none, none]) [true, true, true, true, false, true, true, true, false, false, false] rfl rfl ?_
      exact tlL_isLawful_59 E hR ht  1000 _ _ _ h
    · rw [if_neg c1] at h
      refine v_iload C (pc := 13) (i := 6) dL_isLawful_13 rfl ?_
      refine v_if_eq C (pc := 15) (tgt := 56) dL_isLawful_15 (by decide) (fun c39 => ?_) (fun c39 => ?_)
      · rw [if_pos c39] at h
        refine v_iconst C (pc := 56) (v := 0) dL_isLawful_56 (by decide) ?_
        refine v_istore C (pc := 57) (i := 7) (lv' := [some (va_rf a0), some (va_rf a1), some (va_rf a2), some (va_rf a3), some (va_rf a4), some (.int a5), some (.int a6), some (.int 0), none, none, none]) dL_isLawful_57 rfl (lw_bi (j := 6) rfl) rfl ?_
        refine v_mask (lv' := [some (va_rf a0), some (va_rf a1), some (va_rf a2), some (va_rf a3), none, some (.int a5), some (.int a6), some (.int 0), none, none, none]) [true, true, true, true, false, true, true, true, false, false, false] rfl rfl ?_
        exact tlL_isLawful_59 E hR ht  1000 _ _ _ h
      · rw [if_neg c39] at h
        refine v_aload_n C (pc := 18) (i := 0) dL_isLawful_18 rfl ?_
        refine v_iload C (pc := 19) (i := 7) dL_isLawful_19 rfl ?_
        obtain ⟨x40, e40, h⟩ := h
        refine v_pSH C (pc := 21) [va_rf a0, .int a7] 2 (cL_countq_met (kl κ) (kG κ) _ e40) (good_l3 gL_isLawful_L_count) rfl hdsL_count rfl rfl rfl (by rw [hR]; exact ⟨Nat.le_of_ble_eq_true rfl, Nat.le_of_ble_eq_true rfl⟩) (by rw [hR]; decide) (Nat.le_of_ble_eq_true rfl) rfl dL_isLawful_21 ?_
        refine v_aload C (pc := 24) (i := 4) dL_isLawful_24 rfl ?_
        refine v_iload C (pc := 26) (i := 7) dL_isLawful_26 rfl ?_
        obtain ⟨x41, e41, h⟩ := h
        refine v_iald C (pc := 28) e41 dL_isLawful_28 ?_
        refine v_icmp_lt C (pc := 29) (tgt := 36) dL_isLawful_29 (by decide) (fun c42 => ?_) (fun c42 => ?_)
        · rw [if_pos c42] at h
          refine v_iconst C (pc := 36) (v := 0) dL_isLawful_36 (by decide) ?_
          refine v_mask (lv' := [some (va_rf a0), some (va_rf a1), some (va_rf a2), some (va_rf a3), some (va_rf a4), some (.int a5), none, some (.int a7), none, none, none]) [true, true, true, true, true, true, false, true, false, false, false] rfl rfl ?_
          exact tbL_isLawful_37 E hR ht (fun q0 q1 q2 h => ih q0 q1 q2 h) h
        · rw [if_neg c42] at h
          refine v_iconst C (pc := 32) (v := 1) dL_isLawful_32 (by decide) ?_
          refine v_goto C (pc := 33) (tgt := 37) dL_isLawful_33 (by decide) ?_
          refine v_mask (lv' := [some (va_rf a0), some (va_rf a1), some (va_rf a2), some (va_rf a3), some (va_rf a4), some (.int a5), none, some (.int a7), none, none, none]) [true, true, true, true, true, true, false, true, false, false, false] rfl rfl ?_
          exact tbL_isLawful_37 E hR ht (fun q0 q1 q2 h => ih q0 q1 q2 h) h
def wL_isLawful (M : hM) (a0 : Option Nat) (a1 : Option Nat) (a2 : Option Nat) (a3 : Option Nat) (a4 : Option Nat) (a5 : Int32) (Q : hM → Int32 → Prop) : Prop :=
  lL_isLawful_6 Q a0 a1 a2 a3 a4 a5 1000 M 1 0
set_option maxRecDepth 100000 in
set_option maxHeartbeats 4000000 in
theorem cL_isLawful_met (l : Launch) (hfl : l.stackTraces = false) (G : hG) (M : hM) {a0 : Option Nat} {a1 : Option Nat} {a2 : Option Nat} {a3 : Option Nat} {a4 : Option Nat} {a5 : Int32} {Q : hM → Int32 → Prop} (h : wL_isLawful M a0 a1 a2 a3 a4 a5 Q) : hEMet l yL_isLawful vsL_isLawful rmL_isLawful [va_rf a0, va_rf a1, va_rf a2, va_rf a3, va_rf a4, .int a5] G M (hQi Q) (fun _ _ => False) 0 0 := by
  refine he_entry (own := RL) (cc := cL_isLawful) (maxL := 11) (ret := (some .boolean)) (lv := [some (va_rf a0), some (va_rf a1), some (va_rf a2), some (va_rf a3), some (va_rf a4), some (.int a5), none, none, none, none, none]) hfl (by decide) rfl rfl (hcc (rf_cat _) (hcc (rf_cat _) (hcc (rf_cat _) (hcc (rf_cat _) (hcc (rf_cat _) (hcc rfl hc0)))))) (Nat.le_of_ble_eq_true rfl) rfl (fun κ sz hG hl hR E ht hn => ?_)
  subst hG; subst hl
  unfold wL_isLawful at h
  have F := E.1
  have C := F.1
  refine v_iconst C (pc := 0) (v := 1) dL_isLawful_0 (by decide) ?_
  refine v_istore C (pc := 1) (i := 6) (lv' := [some (va_rf a0), some (va_rf a1), some (va_rf a2), some (va_rf a3), some (va_rf a4), some (.int a5), some (.int 1), none, none, none, none]) dL_isLawful_1 rfl (lw_bi (j := 5) rfl) rfl ?_
  refine v_iconst C (pc := 3) (v := 0) dL_isLawful_3 (by decide) ?_
  refine v_istore C (pc := 4) (i := 7) (lv' := [some (va_rf a0), some (va_rf a1), some (va_rf a2), some (va_rf a3), some (va_rf a4), some (.int a5), some (.int 1), some (.int 0), none, none, none]) dL_isLawful_4 rfl (lw_bi (j := 6) rfl) rfl ?_
  exact tlL_isLawful_6 E hR ht  1000 _ _ _ h
/-! L_tells -/
abbrev rmL_tells : Room := { frames := 8, cells := 20, slots := 211, locals := 144 }
def vsL_tells : List Cond := wsL_tells ++ hL3
def bL_tells_257 (Q : hM → Int32 → Prop) (M : hM) (a5 : Int32) (s0 : Option Nat) (s1 : Int32) (s2 : Int32) (s3 : Int32) : Prop :=
  ∃ M13, sI M 0 s0 s1 (s2 + s3) = some M13 ∧
  Q M13 a5
set_option maxRecDepth 100000 in
set_option maxHeartbeats 4000000 in
theorem tbL_tells_257 {κ : hKx} {M0 : hM} {sz : Nat} {Q : hM → Int32 → Prop} (E : Ce κ RL cL_tells vsL_tells (some .int) M0 sz (hQi Q) (fun _ _ => False) 20 211) (hR : kR κ = rmL_tells) (ht : ∀ x ∈ (kc κ).exceptionTable.toList, False)  {M : hM} {a5 : Int32} {s0 : Option Nat} {s1 : Int32} {s2 : Int32} {s3 : Int32}  (h : bL_tells_257 Q M a5 s0 s1 s2 s3) : VW κ 1 10 M 257 [none, none, none, none, none, some (.int a5), none, none] [.int s3, .int s2, .int s1, va_rf s0] := by
  unfold bL_tells_257 at h
  have F := E.1
  have C := F.1
  refine v_iadd C (pc := 257) dL_tells_257 ?_
  obtain ⟨M13, e13, h⟩ := h
  refine v_iast F (pc := 258) e13 dL_tells_258 ?_
  refine v_iload C (pc := 259) (i := 5) dL_tells_259 rfl ?_
  exact v_eret (pc := 261) E rfl (nar_int _) ⟨_, rfl, h⟩ (by decide) (by decide) dL_tells_261
def bL_tells_235 (Q : hM → Int32 → Prop) (M : hM) (a1 : Option Nat) (s0 : Option Nat) (s1 : Int32) (s2 : Int32) (s3 : Int32) (s4 : Int32) (s5 : Int32) (s6 : Int32) : Prop :=
  wL_item M s0 s1 s2 s3 s4 s5 s6 (fun M9 x8 =>
  ∃ x10, aI M9 0 a1 2 = some x10 ∧
  ∃ x11, fL_isRefused x8 = some x11 ∧
  if (x11 : Int32) = 0 then (
    bL_tells_257 Q M9 x8 a1 2 x10 1
  ) else (
    bL_tells_257 Q M9 x8 a1 2 x10 0
  ))
set_option maxRecDepth 100000 in
set_option maxHeartbeats 4000000 in
theorem tbL_tells_235 {κ : hKx} {M0 : hM} {sz : Nat} {Q : hM → Int32 → Prop} (E : Ce κ RL cL_tells vsL_tells (some .int) M0 sz (hQi Q) (fun _ _ => False) 20 211) (hR : kR κ = rmL_tells) (ht : ∀ x ∈ (kc κ).exceptionTable.toList, False)  {M : hM} {a1 : Option Nat} {s0 : Option Nat} {s1 : Int32} {s2 : Int32} {s3 : Int32} {s4 : Int32} {s5 : Int32} {s6 : Int32}  (h : bL_tells_235 Q M a1 s0 s1 s2 s3 s4 s5 s6) : VW κ 0 0 M 235 [none, some (va_rf a1), none, none, none, none, none, none] [.int s6, .int s5, .int s4, .int s3, .int s2, .int s1, va_rf s0] := by
  unfold bL_tells_235 at h
  have F := E.1
  have C := F.1
  refine v_nS F (pc := 235) [va_rf s0, .int s1, .int s2, .int s3, .int s4, .int s5, .int s6] 7 (cL_item_met (kl κ) F.2.2.2.1 (kG κ) _ h) (good_l3 gL_tells_L_item) rfl hdsL_item rfl rfl rfl (by rw [hR]; exact ⟨Nat.le_of_ble_eq_true rfl, Nat.le_of_ble_eq_true rfl⟩) (by rw [hR]; decide) (Nat.le_of_ble_eq_true rfl) rfl dL_tells_235 (hk_i fun M9 x8 h => ?_)
  refine v_istore C (pc := 238) (i := 5) (lv' := [none, some (va_rf a1), none, none, none, some (.int x8), none, none]) dL_tells_238 rfl (lw_bn (j := 4) rfl) rfl ?_
  refine v_aload_n C (pc := 240) (i := 1) dL_tells_240 rfl ?_
  refine v_iconst C (pc := 241) (v := 2) dL_tells_241 (by decide) ?_
  refine v_dup2 C (pc := 242) dL_tells_242 (rfl) (rf_cat _) ?_
  obtain ⟨x10, e10, h⟩ := h
  refine v_iald C (pc := 243) e10 dL_tells_243 ?_
  refine v_iload C (pc := 244) (i := 5) dL_tells_244 rfl ?_
  obtain ⟨x11, e11, h⟩ := h
  refine v_pS C (pc := 246) [.int x8] 1 (cL_isRefused_met (kl κ) (kG κ) _ e11) (good_l3 gL_tells_L_isRefused) rfl hdsL_isRefused rfl rfl rfl (by rw [hR]; exact ⟨Nat.le_of_ble_eq_true rfl, Nat.le_of_ble_eq_true rfl⟩) (by rw [hR]; decide) (Nat.le_of_ble_eq_true rfl) rfl dL_tells_246 ?_
  refine v_if_eq C (pc := 249) (tgt := 256) dL_tells_249 (by decide) (fun c12 => ?_) (fun c12 => ?_)
  · rw [if_pos c12] at h
    refine v_iconst C (pc := 256) (v := 1) dL_tells_256 (by decide) ?_
    refine v_mask (lv' := [none, none, none, none, none, some (.int x8), none, none]) [false, false, false, false, false, true, false, false] rfl rfl ?_
    exact tbL_tells_257 E hR ht  h
  · rw [if_neg c12] at h
    refine v_iconst C (pc := 252) (v := 0) dL_tells_252 (by decide) ?_
    refine v_goto C (pc := 253) (tgt := 257) dL_tells_253 (by decide) ?_
    refine v_mask (lv' := [none, none, none, none, none, some (.int x8), none, none]) [false, false, false, false, false, true, false, false] rfl rfl ?_
    exact tbL_tells_257 E hR ht  h
def bL_tells_188 (Q : hM → Int32 → Prop) (M : hM) (a0 : Option Nat) (a1 : Option Nat) (a3 : Int32) (a6 : Int32) (s0 : Int32) : Prop :=
  if (((a3 / 63000) - (a3 / 63000) / 2 * 2) : Int32) = 0 then (
    bL_tells_235 Q M a1 a0 a6 ((a3 / 7) - (a3 / 7) / 5 * 5) (((a3 / 600) - (a3 / 600) / 15 * 15) - 4) s0 (((a3 / 9000) - (a3 / 9000) / 7 * 7) / 3) 1
  ) else (
    bL_tells_235 Q M a1 a0 a6 ((a3 / 7) - (a3 / 7) / 5 * 5) (((a3 / 600) - (a3 / 600) / 15 * 15) - 4) s0 (((a3 / 9000) - (a3 / 9000) / 7 * 7) / 3) 0
  )
set_option maxRecDepth 100000 in
set_option maxHeartbeats 4000000 in
theorem tbL_tells_188 {κ : hKx} {M0 : hM} {sz : Nat} {Q : hM → Int32 → Prop} (E : Ce κ RL cL_tells vsL_tells (some .int) M0 sz (hQi Q) (fun _ _ => False) 20 211) (hR : kR κ = rmL_tells) (ht : ∀ x ∈ (kc κ).exceptionTable.toList, False)  {M : hM} {a0 : Option Nat} {a1 : Option Nat} {a3 : Int32} {a6 : Int32} {s0 : Int32}  (h : bL_tells_188 Q M a0 a1 a3 a6 s0) : VW κ 0 0 M 188 [some (va_rf a0), some (va_rf a1), none, some (.int a3), none, none, some (.int a6), none] [.int s0] := by
  unfold bL_tells_188 at h
  have F := E.1
  have C := F.1
  refine v_istore C (pc := 188) (i := 7) (lv' := [some (va_rf a0), some (va_rf a1), none, some (.int a3), none, none, some (.int a6), some (.int s0)]) dL_tells_188 rfl (lw_bi (j := 6) rfl) rfl ?_
  refine v_aload_n C (pc := 190) (i := 0) dL_tells_190 rfl ?_
  refine v_iload C (pc := 191) (i := 6) dL_tells_191 rfl ?_
  refine v_iload_n C (pc := 193) (i := 3) dL_tells_193 rfl ?_
  refine v_bipush C (pc := 194) (v := 7) dL_tells_194 (by decide) ?_
  refine v_idiv C (pc := 196) dL_tells_196 (by decide) ?_
  refine v_iconst C (pc := 197) (v := 5) dL_tells_197 (by decide) ?_
  refine v_irem C (pc := 198) dL_tells_198 (by decide) ?_
  refine v_iload_n C (pc := 199) (i := 3) dL_tells_199 rfl ?_
  refine v_sipush C (pc := 200) (v := 600) dL_tells_200 (by decide) ?_
  refine v_idiv C (pc := 203) dL_tells_203 (by decide) ?_
  refine v_bipush C (pc := 204) (v := 15) dL_tells_204 (by decide) ?_
  refine v_irem C (pc := 206) dL_tells_206 (by decide) ?_
  refine v_iconst C (pc := 207) (v := 4) dL_tells_207 (by decide) ?_
  refine v_isub C (pc := 208) dL_tells_208 ?_
  refine v_iload C (pc := 209) (i := 7) dL_tells_209 rfl ?_
  refine v_iload_n C (pc := 211) (i := 3) dL_tells_211 rfl ?_
  refine v_sipush C (pc := 212) (v := 9000) dL_tells_212 (by decide) ?_
  refine v_idiv C (pc := 215) dL_tells_215 (by decide) ?_
  refine v_bipush C (pc := 216) (v := 7) dL_tells_216 (by decide) ?_
  refine v_irem C (pc := 218) dL_tells_218 (by decide) ?_
  refine v_iconst C (pc := 219) (v := 3) dL_tells_219 (by decide) ?_
  refine v_idiv C (pc := 220) dL_tells_220 (by decide) ?_
  refine v_iload_n C (pc := 221) (i := 3) dL_tells_221 rfl ?_
  refine v_ldc C (pc := 222) (v := 63000) (List.mem_append_left _ (List.mem_cons_of_mem _ (List.mem_append_left _ (List.mem_append_left _ (List.mem_append_left _ (List.mem_append_left _ (List.mem_append_left _ (List.mem_append_left _ (List.mem_append_left _ (List.mem_append_left _ (List.mem_append_left _ (List.mem_of_getElem? (i := 0) rfl)))))))))))) dL_tells_222 ?_
  refine v_idiv C (pc := 224) dL_tells_224 (by decide) ?_
  refine v_iconst C (pc := 225) (v := 2) dL_tells_225 (by decide) ?_
  refine v_irem C (pc := 226) dL_tells_226 (by decide) ?_
  refine v_if_ne C (pc := 227) (tgt := 234) dL_tells_227 (by decide) (fun c7 => ?_) (fun c7 => ?_)
  · rw [if_neg c7] at h
    refine v_iconst C (pc := 234) (v := 0) dL_tells_234 (by decide) ?_
    refine v_mask (lv' := [none, some (va_rf a1), none, none, none, none, none, none]) [false, true, false, false, false, false, false, false] rfl rfl ?_
    exact tbL_tells_235 E hR ht  h
  · rw [if_pos c7] at h
    refine v_iconst C (pc := 230) (v := 1) dL_tells_230 (by decide) ?_
    refine v_goto C (pc := 231) (tgt := 235) dL_tells_231 (by decide) ?_
    refine v_mask (lv' := [none, some (va_rf a1), none, none, none, none, none, none]) [false, true, false, false, false, false, false, false] rfl rfl ?_
    exact tbL_tells_235 E hR ht  h
def bL_tells_83 (Q : hM → Int32 → Prop) (M : hM) (a5 : Int32) (s0 : Option Nat) (s1 : Int32) (s2 : Int32) (s3 : Int32) : Prop :=
  ∃ M31, sI M 0 s0 s1 (s2 + s3) = some M31 ∧
  Q M31 a5
set_option maxRecDepth 100000 in
set_option maxHeartbeats 4000000 in
theorem tbL_tells_83 {κ : hKx} {M0 : hM} {sz : Nat} {Q : hM → Int32 → Prop} (E : Ce κ RL cL_tells vsL_tells (some .int) M0 sz (hQi Q) (fun _ _ => False) 20 211) (hR : kR κ = rmL_tells) (ht : ∀ x ∈ (kc κ).exceptionTable.toList, False)  {M : hM} {a5 : Int32} {s0 : Option Nat} {s1 : Int32} {s2 : Int32} {s3 : Int32}  (h : bL_tells_83 Q M a5 s0 s1 s2 s3) : VW κ 1 6 M 83 [none, none, none, none, none, some (.int a5), none, none] [.int s3, .int s2, .int s1, va_rf s0] := by
  unfold bL_tells_83 at h
  have F := E.1
  have C := F.1
  refine v_iadd C (pc := 83) dL_tells_83 ?_
  obtain ⟨M31, e31, h⟩ := h
  refine v_iast F (pc := 84) e31 dL_tells_84 ?_
  refine v_iload C (pc := 85) (i := 5) dL_tells_85 rfl ?_
  exact v_eret (pc := 87) E rfl (nar_int _) ⟨_, rfl, h⟩ (by decide) (by decide) dL_tells_87
def bL_tells_61 (Q : hM → Int32 → Prop) (M : hM) (a1 : Option Nat) (s0 : Option Nat) (s1 : Int32) (s2 : Int32) (s3 : Int32) : Prop :=
  wL_offence M s0 s1 s2 s3 (fun M27 x26 =>
  ∃ x28, aI M27 0 a1 0 = some x28 ∧
  ∃ x29, fL_isRefused x26 = some x29 ∧
  if (x29 : Int32) = 0 then (
    bL_tells_83 Q M27 x26 a1 0 x28 1
  ) else (
    bL_tells_83 Q M27 x26 a1 0 x28 0
  ))
set_option maxRecDepth 100000 in
set_option maxHeartbeats 4000000 in
theorem tbL_tells_61 {κ : hKx} {M0 : hM} {sz : Nat} {Q : hM → Int32 → Prop} (E : Ce κ RL cL_tells vsL_tells (some .int) M0 sz (hQi Q) (fun _ _ => False) 20 211) (hR : kR κ = rmL_tells) (ht : ∀ x ∈ (kc κ).exceptionTable.toList, False)  {M : hM} {a1 : Option Nat} {s0 : Option Nat} {s1 : Int32} {s2 : Int32} {s3 : Int32}  (h : bL_tells_61 Q M a1 s0 s1 s2 s3) : VW κ 0 0 M 61 [none, some (va_rf a1), none, none, none, none, none, none] [.int s3, .int s2, .int s1, va_rf s0] := by
  unfold bL_tells_61 at h
  have F := E.1
  have C := F.1
  refine v_nS F (pc := 61) [va_rf s0, .int s1, .int s2, .int s3] 4 (cL_offence_met (kl κ) F.2.2.2.1 (kG κ) _ h) (good_l3 gL_tells_L_offence) rfl hdsL_offence rfl rfl rfl (by rw [hR]; exact ⟨Nat.le_of_ble_eq_true rfl, Nat.le_of_ble_eq_true rfl⟩) (by rw [hR]; decide) (Nat.le_of_ble_eq_true rfl) rfl dL_tells_61 (hk_i fun M27 x26 h => ?_)
  refine v_istore C (pc := 64) (i := 5) (lv' := [none, some (va_rf a1), none, none, none, some (.int x26), none, none]) dL_tells_64 rfl (lw_bn (j := 4) rfl) rfl ?_
  refine v_aload_n C (pc := 66) (i := 1) dL_tells_66 rfl ?_
  refine v_iconst C (pc := 67) (v := 0) dL_tells_67 (by decide) ?_
  refine v_dup2 C (pc := 68) dL_tells_68 (rfl) (rf_cat _) ?_
  obtain ⟨x28, e28, h⟩ := h
  refine v_iald C (pc := 69) e28 dL_tells_69 ?_
  refine v_iload C (pc := 70) (i := 5) dL_tells_70 rfl ?_
  obtain ⟨x29, e29, h⟩ := h
  refine v_pS C (pc := 72) [.int x26] 1 (cL_isRefused_met (kl κ) (kG κ) _ e29) (good_l3 gL_tells_L_isRefused) rfl hdsL_isRefused rfl rfl rfl (by rw [hR]; exact ⟨Nat.le_of_ble_eq_true rfl, Nat.le_of_ble_eq_true rfl⟩) (by rw [hR]; decide) (Nat.le_of_ble_eq_true rfl) rfl dL_tells_72 ?_
  refine v_if_eq C (pc := 75) (tgt := 82) dL_tells_75 (by decide) (fun c30 => ?_) (fun c30 => ?_)
  · rw [if_pos c30] at h
    refine v_iconst C (pc := 82) (v := 1) dL_tells_82 (by decide) ?_
    refine v_mask (lv' := [none, none, none, none, none, some (.int x26), none, none]) [false, false, false, false, false, true, false, false] rfl rfl ?_
    exact tbL_tells_83 E hR ht  h
  · rw [if_neg c30] at h
    refine v_iconst C (pc := 78) (v := 0) dL_tells_78 (by decide) ?_
    refine v_goto C (pc := 79) (tgt := 83) dL_tells_79 (by decide) ?_
    refine v_mask (lv' := [none, none, none, none, none, some (.int x26), none, none]) [false, false, false, false, false, true, false, false] rfl rfl ?_
    exact tbL_tells_83 E hR ht  h
def bL_tells_30 (Q : hM → Int32 → Prop) (M : hM) (a1 : Option Nat) (a3 : Int32) (s0 : Option Nat) (s1 : Int32) : Prop :=
  if (((a3 / 600) - (a3 / 600) / 4 * 4) : Int32) = 0 then (
    bL_tells_61 Q M a1 s0 s1 ((a3 / 50) - (a3 / 50) / 11 * 11) ((a3 / 2400) - (a3 / 2400) / 40 * 40)
  ) else (
    bL_tells_61 Q M a1 s0 s1 ((a3 / 50) - (a3 / 50) / 11 * 11) 700
  )
set_option maxRecDepth 100000 in
set_option maxHeartbeats 4000000 in
theorem tbL_tells_30 {κ : hKx} {M0 : hM} {sz : Nat} {Q : hM → Int32 → Prop} (E : Ce κ RL cL_tells vsL_tells (some .int) M0 sz (hQi Q) (fun _ _ => False) 20 211) (hR : kR κ = rmL_tells) (ht : ∀ x ∈ (kc κ).exceptionTable.toList, False)  {M : hM} {a1 : Option Nat} {a3 : Int32} {s0 : Option Nat} {s1 : Int32}  (h : bL_tells_30 Q M a1 a3 s0 s1) : VW κ 0 0 M 30 [none, some (va_rf a1), none, some (.int a3), none, none, none, none] [.int s1, va_rf s0] := by
  unfold bL_tells_30 at h
  have F := E.1
  have C := F.1
  refine v_iload_n C (pc := 30) (i := 3) dL_tells_30 rfl ?_
  refine v_bipush C (pc := 31) (v := 50) dL_tells_31 (by decide) ?_
  refine v_idiv C (pc := 33) dL_tells_33 (by decide) ?_
  refine v_bipush C (pc := 34) (v := 11) dL_tells_34 (by decide) ?_
  refine v_irem C (pc := 36) dL_tells_36 (by decide) ?_
  refine v_iload_n C (pc := 37) (i := 3) dL_tells_37 rfl ?_
  refine v_sipush C (pc := 38) (v := 600) dL_tells_38 (by decide) ?_
  refine v_idiv C (pc := 41) dL_tells_41 (by decide) ?_
  refine v_iconst C (pc := 42) (v := 4) dL_tells_42 (by decide) ?_
  refine v_irem C (pc := 43) dL_tells_43 (by decide) ?_
  refine v_if_ne C (pc := 44) (tgt := 58) dL_tells_44 (by decide) (fun c25 => ?_) (fun c25 => ?_)
  · rw [if_neg c25] at h
    refine v_sipush C (pc := 58) (v := 700) dL_tells_58 (by decide) ?_
    refine v_mask (lv' := [none, some (va_rf a1), none, none, none, none, none, none]) [false, true, false, false, false, false, false, false] rfl rfl ?_
    exact tbL_tells_61 E hR ht  h
  · rw [if_pos c25] at h
    refine v_iload_n C (pc := 47) (i := 3) dL_tells_47 rfl ?_
    refine v_sipush C (pc := 48) (v := 2400) dL_tells_48 (by decide) ?_
    refine v_idiv C (pc := 51) dL_tells_51 (by decide) ?_
    refine v_bipush C (pc := 52) (v := 40) dL_tells_52 (by decide) ?_
    refine v_irem C (pc := 54) dL_tells_54 (by decide) ?_
    refine v_goto C (pc := 55) (tgt := 61) dL_tells_55 (by decide) ?_
    refine v_mask (lv' := [none, some (va_rf a1), none, none, none, none, none, none]) [false, true, false, false, false, false, false, false] rfl rfl ?_
    exact tbL_tells_61 E hR ht  h
def wL_tells (M : hM) (a0 : Option Nat) (a1 : Option Nat) (a2 : Option Nat) (a3 : Int32) (a4 : Int32) (Q : hM → Int32 → Prop) : Prop :=
  if (a4 : Int32) = 0 then (
    if ((a3 - a3 / 3 * 3) : Int32) = 0 then (
      bL_tells_30 Q M a1 a3 a0 ((a3 / 3) - (a3 / 3) / 1025 * 1025)
    ) else (
      bL_tells_30 Q M a1 a3 a0 (1 + ((a3 / 3) - (a3 / 3) / 15 * 15))
    )
  ) else (
    if (a4 : Int32) = 1 then (
      ∃ y15, hC M 4 a0 = some y15 ∧
      ∃ x14, fX4_day M y15 = some x14 ∧
      ∃ x16, rmI a3 (x14 + 2) = some x16 ∧
      wL_file M (some y15) (a3 - a3 / (x14 + 2) * (x14 + 2)) ((a3 / 100) - (a3 / 100) / 17 * 17) (((a3 / 1700) - (a3 / 1700) / 13 * 13) - 5) (fun M18 x17 =>
      ∃ x19, fL_isRefused x17 = some x19 ∧
      if (x19 : Int32) = 0 then (
        ∃ M21, sI M18 0 a2 x17 ((a3 / 100) - (a3 / 100) / 17 * 17) = some M21 ∧
        ∃ x22, aI M21 0 a1 1 = some x22 ∧
        ∃ M23, sI M21 0 a1 1 (x22 + 1) = some M23 ∧
        Q M23 x17
      ) else (
        Q M18 x17
      ))
    ) else (
      ∃ x3, aI M 0 a1 1 = some x3 ∧
      ∃ x4, rmI a3 (x3 + 1) = some x4 ∧
      if (((a3 / 30) - (a3 / 30) / 4 * 4) : Int32) = 0 then (
        bL_tells_188 Q M a0 a1 a3 (a3 - a3 / (x3 + 1) * (x3 + 1)) ((a3 / 120) - (a3 / 120) / 17 * 17)
      ) else (
        ∃ x6, aI M 0 a2 ((a3 - a3 / (x3 + 1) * (x3 + 1)) - (a3 - a3 / (x3 + 1) * (x3 + 1)) / 6 * 6) = some x6 ∧
        bL_tells_188 Q M a0 a1 a3 (a3 - a3 / (x3 + 1) * (x3 + 1)) x6
      )
    )
  )
set_option maxRecDepth 100000 in
set_option maxHeartbeats 4000000 in
theorem cL_tells_met (l : Launch) (hfl : l.stackTraces = false) (G : hG) (M : hM) {a0 : Option Nat} {a1 : Option Nat} {a2 : Option Nat} {a3 : Int32} {a4 : Int32} {Q : hM → Int32 → Prop} (h : wL_tells M a0 a1 a2 a3 a4 Q) : hEMet l yL_tells vsL_tells rmL_tells [va_rf a0, va_rf a1, va_rf a2, .int a3, .int a4] G M (hQi Q) (fun _ _ => False) 20 211 := by
  refine he_entry (own := RL) (cc := cL_tells) (maxL := 8) (ret := (some .int)) (lv := [some (va_rf a0), some (va_rf a1), some (va_rf a2), some (.int a3), some (.int a4), none, none, none]) hfl (by decide) rfl rfl (hcc (rf_cat _) (hcc (rf_cat _) (hcc (rf_cat _) (hcc rfl (hcc rfl hc0))))) (Nat.le_of_ble_eq_true rfl) rfl (fun κ sz hG hl hR E ht hn => ?_)
  subst hG; subst hl
  unfold wL_tells at h
  have F := E.1
  have C := F.1
  refine v_iload C (pc := 0) (i := 4) dL_tells_0 rfl ?_
  refine v_if_ne C (pc := 2) (tgt := 88) dL_tells_2 (by decide) (fun c1 => ?_) (fun c1 => ?_)
  · rw [if_neg c1] at h
    refine v_iload C (pc := 88) (i := 4) dL_tells_88 rfl ?_
    refine v_iconst C (pc := 90) (v := 1) dL_tells_90 (by decide) ?_
    refine v_icmp_ne C (pc := 91) (tgt := 153) dL_tells_91 (by decide) (fun c2 => ?_) (fun c2 => ?_)
    · rw [if_neg c2] at h
      refine v_iload_n C (pc := 153) (i := 3) dL_tells_153 rfl ?_
      refine v_aload_n C (pc := 154) (i := 1) dL_tells_154 rfl ?_
      refine v_iconst C (pc := 155) (v := 1) dL_tells_155 (by decide) ?_
      obtain ⟨x3, e3, h⟩ := h
      refine v_iald C (pc := 156) e3 dL_tells_156 ?_
      refine v_iconst C (pc := 157) (v := 1) dL_tells_157 (by decide) ?_
      refine v_iadd C (pc := 158) dL_tells_158 ?_
      obtain ⟨x4, e4, h⟩ := h
      obtain ⟨hde4, rfl⟩ := rmI_inv e4
      refine v_irem C (pc := 159) dL_tells_159 hde4 ?_
      refine v_istore C (pc := 160) (i := 6) (lv' := [some (va_rf a0), some (va_rf a1), some (va_rf a2), some (.int a3), some (.int a4), none, some (.int (a3 - a3 / (x3 + 1) * (x3 + 1))), none]) dL_tells_160 rfl (lw_bn (j := 5) rfl) rfl ?_
      refine v_iload_n C (pc := 162) (i := 3) dL_tells_162 rfl ?_
      refine v_bipush C (pc := 163) (v := 30) dL_tells_163 (by decide) ?_
      refine v_idiv C (pc := 165) dL_tells_165 (by decide) ?_
      refine v_iconst C (pc := 166) (v := 4) dL_tells_166 (by decide) ?_
      refine v_irem C (pc := 167) dL_tells_167 (by decide) ?_
      refine v_if_ne C (pc := 168) (tgt := 181) dL_tells_168 (by decide) (fun c5 => ?_) (fun c5 => ?_)
      · rw [if_neg c5] at h
        refine v_aload_n C (pc := 181) (i := 2) dL_tells_181 rfl ?_
        refine v_iload C (pc := 182) (i := 6) dL_tells_182 rfl ?_
        refine v_bipush C (pc := 184) (v := 6) dL_tells_184 (by decide) ?_
        refine v_irem C (pc := 186) dL_tells_186 (by decide) ?_
        obtain ⟨x6, e6, h⟩ := h
        refine v_iald C (pc := 187) e6 dL_tells_187 ?_
        refine v_mask (lv' := [some (va_rf a0), some (va_rf a1), none, some (.int a3), none, none, some (.int (a3 - a3 / (x3 + 1) * (x3 + 1))), none]) [true, true, false, true, false, false, true, false] rfl rfl ?_
        exact tbL_tells_188 E hR ht  h
      · rw [if_pos c5] at h
        refine v_iload_n C (pc := 171) (i := 3) dL_tells_171 rfl ?_
        refine v_bipush C (pc := 172) (v := 120) dL_tells_172 (by decide) ?_
        refine v_idiv C (pc := 174) dL_tells_174 (by decide) ?_
        refine v_bipush C (pc := 175) (v := 17) dL_tells_175 (by decide) ?_
        refine v_irem C (pc := 177) dL_tells_177 (by decide) ?_
        refine v_goto C (pc := 178) (tgt := 188) dL_tells_178 (by decide) ?_
        refine v_mask (lv' := [some (va_rf a0), some (va_rf a1), none, some (.int a3), none, none, some (.int (a3 - a3 / (x3 + 1) * (x3 + 1))), none]) [true, true, false, true, false, false, true, false] rfl rfl ?_
        exact tbL_tells_188 E hR ht  h
    · rw [if_pos c2] at h
      refine v_iload_n C (pc := 94) (i := 3) dL_tells_94 rfl ?_
      refine v_bipush C (pc := 95) (v := 100) dL_tells_95 (by decide) ?_
      refine v_idiv C (pc := 97) dL_tells_97 (by decide) ?_
      refine v_bipush C (pc := 98) (v := 17) dL_tells_98 (by decide) ?_
      refine v_irem C (pc := 100) dL_tells_100 (by decide) ?_
      refine v_istore C (pc := 101) (i := 6) (lv' := [some (va_rf a0), some (va_rf a1), some (va_rf a2), some (.int a3), some (.int a4), none, some (.int ((a3 / 100) - (a3 / 100) / 17 * 17)), none]) dL_tells_101 rfl (lw_bn (j := 5) rfl) rfl ?_
      refine v_aload_n C (pc := 103) (i := 0) dL_tells_103 rfl ?_
      refine v_iload_n C (pc := 104) (i := 3) dL_tells_104 rfl ?_
      refine v_aload_n C (pc := 105) (i := 0) dL_tells_105 rfl ?_
      obtain ⟨y15, hy15, hh⟩ := h
      skip
      obtain ⟨rfl, fsy15, hfy15⟩ := hC_inv hy15
      have h := hh
      clear hh
      obtain ⟨x14, e14, h⟩ := h
      refine v_pV C (pc := 106) (ci := 4) [] 0 (cX4_day_met (kl κ) (kG κ) _ e14) hfy15 rfl (good_l gL_tells_X4_day) rfl hdX4_day rfl rfl rfl (by rw [hR]; exact ⟨Nat.le_of_ble_eq_true rfl, Nat.le_of_ble_eq_true rfl⟩) (by rw [hR]; decide) (Nat.le_of_ble_eq_true rfl) rfl dL_tells_106 ?_
      refine v_iconst C (pc := 109) (v := 2) dL_tells_109 (by decide) ?_
      refine v_iadd C (pc := 110) dL_tells_110 ?_
      obtain ⟨x16, e16, h⟩ := h
      obtain ⟨hde16, rfl⟩ := rmI_inv e16
      refine v_irem C (pc := 111) dL_tells_111 hde16 ?_
      refine v_iload C (pc := 112) (i := 6) dL_tells_112 rfl ?_
      refine v_iload_n C (pc := 114) (i := 3) dL_tells_114 rfl ?_
      refine v_sipush C (pc := 115) (v := 1700) dL_tells_115 (by decide) ?_
      refine v_idiv C (pc := 118) dL_tells_118 (by decide) ?_
      refine v_bipush C (pc := 119) (v := 13) dL_tells_119 (by decide) ?_
      refine v_irem C (pc := 121) dL_tells_121 (by decide) ?_
      refine v_iconst C (pc := 122) (v := 5) dL_tells_122 (by decide) ?_
      refine v_isub C (pc := 123) dL_tells_123 ?_
      refine v_nS F (pc := 124) [va_rf (some y15), .int (a3 - a3 / (x14 + 2) * (x14 + 2)), .int ((a3 / 100) - (a3 / 100) / 17 * 17), .int (((a3 / 1700) - (a3 / 1700) / 13 * 13) - 5)] 4 (cL_file_met (kl κ) F.2.2.2.1 (kG κ) _ h) (good_l3 gL_tells_L_file) rfl hdsL_file rfl rfl rfl (by rw [hR]; exact ⟨Nat.le_of_ble_eq_true rfl, Nat.le_of_ble_eq_true rfl⟩) (by rw [hR]; decide) (Nat.le_of_ble_eq_true rfl) rfl dL_tells_124 (hk_i fun M18 x17 h => ?_)
      refine v_istore C (pc := 127) (i := 5) (lv' := [some (va_rf (some y15)), some (va_rf a1), some (va_rf a2), some (.int a3), some (.int a4), some (.int x17), some (.int ((a3 / 100) - (a3 / 100) / 17 * 17)), none]) dL_tells_127 rfl (lw_bi (j := 4) rfl) rfl ?_
      refine v_iload C (pc := 129) (i := 5) dL_tells_129 rfl ?_
      obtain ⟨x19, e19, h⟩ := h
      refine v_pS C (pc := 131) [.int x17] 1 (cL_isRefused_met (kl κ) (kG κ) _ e19) (good_l3 gL_tells_L_isRefused) rfl hdsL_isRefused rfl rfl rfl (by rw [hR]; exact ⟨Nat.le_of_ble_eq_true rfl, Nat.le_of_ble_eq_true rfl⟩) (by rw [hR]; decide) (Nat.le_of_ble_eq_true rfl) rfl dL_tells_131 ?_
      refine v_if_ne C (pc := 134) (tgt := 150) dL_tells_134 (by decide) (fun c20 => ?_) (fun c20 => ?_)
      · rw [if_neg c20] at h
        refine v_iload C (pc := 150) (i := 5) dL_tells_150 rfl ?_
        exact v_eret (pc := 152) E rfl (nar_int _) ⟨_, rfl, h⟩ (by decide) (by decide) dL_tells_152
      · rw [if_pos c20] at h
        refine v_aload_n C (pc := 137) (i := 2) dL_tells_137 rfl ?_
        refine v_iload C (pc := 138) (i := 5) dL_tells_138 rfl ?_
        refine v_iload C (pc := 140) (i := 6) dL_tells_140 rfl ?_
        obtain ⟨M21, e21, h⟩ := h
        refine v_iast F (pc := 142) e21 dL_tells_142 ?_
        refine v_aload_n C (pc := 143) (i := 1) dL_tells_143 rfl ?_
        refine v_iconst C (pc := 144) (v := 1) dL_tells_144 (by decide) ?_
        refine v_dup2 C (pc := 145) dL_tells_145 (rfl) (rf_cat _) ?_
        obtain ⟨x22, e22, h⟩ := h
        refine v_iald C (pc := 146) e22 dL_tells_146 ?_
        refine v_iconst C (pc := 147) (v := 1) dL_tells_147 (by decide) ?_
        refine v_iadd C (pc := 148) dL_tells_148 ?_
        obtain ⟨M23, e23, h⟩ := h
        refine v_iast F (pc := 149) e23 dL_tells_149 ?_
        refine v_iload C (pc := 150) (i := 5) dL_tells_150 rfl ?_
        exact v_eret (pc := 152) E rfl (nar_int _) ⟨_, rfl, h⟩ (by decide) (by decide) dL_tells_152
  · rw [if_pos c1] at h
    refine v_aload_n C (pc := 5) (i := 0) dL_tells_5 rfl ?_
    refine v_iload_n C (pc := 6) (i := 3) dL_tells_6 rfl ?_
    refine v_iconst C (pc := 7) (v := 3) dL_tells_7 (by decide) ?_
    refine v_irem C (pc := 8) dL_tells_8 (by decide) ?_
    refine v_if_ne C (pc := 9) (tgt := 22) dL_tells_9 (by decide) (fun c24 => ?_) (fun c24 => ?_)
    · rw [if_neg c24] at h
      refine v_iconst C (pc := 22) (v := 1) dL_tells_22 (by decide) ?_
      refine v_iload_n C (pc := 23) (i := 3) dL_tells_23 rfl ?_
      refine v_iconst C (pc := 24) (v := 3) dL_tells_24 (by decide) ?_
      refine v_idiv C (pc := 25) dL_tells_25 (by decide) ?_
      refine v_bipush C (pc := 26) (v := 15) dL_tells_26 (by decide) ?_
      refine v_irem C (pc := 28) dL_tells_28 (by decide) ?_
      refine v_iadd C (pc := 29) dL_tells_29 ?_
      refine v_mask (lv' := [none, some (va_rf a1), none, some (.int a3), none, none, none, none]) [false, true, false, true, false, false, false, false] rfl rfl ?_
      exact tbL_tells_30 E hR ht  h
    · rw [if_pos c24] at h
      refine v_iload_n C (pc := 12) (i := 3) dL_tells_12 rfl ?_
      refine v_iconst C (pc := 13) (v := 3) dL_tells_13 (by decide) ?_
      refine v_idiv C (pc := 14) dL_tells_14 (by decide) ?_
      refine v_sipush C (pc := 15) (v := 1025) dL_tells_15 (by decide) ?_
      refine v_irem C (pc := 18) dL_tells_18 (by decide) ?_
      refine v_goto C (pc := 19) (tgt := 30) dL_tells_19 (by decide) ?_
      refine v_mask (lv' := [none, some (va_rf a1), none, some (.int a3), none, none, none, none]) [false, true, false, true, false, false, false, false] rfl rfl ?_
      exact tbL_tells_30 E hR ht  h
/-! L_decides -/
abbrev rmL_decides : Room := { frames := 9, cells := 15, slots := 90, locals := 192 }
def vsL_decides : List Cond := wsL_decides ++ hL3
def bL_decides_495 (Q : hM → Int32 → Prop) (M : hM) (a8 : Int32) (s0 : Int32) : Prop :=
  if (s0 : Int32) = 0 then (
    Q M (-9)
  ) else (
    Q M a8
  )
set_option maxRecDepth 100000 in
set_option maxHeartbeats 4000000 in
theorem tbL_decides_495 {κ : hKx} {M0 : hM} {sz : Nat} {Q : hM → Int32 → Prop} (E : Ce κ RL cL_decides vsL_decides (some .int) M0 sz (hQi Q) (fun _ _ => False) 15 90) (hR : kR κ = rmL_decides) (ht : ∀ x ∈ (kc κ).exceptionTable.toList, False)  {M : hM} {a8 : Int32} {s0 : Int32}  (h : bL_decides_495 Q M a8 s0) : VW κ 15 90 M 495 [none, none, none, none, none, none, none, none, some (.int a8), none, none] [.int s0] := by
  unfold bL_decides_495 at h
  have F := E.1
  have C := F.1
  refine v_istore C (pc := 495) (i := 9) (lv' := [none, none, none, none, none, none, none, none, some (.int a8), some (.int s0), none]) dL_decides_495 rfl (lw_bi (j := 8) rfl) rfl ?_
  refine v_iload C (pc := 497) (i := 9) dL_decides_497 rfl ?_
  refine v_if_eq C (pc := 499) (tgt := 507) dL_decides_499 (by decide) (fun c13 => ?_) (fun c13 => ?_)
  · rw [if_pos c13] at h
    refine v_bipush C (pc := 507) (v := (-9)) dL_decides_507 (by decide) ?_
    exact v_eret (pc := 509) E rfl (nar_int _) ⟨_, rfl, h⟩ (by decide) (by decide) dL_decides_509
  · rw [if_neg c13] at h
    refine v_iload C (pc := 502) (i := 8) dL_decides_502 rfl ?_
    refine v_goto C (pc := 504) (tgt := 509) dL_decides_504 (by decide) ?_
    exact v_eret (pc := 509) E rfl (nar_int _) ⟨_, rfl, h⟩ (by decide) (by decide) dL_decides_509
def bL_decides_490 (Q : hM → Int32 → Prop) (M : hM) (a8 : Int32) : Prop :=
  bL_decides_495 Q M a8 1
set_option maxRecDepth 100000 in
set_option maxHeartbeats 4000000 in
theorem tbL_decides_490 {κ : hKx} {M0 : hM} {sz : Nat} {Q : hM → Int32 → Prop} (E : Ce κ RL cL_decides vsL_decides (some .int) M0 sz (hQi Q) (fun _ _ => False) 15 90) (hR : kR κ = rmL_decides) (ht : ∀ x ∈ (kc κ).exceptionTable.toList, False)  {M : hM} {a8 : Int32}  (h : bL_decides_490 Q M a8) : VW κ 15 90 M 490 [none, none, none, none, none, none, none, none, some (.int a8), none, none] [] := by
  unfold bL_decides_490 at h
  have F := E.1
  have C := F.1
  refine v_iconst C (pc := 490) (v := 1) dL_decides_490 (by decide) ?_
  refine v_goto C (pc := 491) (tgt := 495) dL_decides_491 (by decide) ?_
  exact tbL_decides_495 E hR ht  h
def bL_decides_494 (Q : hM → Int32 → Prop) (M : hM) (a8 : Int32) : Prop :=
  bL_decides_495 Q M a8 0
set_option maxRecDepth 100000 in
set_option maxHeartbeats 4000000 in
theorem tbL_decides_494 {κ : hKx} {M0 : hM} {sz : Nat} {Q : hM → Int32 → Prop} (E : Ce κ RL cL_decides vsL_decides (some .int) M0 sz (hQi Q) (fun _ _ => False) 15 90) (hR : kR κ = rmL_decides) (ht : ∀ x ∈ (kc κ).exceptionTable.toList, False)  {M : hM} {a8 : Int32}  (h : bL_decides_494 Q M a8) : VW κ 15 90 M 494 [none, none, none, none, none, none, none, none, some (.int a8), none, none] [] := by
  unfold bL_decides_494 at h
  have F := E.1
  have C := F.1
  refine v_iconst C (pc := 494) (v := 0) dL_decides_494 (by decide) ?_
  exact tbL_decides_495 E hR ht  h
def bL_decides_395 (Q : hM → Int32 → Prop) (M : hM) (a0 : Option Nat) (a1 : Int32) (a2 : Int32) (a5 : Int32) (a6 : Int32) (a7 : Int32) (s0 : Option Nat) (s1 : Int32) (s2 : Int32) (s3 : Int32) : Prop :=
  wL_plea M s0 s1 s2 s3 (fun M10 x9 =>
  ∃ x11, fL_isRefused x9 = some x11 ∧
  if (x11 : Int32) = 0 then (
    wL_of M10 a0 a1 a2 0 (fun M15 x14 =>
    if (x14 : Int32) = 0 then (
      wL_of M15 a0 a1 a2 1 (fun M18 x17 =>
      if (x17 : Int32) = 0 then (
        wL_of M18 a0 a1 a2 2 (fun M21 x20 =>
        if (x20 : Int32) = 0 then (
          wL_of M21 a0 a1 a2 4 (fun M24 x23 =>
          if (x23 : Int32) = 0 then (
            if ((a6 &&& (a5 ^^^ (-1))) : Int32) = 0 then (
              ∃ x27, fL_countq M24 a0 0 = some x27 ∧
              ∃ x28, fL_bits a6 = some x28 ∧
              if (x27 : Int32) = (a7 + x28) then (
                wL_of M24 a0 a1 a2 7 (fun M31 x30 =>
                if ((a5 &&& (x30 ^^^ (-1))) : Int32) = 0 then (
                  bL_decides_490 Q M31 x9
                ) else (
                  bL_decides_494 Q M31 x9
                ))
              ) else (
                bL_decides_494 Q M24 x9
              )
            ) else (
              bL_decides_494 Q M24 x9
            )
          ) else (
            bL_decides_494 Q M24 x9
          ))
        ) else (
          bL_decides_494 Q M21 x9
        ))
      ) else (
        bL_decides_494 Q M18 x9
      ))
    ) else (
      bL_decides_494 Q M15 x9
    ))
  ) else (
    bL_decides_490 Q M10 x9
  ))
set_option maxRecDepth 100000 in
set_option maxHeartbeats 4000000 in
theorem tbL_decides_395 {κ : hKx} {M0 : hM} {sz : Nat} {Q : hM → Int32 → Prop} (E : Ce κ RL cL_decides vsL_decides (some .int) M0 sz (hQi Q) (fun _ _ => False) 15 90) (hR : kR κ = rmL_decides) (ht : ∀ x ∈ (kc κ).exceptionTable.toList, False)  {M : hM} {a0 : Option Nat} {a1 : Int32} {a2 : Int32} {a5 : Int32} {a6 : Int32} {a7 : Int32} {s0 : Option Nat} {s1 : Int32} {s2 : Int32} {s3 : Int32}  (h : bL_decides_395 Q M a0 a1 a2 a5 a6 a7 s0 s1 s2 s3) : VW κ 2 12 M 395 [some (va_rf a0), some (.int a1), some (.int a2), none, none, some (.int a5), some (.int a6), some (.int a7), none, none, none] [.int s3, .int s2, .int s1, va_rf s0] := by
  unfold bL_decides_395 at h
  have F := E.1
  have C := F.1
  refine v_nS F (pc := 395) [va_rf s0, .int s1, .int s2, .int s3] 4 (cL_plea_met (kl κ) F.2.2.2.1 (kG κ) _ h) (good_l3 gL_decides_L_plea) rfl hdsL_plea rfl rfl rfl (by rw [hR]; exact ⟨Nat.le_of_ble_eq_true rfl, Nat.le_of_ble_eq_true rfl⟩) (by rw [hR]; decide) (Nat.le_of_ble_eq_true rfl) rfl dL_decides_395 (hk_i fun M10 x9 h => ?_)
  refine v_istore C (pc := 398) (i := 8) (lv' := [some (va_rf a0), some (.int a1), some (.int a2), none, none, some (.int a5), some (.int a6), some (.int a7), some (.int x9), none, none]) dL_decides_398 rfl (lw_bi (j := 7) rfl) rfl ?_
  refine v_iload C (pc := 400) (i := 8) dL_decides_400 rfl ?_
  obtain ⟨x11, e11, h⟩ := h
  refine v_pS C (pc := 402) [.int x9] 1 (cL_isRefused_met (kl κ) (kG κ) _ e11) (good_l3 gL_decides_L_isRefused) rfl hdsL_isRefused rfl rfl rfl (by rw [hR]; exact ⟨Nat.le_of_ble_eq_true rfl, Nat.le_of_ble_eq_true rfl⟩) (by rw [hR]; decide) (Nat.le_of_ble_eq_true rfl) rfl dL_decides_402 ?_
  refine v_if_ne C (pc := 405) (tgt := 490) dL_decides_405 (by decide) (fun c12 => ?_) (fun c12 => ?_)
  · rw [if_neg c12] at h
    refine v_mask (lv' := [none, none, none, none, none, none, none, none, some (.int x9), none, none]) [false, false, false, false, false, false, false, false, true, false, false] rfl rfl ?_
    refine v_widen (k := 15) (n := 90) (by decide) (by decide) ?_
    exact tbL_decides_490 E hR ht  h
  · rw [if_pos c12] at h
    refine v_aload_n C (pc := 408) (i := 0) dL_decides_408 rfl ?_
    refine v_iload_n C (pc := 409) (i := 1) dL_decides_409 rfl ?_
    refine v_iload_n C (pc := 410) (i := 2) dL_decides_410 rfl ?_
    refine v_iconst C (pc := 411) (v := 0) dL_decides_411 (by decide) ?_
    refine v_nS F (pc := 412) [va_rf a0, .int a1, .int a2, .int 0] 4 (cL_of_met (kl κ) F.2.2.2.1 (kG κ) _ h) (good_l3 gL_decides_L_of) rfl hdsL_of rfl rfl rfl (by rw [hR]; exact ⟨Nat.le_of_ble_eq_true rfl, Nat.le_of_ble_eq_true rfl⟩) (by rw [hR]; decide) (Nat.le_of_ble_eq_true rfl) rfl dL_decides_412 (hk_i fun M15 x14 h => ?_)
    refine v_if_ne C (pc := 415) (tgt := 494) dL_decides_415 (by decide) (fun c16 => ?_) (fun c16 => ?_)
    · rw [if_neg c16] at h
      refine v_mask (lv' := [none, none, none, none, none, none, none, none, some (.int x9), none, none]) [false, false, false, false, false, false, false, false, true, false, false] rfl rfl ?_
      refine v_widen (k := 15) (n := 90) (by decide) (by decide) ?_
      exact tbL_decides_494 E hR ht  h
    · rw [if_pos c16] at h
      refine v_aload_n C (pc := 418) (i := 0) dL_decides_418 rfl ?_
      refine v_iload_n C (pc := 419) (i := 1) dL_decides_419 rfl ?_
      refine v_iload_n C (pc := 420) (i := 2) dL_decides_420 rfl ?_
      refine v_iconst C (pc := 421) (v := 1) dL_decides_421 (by decide) ?_
      refine v_nS F (pc := 422) [va_rf a0, .int a1, .int a2, .int 1] 4 (cL_of_met (kl κ) F.2.2.2.1 (kG κ) _ h) (good_l3 gL_decides_L_of) rfl hdsL_of rfl rfl rfl (by rw [hR]; exact ⟨Nat.le_of_ble_eq_true rfl, Nat.le_of_ble_eq_true rfl⟩) (by rw [hR]; decide) (Nat.le_of_ble_eq_true rfl) rfl dL_decides_422 (hk_i fun M18 x17 h => ?_)
      refine v_if_ne C (pc := 425) (tgt := 494) dL_decides_425 (by decide) (fun c19 => ?_) (fun c19 => ?_)
      · rw [if_neg c19] at h
        refine v_mask (lv' := [none, none, none, none, none, none, none, none, some (.int x9), none, none]) [false, false, false, false, false, false, false, false, true, false, false] rfl rfl ?_
        refine v_widen (k := 15) (n := 90) (by decide) (by decide) ?_
        exact tbL_decides_494 E hR ht  h
      · rw [if_pos c19] at h
        refine v_aload_n C (pc := 428) (i := 0) dL_decides_428 rfl ?_
        refine v_iload_n C (pc := 429) (i := 1) dL_decides_429 rfl ?_
        refine v_iload_n C (pc := 430) (i := 2) dL_decides_430 rfl ?_
        refine v_iconst C (pc := 431) (v := 2) dL_decides_431 (by decide) ?_
        refine v_nS F (pc := 432) [va_rf a0, .int a1, .int a2, .int 2] 4 (cL_of_met (kl κ) F.2.2.2.1 (kG κ) _ h) (good_l3 gL_decides_L_of) rfl hdsL_of rfl rfl rfl (by rw [hR]; exact ⟨Nat.le_of_ble_eq_true rfl, Nat.le_of_ble_eq_true rfl⟩) (by rw [hR]; decide) (Nat.le_of_ble_eq_true rfl) rfl dL_decides_432 (hk_i fun M21 x20 h => ?_)
        refine v_if_ne C (pc := 435) (tgt := 494) dL_decides_435 (by decide) (fun c22 => ?_) (fun c22 => ?_)
        · rw [if_neg c22] at h
          refine v_mask (lv' := [none, none, none, none, none, none, none, none, some (.int x9), none, none]) [false, false, false, false, false, false, false, false, true, false, false] rfl rfl ?_
          refine v_widen (k := 15) (n := 90) (by decide) (by decide) ?_
          exact tbL_decides_494 E hR ht  h
        · rw [if_pos c22] at h
          refine v_aload_n C (pc := 438) (i := 0) dL_decides_438 rfl ?_
          refine v_iload_n C (pc := 439) (i := 1) dL_decides_439 rfl ?_
          refine v_iload_n C (pc := 440) (i := 2) dL_decides_440 rfl ?_
          refine v_iconst C (pc := 441) (v := 4) dL_decides_441 (by decide) ?_
          refine v_nS F (pc := 442) [va_rf a0, .int a1, .int a2, .int 4] 4 (cL_of_met (kl κ) F.2.2.2.1 (kG κ) _ h) (good_l3 gL_decides_L_of) rfl hdsL_of rfl rfl rfl (by rw [hR]; exact ⟨Nat.le_of_ble_eq_true rfl, Nat.le_of_ble_eq_true rfl⟩) (by rw [hR]; decide) (Nat.le_of_ble_eq_true rfl) rfl dL_decides_442 (hk_i fun M24 x23 h => ?_)
          refine v_if_ne C (pc := 445) (tgt := 494) dL_decides_445 (by decide) (fun c25 => ?_) (fun c25 => ?_)
          · rw [if_neg c25] at h
            refine v_mask (lv' := [none, none, none, none, none, none, none, none, some (.int x9), none, none]) [false, false, false, false, false, false, false, false, true, false, false] rfl rfl ?_
            refine v_widen (k := 15) (n := 90) (by decide) (by decide) ?_
            exact tbL_decides_494 E hR ht  h
          · rw [if_pos c25] at h
            refine v_iload C (pc := 448) (i := 6) dL_decides_448 rfl ?_
            refine v_iload C (pc := 450) (i := 5) dL_decides_450 rfl ?_
            refine v_iconst C (pc := 452) (v := (-1)) dL_decides_452 (by decide) ?_
            refine v_ixor C (pc := 453) dL_decides_453 ?_
            refine v_iand C (pc := 454) dL_decides_454 ?_
            refine v_if_ne C (pc := 455) (tgt := 494) dL_decides_455 (by decide) (fun c26 => ?_) (fun c26 => ?_)
            · rw [if_neg c26] at h
              refine v_mask (lv' := [none, none, none, none, none, none, none, none, some (.int x9), none, none]) [false, false, false, false, false, false, false, false, true, false, false] rfl rfl ?_
              refine v_widen (k := 15) (n := 90) (by decide) (by decide) ?_
              exact tbL_decides_494 E hR ht  h
            · rw [if_pos c26] at h
              refine v_aload_n C (pc := 458) (i := 0) dL_decides_458 rfl ?_
              refine v_iconst C (pc := 459) (v := 0) dL_decides_459 (by decide) ?_
              obtain ⟨x27, e27, h⟩ := h
              refine v_pSH C (pc := 460) [va_rf a0, .int 0] 2 (cL_countq_met (kl κ) (kG κ) _ e27) (good_l3 gL_decides_L_count) rfl hdsL_count rfl rfl rfl (by rw [hR]; exact ⟨Nat.le_of_ble_eq_true rfl, Nat.le_of_ble_eq_true rfl⟩) (by rw [hR]; decide) (Nat.le_of_ble_eq_true rfl) rfl dL_decides_460 ?_
              refine v_iload C (pc := 463) (i := 7) dL_decides_463 rfl ?_
              refine v_iload C (pc := 465) (i := 6) dL_decides_465 rfl ?_
              obtain ⟨x28, e28, h⟩ := h
              refine v_pS C (pc := 467) [.int a6] 1 (cL_bits_met (kl κ) (kG κ) _ e28) (good_l3 gL_decides_L_bits) rfl hdsL_bits rfl rfl rfl (by rw [hR]; exact ⟨Nat.le_of_ble_eq_true rfl, Nat.le_of_ble_eq_true rfl⟩) (by rw [hR]; decide) (Nat.le_of_ble_eq_true rfl) rfl dL_decides_467 ?_
              refine v_iadd C (pc := 470) dL_decides_470 ?_
              refine v_icmp_ne C (pc := 471) (tgt := 494) dL_decides_471 (by decide) (fun c29 => ?_) (fun c29 => ?_)
              · rw [if_neg c29] at h
                refine v_mask (lv' := [none, none, none, none, none, none, none, none, some (.int x9), none, none]) [false, false, false, false, false, false, false, false, true, false, false] rfl rfl ?_
                refine v_widen (k := 15) (n := 90) (by decide) (by decide) ?_
                exact tbL_decides_494 E hR ht  h
              · rw [if_pos c29] at h
                refine v_iload C (pc := 474) (i := 5) dL_decides_474 rfl ?_
                refine v_aload_n C (pc := 476) (i := 0) dL_decides_476 rfl ?_
                refine v_iload_n C (pc := 477) (i := 1) dL_decides_477 rfl ?_
                refine v_iload_n C (pc := 478) (i := 2) dL_decides_478 rfl ?_
                refine v_bipush C (pc := 479) (v := 7) dL_decides_479 (by decide) ?_
                refine v_nS F (pc := 481) [va_rf a0, .int a1, .int a2, .int 7] 4 (cL_of_met (kl κ) F.2.2.2.1 (kG κ) _ h) (good_l3 gL_decides_L_of) rfl hdsL_of rfl rfl rfl (by rw [hR]; exact ⟨Nat.le_of_ble_eq_true rfl, Nat.le_of_ble_eq_true rfl⟩) (by rw [hR]; decide) (Nat.le_of_ble_eq_true rfl) rfl dL_decides_481 (hk_i fun M31 x30 h => ?_)
                refine v_iconst C (pc := 484) (v := (-1)) dL_decides_484 (by decide) ?_
                refine v_ixor C (pc := 485) dL_decides_485 ?_
                refine v_iand C (pc := 486) dL_decides_486 ?_
                refine v_if_ne C (pc := 487) (tgt := 494) dL_decides_487 (by decide) (fun c32 => ?_) (fun c32 => ?_)
                · rw [if_neg c32] at h
                  refine v_mask (lv' := [none, none, none, none, none, none, none, none, some (.int x9), none, none]) [false, false, false, false, false, false, false, false, true, false, false] rfl rfl ?_
                  exact tbL_decides_494 E hR ht  h
                · rw [if_pos c32] at h
                  refine v_mask (lv' := [none, none, none, none, none, none, none, none, some (.int x9), none, none]) [false, false, false, false, false, false, false, false, true, false, false] rfl rfl ?_
                  exact tbL_decides_490 E hR ht  h
def bL_decides_369 (Q : hM → Int32 → Prop) (M : hM) (a0 : Option Nat) (a1 : Int32) (a2 : Int32) (a5 : Int32) (s0 : Int32) : Prop :=
  ∃ x6, fL_countq M a0 0 = some x6 ∧
  ∃ x7, fL_isRefused a5 = some x7 ∧
  if (x7 : Int32) = 0 then (
    bL_decides_395 Q M a0 a1 a2 a5 s0 x6 a0 a1 a2 s0
  ) else (
    bL_decides_395 Q M a0 a1 a2 a5 s0 x6 a0 a1 a2 0
  )
set_option maxRecDepth 100000 in
set_option maxHeartbeats 4000000 in
theorem tbL_decides_369 {κ : hKx} {M0 : hM} {sz : Nat} {Q : hM → Int32 → Prop} (E : Ce κ RL cL_decides vsL_decides (some .int) M0 sz (hQi Q) (fun _ _ => False) 15 90) (hR : kR κ = rmL_decides) (ht : ∀ x ∈ (kc κ).exceptionTable.toList, False)  {M : hM} {a0 : Option Nat} {a1 : Int32} {a2 : Int32} {a5 : Int32} {s0 : Int32}  (h : bL_decides_369 Q M a0 a1 a2 a5 s0) : VW κ 2 12 M 369 [some (va_rf a0), some (.int a1), some (.int a2), none, none, some (.int a5), none, none, none, none, none] [.int s0] := by
  unfold bL_decides_369 at h
  have F := E.1
  have C := F.1
  refine v_istore C (pc := 369) (i := 6) (lv' := [some (va_rf a0), some (.int a1), some (.int a2), none, none, some (.int a5), some (.int s0), none, none, none, none]) dL_decides_369 rfl (lw_bi (j := 5) rfl) rfl ?_
  refine v_aload_n C (pc := 371) (i := 0) dL_decides_371 rfl ?_
  refine v_iconst C (pc := 372) (v := 0) dL_decides_372 (by decide) ?_
  obtain ⟨x6, e6, h⟩ := h
  refine v_pSH C (pc := 373) [va_rf a0, .int 0] 2 (cL_countq_met (kl κ) (kG κ) _ e6) (good_l3 gL_decides_L_count) rfl hdsL_count rfl rfl rfl (by rw [hR]; exact ⟨Nat.le_of_ble_eq_true rfl, Nat.le_of_ble_eq_true rfl⟩) (by rw [hR]; decide) (Nat.le_of_ble_eq_true rfl) rfl dL_decides_373 ?_
  refine v_istore C (pc := 376) (i := 7) (lv' := [some (va_rf a0), some (.int a1), some (.int a2), none, none, some (.int a5), some (.int s0), some (.int x6), none, none, none]) dL_decides_376 rfl (lw_bi (j := 6) rfl) rfl ?_
  refine v_aload_n C (pc := 378) (i := 0) dL_decides_378 rfl ?_
  refine v_iload_n C (pc := 379) (i := 1) dL_decides_379 rfl ?_
  refine v_iload_n C (pc := 380) (i := 2) dL_decides_380 rfl ?_
  refine v_iload C (pc := 381) (i := 5) dL_decides_381 rfl ?_
  obtain ⟨x7, e7, h⟩ := h
  refine v_pS C (pc := 383) [.int a5] 1 (cL_isRefused_met (kl κ) (kG κ) _ e7) (good_l3 gL_decides_L_isRefused) rfl hdsL_isRefused rfl rfl rfl (by rw [hR]; exact ⟨Nat.le_of_ble_eq_true rfl, Nat.le_of_ble_eq_true rfl⟩) (by rw [hR]; decide) (Nat.le_of_ble_eq_true rfl) rfl dL_decides_383 ?_
  refine v_if_eq C (pc := 386) (tgt := 393) dL_decides_386 (by decide) (fun c8 => ?_) (fun c8 => ?_)
  · rw [if_pos c8] at h
    refine v_iload C (pc := 393) (i := 6) dL_decides_393 rfl ?_
    exact tbL_decides_395 E hR ht  h
  · rw [if_neg c8] at h
    refine v_iconst C (pc := 389) (v := 0) dL_decides_389 (by decide) ?_
    refine v_goto C (pc := 390) (tgt := 395) dL_decides_390 (by decide) ?_
    exact tbL_decides_395 E hR ht  h
def bL_decides_319 (Q : hM → Int32 → Prop) (M : hM) (a8 : Int32) (s0 : Int32) : Prop :=
  if (s0 : Int32) = 0 then (
    Q M (-9)
  ) else (
    Q M a8
  )
set_option maxRecDepth 100000 in
set_option maxHeartbeats 4000000 in
theorem tbL_decides_319 {κ : hKx} {M0 : hM} {sz : Nat} {Q : hM → Int32 → Prop} (E : Ce κ RL cL_decides vsL_decides (some .int) M0 sz (hQi Q) (fun _ _ => False) 15 90) (hR : kR κ = rmL_decides) (ht : ∀ x ∈ (kc κ).exceptionTable.toList, False)  {M : hM} {a8 : Int32} {s0 : Int32}  (h : bL_decides_319 Q M a8 s0) : VW κ 15 90 M 319 [none, none, none, none, none, none, none, none, some (.int a8), none, none] [.int s0] := by
  unfold bL_decides_319 at h
  have F := E.1
  have C := F.1
  refine v_istore C (pc := 319) (i := 9) (lv' := [none, none, none, none, none, none, none, none, some (.int a8), some (.int s0), none]) dL_decides_319 rfl (lw_bi (j := 8) rfl) rfl ?_
  refine v_iload C (pc := 321) (i := 9) dL_decides_321 rfl ?_
  refine v_if_eq C (pc := 323) (tgt := 331) dL_decides_323 (by decide) (fun c42 => ?_) (fun c42 => ?_)
  · rw [if_pos c42] at h
    refine v_bipush C (pc := 331) (v := (-9)) dL_decides_331 (by decide) ?_
    exact v_eret (pc := 333) E rfl (nar_int _) ⟨_, rfl, h⟩ (by decide) (by decide) dL_decides_333
  · rw [if_neg c42] at h
    refine v_iload C (pc := 326) (i := 8) dL_decides_326 rfl ?_
    refine v_goto C (pc := 328) (tgt := 333) dL_decides_328 (by decide) ?_
    exact v_eret (pc := 333) E rfl (nar_int _) ⟨_, rfl, h⟩ (by decide) (by decide) dL_decides_333
def bL_decides_314 (Q : hM → Int32 → Prop) (M : hM) (a8 : Int32) : Prop :=
  bL_decides_319 Q M a8 1
set_option maxRecDepth 100000 in
set_option maxHeartbeats 4000000 in
theorem tbL_decides_314 {κ : hKx} {M0 : hM} {sz : Nat} {Q : hM → Int32 → Prop} (E : Ce κ RL cL_decides vsL_decides (some .int) M0 sz (hQi Q) (fun _ _ => False) 15 90) (hR : kR κ = rmL_decides) (ht : ∀ x ∈ (kc κ).exceptionTable.toList, False)  {M : hM} {a8 : Int32}  (h : bL_decides_314 Q M a8) : VW κ 15 90 M 314 [none, none, none, none, none, none, none, none, some (.int a8), none, none] [] := by
  unfold bL_decides_314 at h
  have F := E.1
  have C := F.1
  refine v_iconst C (pc := 314) (v := 1) dL_decides_314 (by decide) ?_
  refine v_goto C (pc := 315) (tgt := 319) dL_decides_315 (by decide) ?_
  exact tbL_decides_319 E hR ht  h
def bL_decides_318 (Q : hM → Int32 → Prop) (M : hM) (a8 : Int32) : Prop :=
  bL_decides_319 Q M a8 0
set_option maxRecDepth 100000 in
set_option maxHeartbeats 4000000 in
theorem tbL_decides_318 {κ : hKx} {M0 : hM} {sz : Nat} {Q : hM → Int32 → Prop} (E : Ce κ RL cL_decides vsL_decides (some .int) M0 sz (hQi Q) (fun _ _ => False) 15 90) (hR : kR κ = rmL_decides) (ht : ∀ x ∈ (kc κ).exceptionTable.toList, False)  {M : hM} {a8 : Int32}  (h : bL_decides_318 Q M a8) : VW κ 15 90 M 318 [none, none, none, none, none, none, none, none, some (.int a8), none, none] [] := by
  unfold bL_decides_318 at h
  have F := E.1
  have C := F.1
  refine v_iconst C (pc := 318) (v := 0) dL_decides_318 (by decide) ?_
  exact tbL_decides_319 E hR ht  h
def bL_decides_168 (Q : hM → Int32 → Prop) (M : hM) (a8 : Int32) (a9 : Int32) : Prop :=
  if (a9 : Int32) = 0 then (
    Q M (-9)
  ) else (
    Q M a8
  )
set_option maxRecDepth 100000 in
set_option maxHeartbeats 4000000 in
theorem tbL_decides_168 {κ : hKx} {M0 : hM} {sz : Nat} {Q : hM → Int32 → Prop} (E : Ce κ RL cL_decides vsL_decides (some .int) M0 sz (hQi Q) (fun _ _ => False) 15 90) (hR : kR κ = rmL_decides) (ht : ∀ x ∈ (kc κ).exceptionTable.toList, False)  {M : hM} {a8 : Int32} {a9 : Int32}  (h : bL_decides_168 Q M a8 a9) : VW κ 7 42 M 168 [none, none, none, none, none, none, none, none, some (.int a8), some (.int a9), none] [] := by
  unfold bL_decides_168 at h
  have F := E.1
  have C := F.1
  refine v_iload C (pc := 168) (i := 9) dL_decides_168 rfl ?_
  refine v_if_eq C (pc := 170) (tgt := 178) dL_decides_170 (by decide) (fun c75 => ?_) (fun c75 => ?_)
  · rw [if_pos c75] at h
    refine v_bipush C (pc := 178) (v := (-9)) dL_decides_178 (by decide) ?_
    exact v_eret (pc := 180) E rfl (nar_int _) ⟨_, rfl, h⟩ (by decide) (by decide) dL_decides_180
  · rw [if_neg c75] at h
    refine v_iload C (pc := 173) (i := 8) dL_decides_173 rfl ?_
    refine v_goto C (pc := 175) (tgt := 180) dL_decides_175 (by decide) ?_
    exact v_eret (pc := 180) E rfl (nar_int _) ⟨_, rfl, h⟩ (by decide) (by decide) dL_decides_180
def bL_decides_155 (k110 : hM → Int32 → Int32 → Prop) (Q : hM → Int32 → Prop) (M : hM) (a0 : Option Nat) (a1 : Int32) (a2 : Int32) (a6 : Int32) (a8 : Int32) (a10 : Int32) : Prop :=
  k110 M 1 (a10 + 1)
set_option maxRecDepth 100000 in
set_option maxHeartbeats 4000000 in
theorem tbL_decides_155 {κ : hKx} {M0 : hM} {sz : Nat} {Q : hM → Int32 → Prop} (E : Ce κ RL cL_decides vsL_decides (some .int) M0 sz (hQi Q) (fun _ _ => False) 15 90) (hR : kR κ = rmL_decides) (ht : ∀ x ∈ (kc κ).exceptionTable.toList, False) {k110 : hM → Int32 → Int32 → Prop} {M : hM} {a0 : Option Nat} {a1 : Int32} {a2 : Int32} {a6 : Int32} {a8 : Int32} {a10 : Int32} (hk110 : ∀ (M : hM) (a9 : Int32) (a10 : Int32), k110 M a9 a10 → VW κ 7 42 M 110 [some (va_rf a0), some (.int a1), some (.int a2), none, none, none, some (.int a6), none, some (.int a8), some (.int a9), some (.int a10)] []) (h : bL_decides_155 k110 Q M a0 a1 a2 a6 a8 a10) : VW κ 7 42 M 155 [some (va_rf a0), some (.int a1), some (.int a2), none, none, none, some (.int a6), none, some (.int a8), none, some (.int a10)] [] := by
  unfold bL_decides_155 at h
  have F := E.1
  have C := F.1
  refine v_iconst C (pc := 155) (v := 1) dL_decides_155 (by decide) ?_
  refine v_goto C (pc := 156) (tgt := 160) dL_decides_156 (by decide) ?_
  refine v_istore C (pc := 160) (i := 9) (lv' := [some (va_rf a0), some (.int a1), some (.int a2), none, none, none, some (.int a6), none, some (.int a8), some (.int 1), some (.int a10)]) dL_decides_160 rfl (lw_bi (j := 8) rfl) rfl ?_
  refine v_iinc C (pc := 162) (i := 10) (w := 1) (lv' := [some (va_rf a0), some (.int a1), some (.int a2), none, none, none, some (.int a6), none, some (.int a8), some (.int 1), some (.int (a10 + 1))]) dL_decides_162 rfl (by decide) rfl ?_
  refine v_goto C (pc := 165) (tgt := 110) dL_decides_165 (by decide) ?_
  exact hk110 _ _ _ h
def lL_decides_110 (Q : hM → Int32 → Prop) (a0 : Option Nat) (a1 : Int32) (a2 : Int32) (a6 : Int32) (a8 : Int32) : Nat → hM → Int32 → Int32 → Prop
  | 0, _, _ , _ => False
  | n + 1, M, a9, a10 =>
    if (8 : Int32) ≤ a10 then (
      bL_decides_168 Q M a8 a9
    ) else (
      if (a9 : Int32) = 0 then (
        bL_decides_168 Q M a8 a9
      ) else (
        ∃ x77, fL_isRefused a8 = some x77 ∧
        if (x77 : Int32) = 0 then (
          if (((a6 >>> (a10 &&& 31)) &&& 1) : Int32) = 0 then (
            bL_decides_155 (lL_decides_110 Q a0 a1 a2 a6 a8 n) Q M a0 a1 a2 a6 a8 a10
          ) else (
            ∃ y81, hC M 4 a0 = some y81 ∧
            ∃ x80, fX4_day M y81 = some x80 ∧
            ∃ x82, fL_whyNotq M (some y81) a1 a2 a10 x80 = some x82 ∧
            if (x82 : Int32) = 0 then (
              bL_decides_155 (lL_decides_110 Q a0 a1 a2 a6 a8 n) Q M (some y81) a1 a2 a6 a8 a10
            ) else (
              (lL_decides_110 Q a0 a1 a2 a6 a8 n) M 0 (a10 + 1)
            )
          )
        ) else (
          bL_decides_168 Q M a8 a9
        )
      )
    )
set_option maxRecDepth 100000 in
set_option maxHeartbeats 4000000 in
theorem tlL_decides_110 {κ : hKx} {M0 : hM} {sz : Nat} {Q : hM → Int32 → Prop} (E : Ce κ RL cL_decides vsL_decides (some .int) M0 sz (hQi Q) (fun _ _ => False) 15 90) (hR : kR κ = rmL_decides) (ht : ∀ x ∈ (kc κ).exceptionTable.toList, False)  {a0 : Option Nat} {a1 : Int32} {a2 : Int32} {a6 : Int32} {a8 : Int32}  : ∀ (n : Nat) (M : hM) (a9 : Int32) (a10 : Int32), lL_decides_110 Q a0 a1 a2 a6 a8 n M a9 a10 → VW κ 7 42 M 110 [some (va_rf a0), some (.int a1), some (.int a2), none, none, none, some (.int a6), none, some (.int a8), some (.int a9), some (.int a10)] [] := by
  have F := E.1
  have C := F.1
  intro n
  induction n with
  | zero =>
    intro M a9 a10 h
    unfold lL_decides_110 at h
    exact h.elim
  | succ n ih =>
    intro M a9 a10 h
    unfold lL_decides_110 at h
    refine v_iload C (pc := 110) (i := 10) dL_decides_110 rfl ?_
    refine v_bipush C (pc := 112) (v := 8) dL_decides_112 (by decide) ?_
    refine v_icmp_ge C (pc := 114) (tgt := 168) dL_decides_114 (by decide) (fun c74 => ?_) (fun c74 => ?_)
    · rw [if_pos c74] at h
      refine v_mask (lv' := [none, none, none, none, none, none, none, none, some (.int a8), some (.int a9), none]) [false, false, false, false, false, false, false, false, true, true, false] rfl rfl ?_
      exact tbL_decides_168 E hR ht  h
    · rw [if_neg c74] at h
      refine v_iload C (pc := 117) (i := 9) dL_decides_117 rfl ?_
      refine v_if_eq C (pc := 119) (tgt := 168) dL_decides_119 (by decide) (fun c76 => ?_) (fun c76 => ?_)
      · rw [if_pos c76] at h
        refine v_mask (lv' := [none, none, none, none, none, none, none, none, some (.int a8), some (.int a9), none]) [false, false, false, false, false, false, false, false, true, true, false] rfl rfl ?_
        exact tbL_decides_168 E hR ht  h
      · rw [if_neg c76] at h
        refine v_iload C (pc := 122) (i := 8) dL_decides_122 rfl ?_
        obtain ⟨x77, e77, h⟩ := h
        refine v_pS C (pc := 124) [.int a8] 1 (cL_isRefused_met (kl κ) (kG κ) _ e77) (good_l3 gL_decides_L_isRefused) rfl hdsL_isRefused rfl rfl rfl (by rw [hR]; exact ⟨Nat.le_of_ble_eq_true rfl, Nat.le_of_ble_eq_true rfl⟩) (by rw [hR]; decide) (Nat.le_of_ble_eq_true rfl) rfl dL_decides_124 ?_
        refine v_if_ne C (pc := 127) (tgt := 168) dL_decides_127 (by decide) (fun c78 => ?_) (fun c78 => ?_)
        · rw [if_neg c78] at h
          refine v_mask (lv' := [none, none, none, none, none, none, none, none, some (.int a8), some (.int a9), none]) [false, false, false, false, false, false, false, false, true, true, false] rfl rfl ?_
          exact tbL_decides_168 E hR ht  h
        · rw [if_pos c78] at h
          refine v_iload C (pc := 130) (i := 6) dL_decides_130 rfl ?_
          refine v_iload C (pc := 132) (i := 10) dL_decides_132 rfl ?_
          refine v_ishr C (pc := 134) dL_decides_134 ?_
          refine v_iconst C (pc := 135) (v := 1) dL_decides_135 (by decide) ?_
          refine v_iand C (pc := 136) dL_decides_136 ?_
          refine v_if_eq C (pc := 137) (tgt := 155) dL_decides_137 (by decide) (fun c79 => ?_) (fun c79 => ?_)
          · rw [if_pos c79] at h
            refine v_mask (lv' := [some (va_rf a0), some (.int a1), some (.int a2), none, none, none, some (.int a6), none, some (.int a8), none, some (.int a10)]) [true, true, true, false, false, false, true, false, true, false, true] rfl rfl ?_
            exact tbL_decides_155 E hR ht (fun q0 q1 q2 h => ih q0 q1 q2 h) h
          · rw [if_neg c79] at h
            refine v_aload_n C (pc := 140) (i := 0) dL_decides_140 rfl ?_
            refine v_iload_n C (pc := 141) (i := 1) dL_decides_141 rfl ?_
            refine v_iload_n C (pc := 142) (i := 2) dL_decides_142 rfl ?_
            refine v_iload C (pc := 143) (i := 10) dL_decides_143 rfl ?_
            refine v_aload_n C (pc := 145) (i := 0) dL_decides_145 rfl ?_
            obtain ⟨y81, hy81, hh⟩ := h
            skip
            obtain ⟨rfl, fsy81, hfy81⟩ := hC_inv hy81
            have h := hh
            clear hh
            obtain ⟨x80, e80, h⟩ := h
            refine v_pV C (pc := 146) (ci := 4) [] 0 (cX4_day_met (kl κ) (kG κ) _ e80) hfy81 rfl (good_l gL_decides_X4_day) rfl hdX4_day rfl rfl rfl (by rw [hR]; exact ⟨Nat.le_of_ble_eq_true rfl, Nat.le_of_ble_eq_true rfl⟩) (by rw [hR]; decide) (Nat.le_of_ble_eq_true rfl) rfl dL_decides_146 ?_
            obtain ⟨x82, e82, h⟩ := h
            refine v_pSH C (pc := 149) [va_rf (some y81), .int a1, .int a2, .int a10, .int x80] 5 (cL_whyNotq_met (kl κ) (kG κ) _ e82) (good_l3 gL_decides_L_whyNot) rfl hdsL_whyNot rfl rfl rfl (by rw [hR]; exact ⟨Nat.le_of_ble_eq_true rfl, Nat.le_of_ble_eq_true rfl⟩) (by rw [hR]; decide) (Nat.le_of_ble_eq_true rfl) rfl dL_decides_149 ?_
            refine v_if_ne C (pc := 152) (tgt := 159) dL_decides_152 (by decide) (fun c83 => ?_) (fun c83 => ?_)
            · rw [if_neg c83] at h
              refine v_iconst C (pc := 159) (v := 0) dL_decides_159 (by decide) ?_
              refine v_istore C (pc := 160) (i := 9) (lv' := [some (va_rf (some y81)), some (.int a1), some (.int a2), none, none, none, some (.int a6), none, some (.int a8), some (.int 0), some (.int a10)]) dL_decides_160 rfl (lw_bi (j := 8) rfl) rfl ?_
              refine v_iinc C (pc := 162) (i := 10) (w := 1) (lv' := [some (va_rf (some y81)), some (.int a1), some (.int a2), none, none, none, some (.int a6), none, some (.int a8), some (.int 0), some (.int (a10 + 1))]) dL_decides_162 rfl (by decide) rfl ?_
              refine v_goto C (pc := 165) (tgt := 110) dL_decides_165 (by decide) ?_
              exact ih _ _ _ h
            · rw [if_pos c83] at h
              refine v_mask (lv' := [some (va_rf (some y81)), some (.int a1), some (.int a2), none, none, none, some (.int a6), none, some (.int a8), none, some (.int a10)]) [true, true, true, false, false, false, true, false, true, false, true] rfl rfl ?_
              exact tbL_decides_155 E hR ht (fun q0 q1 q2 h => ih q0 q1 q2 h) h
def bL_decides_100 (Q : hM → Int32 → Prop) (M : hM) (a0 : Option Nat) (a1 : Int32) (a2 : Int32) (a6 : Int32) (a8 : Int32) : Prop :=
  lL_decides_110 Q a0 a1 a2 a6 a8 1000 M 1 0
set_option maxRecDepth 100000 in
set_option maxHeartbeats 4000000 in
theorem tbL_decides_100 {κ : hKx} {M0 : hM} {sz : Nat} {Q : hM → Int32 → Prop} (E : Ce κ RL cL_decides vsL_decides (some .int) M0 sz (hQi Q) (fun _ _ => False) 15 90) (hR : kR κ = rmL_decides) (ht : ∀ x ∈ (kc κ).exceptionTable.toList, False)  {M : hM} {a0 : Option Nat} {a1 : Int32} {a2 : Int32} {a6 : Int32} {a8 : Int32}  (h : bL_decides_100 Q M a0 a1 a2 a6 a8) : VW κ 7 42 M 100 [some (va_rf a0), some (.int a1), some (.int a2), none, none, none, some (.int a6), none, some (.int a8), none, none] [] := by
  unfold bL_decides_100 at h
  have F := E.1
  have C := F.1
  refine v_iconst C (pc := 100) (v := 1) dL_decides_100 (by decide) ?_
  refine v_goto C (pc := 101) (tgt := 105) dL_decides_101 (by decide) ?_
  refine v_istore C (pc := 105) (i := 9) (lv' := [some (va_rf a0), some (.int a1), some (.int a2), none, none, none, some (.int a6), none, some (.int a8), some (.int 1), none]) dL_decides_105 rfl (lw_bi (j := 8) rfl) rfl ?_
  refine v_iconst C (pc := 107) (v := 0) dL_decides_107 (by decide) ?_
  refine v_istore C (pc := 108) (i := 10) (lv' := [some (va_rf a0), some (.int a1), some (.int a2), none, none, none, some (.int a6), none, some (.int a8), some (.int 1), some (.int 0)]) dL_decides_108 rfl (lw_bi (j := 9) rfl) rfl ?_
  exact tlL_decides_110 E hR ht  1000 _ _ _ h
def bL_decides_75 (Q : hM → Int32 → Prop) (M : hM) (a0 : Option Nat) (a1 : Int32) (a2 : Int32) (a6 : Int32) (s0 : Int32) : Prop :=
  wL_charge M a0 a1 a2 a6 (fun M72 x71 =>
  if (s0 : Int32) = 0 then (
    bL_decides_100 Q M72 a0 a1 a2 a6 x71
  ) else (
    ∃ x84, fL_isRefused x71 = some x84 ∧
    if (x84 : Int32) = 0 then (
      bL_decides_100 Q M72 a0 a1 a2 a6 x71
    ) else (
      lL_decides_110 Q a0 a1 a2 a6 x71 1000 M72 0 0
    )
  ))
set_option maxRecDepth 100000 in
set_option maxHeartbeats 4000000 in
theorem tbL_decides_75 {κ : hKx} {M0 : hM} {sz : Nat} {Q : hM → Int32 → Prop} (E : Ce κ RL cL_decides vsL_decides (some .int) M0 sz (hQi Q) (fun _ _ => False) 15 90) (hR : kR κ = rmL_decides) (ht : ∀ x ∈ (kc κ).exceptionTable.toList, False)  {M : hM} {a0 : Option Nat} {a1 : Int32} {a2 : Int32} {a6 : Int32} {s0 : Int32}  (h : bL_decides_75 Q M a0 a1 a2 a6 s0) : VW κ 4 24 M 75 [some (va_rf a0), some (.int a1), some (.int a2), none, none, none, some (.int a6), none, none, none, none] [.int s0] := by
  unfold bL_decides_75 at h
  have F := E.1
  have C := F.1
  refine v_istore C (pc := 75) (i := 7) (lv' := [some (va_rf a0), some (.int a1), some (.int a2), none, none, none, some (.int a6), some (.int s0), none, none, none]) dL_decides_75 rfl (lw_bi (j := 6) rfl) rfl ?_
  refine v_aload_n C (pc := 77) (i := 0) dL_decides_77 rfl ?_
  refine v_iload_n C (pc := 78) (i := 1) dL_decides_78 rfl ?_
  refine v_iload_n C (pc := 79) (i := 2) dL_decides_79 rfl ?_
  refine v_iload C (pc := 80) (i := 6) dL_decides_80 rfl ?_
  refine v_nS F (pc := 82) [va_rf a0, .int a1, .int a2, .int a6] 4 (cL_charge_met (kl κ) F.2.2.2.1 (kG κ) _ h) (good_l3 gL_decides_L_charge) rfl hdsL_charge rfl rfl rfl (by rw [hR]; exact ⟨Nat.le_of_ble_eq_true rfl, Nat.le_of_ble_eq_true rfl⟩) (by rw [hR]; decide) (Nat.le_of_ble_eq_true rfl) rfl dL_decides_82 (hk_i fun M72 x71 h => ?_)
  refine v_istore C (pc := 85) (i := 8) (lv' := [some (va_rf a0), some (.int a1), some (.int a2), none, none, none, some (.int a6), some (.int s0), some (.int x71), none, none]) dL_decides_85 rfl (lw_bi (j := 7) rfl) rfl ?_
  refine v_iload C (pc := 87) (i := 7) dL_decides_87 rfl ?_
  refine v_if_eq C (pc := 89) (tgt := 100) dL_decides_89 (by decide) (fun c73 => ?_) (fun c73 => ?_)
  · rw [if_pos c73] at h
    refine v_mask (lv' := [some (va_rf a0), some (.int a1), some (.int a2), none, none, none, some (.int a6), none, some (.int x71), none, none]) [true, true, true, false, false, false, true, false, true, false, false] rfl rfl ?_
    exact tbL_decides_100 E hR ht  h
  · rw [if_neg c73] at h
    refine v_iload C (pc := 92) (i := 8) dL_decides_92 rfl ?_
    obtain ⟨x84, e84, h⟩ := h
    refine v_pS C (pc := 94) [.int x71] 1 (cL_isRefused_met (kl κ) (kG κ) _ e84) (good_l3 gL_decides_L_isRefused) rfl hdsL_isRefused rfl rfl rfl (by rw [hR]; exact ⟨Nat.le_of_ble_eq_true rfl, Nat.le_of_ble_eq_true rfl⟩) (by rw [hR]; decide) (Nat.le_of_ble_eq_true rfl) rfl dL_decides_94 ?_
    refine v_if_ne C (pc := 97) (tgt := 104) dL_decides_97 (by decide) (fun c85 => ?_) (fun c85 => ?_)
    · rw [if_neg c85] at h
      refine v_iconst C (pc := 104) (v := 0) dL_decides_104 (by decide) ?_
      refine v_istore C (pc := 105) (i := 9) (lv' := [some (va_rf a0), some (.int a1), some (.int a2), none, none, none, some (.int a6), some (.int s0), some (.int x71), some (.int 0), none]) dL_decides_105 rfl (lw_bi (j := 8) rfl) rfl ?_
      refine v_iconst C (pc := 107) (v := 0) dL_decides_107 (by decide) ?_
      refine v_istore C (pc := 108) (i := 10) (lv' := [some (va_rf a0), some (.int a1), some (.int a2), none, none, none, some (.int a6), some (.int s0), some (.int x71), some (.int 0), some (.int 0)]) dL_decides_108 rfl (lw_bi (j := 9) rfl) rfl ?_
      refine v_mask (lv' := [some (va_rf a0), some (.int a1), some (.int a2), none, none, none, some (.int a6), none, some (.int x71), some (.int 0), some (.int 0)]) [true, true, true, false, false, false, true, false, true, true, true] rfl rfl ?_
      exact tlL_decides_110 E hR ht  1000 _ _ _ h
    · rw [if_pos c85] at h
      refine v_mask (lv' := [some (va_rf a0), some (.int a1), some (.int a2), none, none, none, some (.int a6), none, some (.int x71), none, none]) [true, true, true, false, false, false, true, false, true, false, false] rfl rfl ?_
      exact tbL_decides_100 E hR ht  h
def bL_decides_74 (Q : hM → Int32 → Prop) (M : hM) (a0 : Option Nat) (a1 : Int32) (a2 : Int32) (a6 : Int32) : Prop :=
  bL_decides_75 Q M a0 a1 a2 a6 0
set_option maxRecDepth 100000 in
set_option maxHeartbeats 4000000 in
theorem tbL_decides_74 {κ : hKx} {M0 : hM} {sz : Nat} {Q : hM → Int32 → Prop} (E : Ce κ RL cL_decides vsL_decides (some .int) M0 sz (hQi Q) (fun _ _ => False) 15 90) (hR : kR κ = rmL_decides) (ht : ∀ x ∈ (kc κ).exceptionTable.toList, False)  {M : hM} {a0 : Option Nat} {a1 : Int32} {a2 : Int32} {a6 : Int32}  (h : bL_decides_74 Q M a0 a1 a2 a6) : VW κ 4 24 M 74 [some (va_rf a0), some (.int a1), some (.int a2), none, none, none, some (.int a6), none, none, none, none] [] := by
  unfold bL_decides_74 at h
  have F := E.1
  have C := F.1
  refine v_iconst C (pc := 74) (v := 0) dL_decides_74 (by decide) ?_
  exact tbL_decides_75 E hR ht  h
def bL_decides_46 (Q : hM → Int32 → Prop) (M : hM) (a0 : Option Nat) (a1 : Int32) (a2 : Int32) (a5 : Int32) (s0 : Int32) : Prop :=
  if (s0 : Int32) = a5 then (
    if (a5 : Int32) = 0 then (
      bL_decides_74 Q M a0 a1 a2 s0
    ) else (
      wL_of M a0 a1 a2 0 (fun M88 x87 =>
      if (x87 : Int32) = 0 then (
        bL_decides_75 Q M88 a0 a1 a2 s0 1
      ) else (
        bL_decides_74 Q M88 a0 a1 a2 s0
      ))
    )
  ) else (
    bL_decides_74 Q M a0 a1 a2 s0
  )
set_option maxRecDepth 100000 in
set_option maxHeartbeats 4000000 in
theorem tbL_decides_46 {κ : hKx} {M0 : hM} {sz : Nat} {Q : hM → Int32 → Prop} (E : Ce κ RL cL_decides vsL_decides (some .int) M0 sz (hQi Q) (fun _ _ => False) 15 90) (hR : kR κ = rmL_decides) (ht : ∀ x ∈ (kc κ).exceptionTable.toList, False)  {M : hM} {a0 : Option Nat} {a1 : Int32} {a2 : Int32} {a5 : Int32} {s0 : Int32}  (h : bL_decides_46 Q M a0 a1 a2 a5 s0) : VW κ 2 12 M 46 [some (va_rf a0), some (.int a1), some (.int a2), none, none, some (.int a5), none, none, none, none, none] [.int s0] := by
  unfold bL_decides_46 at h
  have F := E.1
  have C := F.1
  refine v_istore C (pc := 46) (i := 6) (lv' := [some (va_rf a0), some (.int a1), some (.int a2), none, none, some (.int a5), some (.int s0), none, none, none, none]) dL_decides_46 rfl (lw_bi (j := 5) rfl) rfl ?_
  refine v_iload C (pc := 48) (i := 6) dL_decides_48 rfl ?_
  refine v_iload C (pc := 50) (i := 5) dL_decides_50 rfl ?_
  refine v_icmp_ne C (pc := 52) (tgt := 74) dL_decides_52 (by decide) (fun c70 => ?_) (fun c70 => ?_)
  · rw [if_neg c70] at h
    refine v_mask (lv' := [some (va_rf a0), some (.int a1), some (.int a2), none, none, none, some (.int s0), none, none, none, none]) [true, true, true, false, false, false, true, false, false, false, false] rfl rfl ?_
    refine v_widen (k := 4) (n := 24) (by decide) (by decide) ?_
    exact tbL_decides_74 E hR ht  h
  · rw [if_pos c70] at h
    refine v_iload C (pc := 55) (i := 5) dL_decides_55 rfl ?_
    refine v_if_eq C (pc := 57) (tgt := 74) dL_decides_57 (by decide) (fun c86 => ?_) (fun c86 => ?_)
    · rw [if_pos c86] at h
      refine v_mask (lv' := [some (va_rf a0), some (.int a1), some (.int a2), none, none, none, some (.int s0), none, none, none, none]) [true, true, true, false, false, false, true, false, false, false, false] rfl rfl ?_
      refine v_widen (k := 4) (n := 24) (by decide) (by decide) ?_
      exact tbL_decides_74 E hR ht  h
    · rw [if_neg c86] at h
      refine v_aload_n C (pc := 60) (i := 0) dL_decides_60 rfl ?_
      refine v_iload_n C (pc := 61) (i := 1) dL_decides_61 rfl ?_
      refine v_iload_n C (pc := 62) (i := 2) dL_decides_62 rfl ?_
      refine v_iconst C (pc := 63) (v := 0) dL_decides_63 (by decide) ?_
      refine v_nS F (pc := 64) [va_rf a0, .int a1, .int a2, .int 0] 4 (cL_of_met (kl κ) F.2.2.2.1 (kG κ) _ h) (good_l3 gL_decides_L_of) rfl hdsL_of rfl rfl rfl (by rw [hR]; exact ⟨Nat.le_of_ble_eq_true rfl, Nat.le_of_ble_eq_true rfl⟩) (by rw [hR]; decide) (Nat.le_of_ble_eq_true rfl) rfl dL_decides_64 (hk_i fun M88 x87 h => ?_)
      refine v_if_ne C (pc := 67) (tgt := 74) dL_decides_67 (by decide) (fun c89 => ?_) (fun c89 => ?_)
      · rw [if_neg c89] at h
        refine v_mask (lv' := [some (va_rf a0), some (.int a1), some (.int a2), none, none, none, some (.int s0), none, none, none, none]) [true, true, true, false, false, false, true, false, false, false, false] rfl rfl ?_
        exact tbL_decides_74 E hR ht  h
      · rw [if_pos c89] at h
        refine v_iconst C (pc := 70) (v := 1) dL_decides_70 (by decide) ?_
        refine v_goto C (pc := 71) (tgt := 75) dL_decides_71 (by decide) ?_
        refine v_mask (lv' := [some (va_rf a0), some (.int a1), some (.int a2), none, none, none, some (.int s0), none, none, none, none]) [true, true, true, false, false, false, true, false, false, false, false] rfl rfl ?_
        exact tbL_decides_75 E hR ht  h
def wL_decides (M : hM) (a0 : Option Nat) (a1 : Int32) (a2 : Int32) (a3 : Int32) (a4 : Int32) (Q : hM → Int32 → Prop) : Prop :=
  if (a4 : Int32) = 0 then (
    ∃ y64, hC M 4 a0 = some y64 ∧
    ∃ x63, fX4_day M y64 = some x63 ∧
    wL_best M (some y64) a1 a2 x63 (fun M66 x65 =>
    ∃ x67, fL_isRefused x65 = some x67 ∧
    if (x67 : Int32) = 0 then (
      if ((a3 - a3 / 3 * 3) : Int32) = 0 then (
        bL_decides_46 Q M66 (some y64) a1 a2 x65 ((a3 / 3) - (a3 / 3) / 260 * 260)
      ) else (
        bL_decides_46 Q M66 (some y64) a1 a2 x65 x65
      )
    ) else (
      Q M66 x65
    ))
  ) else (
    if (a4 : Int32) = 1 then (
      wL_lacks M a0 a1 a2 (fun M34 x33 =>
      wL_of M34 a0 a1 a2 1 (fun M36 x35 =>
      ∃ x37, fL_countq M36 a0 0 = some x37 ∧
      wL_trial M36 a0 a1 a2 (fun M39 x38 =>
      ∃ x40, fL_isRefused x38 = some x40 ∧
      if (x40 : Int32) = 0 then (
        if (x33 : Int32) = 0 then (
          if ((x38 &&& (x35 ^^^ (-1))) : Int32) = 0 then (
            wL_of M39 a0 a1 a2 0 (fun M46 x45 =>
            if (x45 : Int32) = 0 then (
              wL_of M46 a0 a1 a2 1 (fun M49 x48 =>
              if (x48 : Int32) = 0 then (
                wL_of M49 a0 a1 a2 2 (fun M52 x51 =>
                if (x51 : Int32) = 0 then (
                  wL_of M52 a0 a1 a2 4 (fun M55 x54 =>
                  if (x54 : Int32) = 0 then (
                    ∃ x57, fL_countq M55 a0 0 = some x57 ∧
                    ∃ x58, fL_bits x38 = some x58 ∧
                    if (x57 : Int32) = (x37 + x58) then (
                      wL_of M55 a0 a1 a2 7 (fun M61 x60 =>
                      if ((x35 &&& (x60 ^^^ (-1))) : Int32) = 0 then (
                        bL_decides_314 Q M61 x38
                      ) else (
                        bL_decides_318 Q M61 x38
                      ))
                    ) else (
                      bL_decides_318 Q M55 x38
                    )
                  ) else (
                    bL_decides_318 Q M55 x38
                  ))
                ) else (
                  bL_decides_318 Q M52 x38
                ))
              ) else (
                bL_decides_318 Q M49 x38
              ))
            ) else (
              bL_decides_318 Q M46 x38
            ))
          ) else (
            bL_decides_318 Q M39 x38
          )
        ) else (
          bL_decides_318 Q M39 x38
        )
      ) else (
        bL_decides_314 Q M39 x38
      ))))
    ) else (
      wL_of M a0 a1 a2 1 (fun M4 x3 =>
      if ((a3 - a3 / 3 * 3) : Int32) = 0 then (
        bL_decides_369 Q M4 a0 a1 a2 x3 ((a3 / 3) - (a3 / 3) / 260 * 260)
      ) else (
        bL_decides_369 Q M4 a0 a1 a2 x3 (x3 &&& (((a3 - a3 / 3 * 3) - 1) ^^^ (-1)))
      ))
    )
  )
set_option maxRecDepth 100000 in
set_option maxHeartbeats 4000000 in
theorem cL_decides_met (l : Launch) (hfl : l.stackTraces = false) (G : hG) (M : hM) {a0 : Option Nat} {a1 : Int32} {a2 : Int32} {a3 : Int32} {a4 : Int32} {Q : hM → Int32 → Prop} (h : wL_decides M a0 a1 a2 a3 a4 Q) : hEMet l yL_decides vsL_decides rmL_decides [va_rf a0, .int a1, .int a2, .int a3, .int a4] G M (hQi Q) (fun _ _ => False) 15 90 := by
  refine he_entry (own := RL) (cc := cL_decides) (maxL := 11) (ret := (some .int)) (lv := [some (va_rf a0), some (.int a1), some (.int a2), some (.int a3), some (.int a4), none, none, none, none, none, none]) hfl (by decide) rfl rfl (hcc (rf_cat _) (hcc rfl (hcc rfl (hcc rfl (hcc rfl hc0))))) (Nat.le_of_ble_eq_true rfl) rfl (fun κ sz hG hl hR E ht hn => ?_)
  subst hG; subst hl
  unfold wL_decides at h
  have F := E.1
  have C := F.1
  refine v_iload C (pc := 0) (i := 4) dL_decides_0 rfl ?_
  refine v_if_ne C (pc := 2) (tgt := 181) dL_decides_2 (by decide) (fun c1 => ?_) (fun c1 => ?_)
  · rw [if_neg c1] at h
    refine v_iload C (pc := 181) (i := 4) dL_decides_181 rfl ?_
    refine v_iconst C (pc := 183) (v := 1) dL_decides_183 (by decide) ?_
    refine v_icmp_ne C (pc := 184) (tgt := 334) dL_decides_184 (by decide) (fun c2 => ?_) (fun c2 => ?_)
    · rw [if_neg c2] at h
      refine v_aload_n C (pc := 334) (i := 0) dL_decides_334 rfl ?_
      refine v_iload_n C (pc := 335) (i := 1) dL_decides_335 rfl ?_
      refine v_iload_n C (pc := 336) (i := 2) dL_decides_336 rfl ?_
      refine v_iconst C (pc := 337) (v := 1) dL_decides_337 (by decide) ?_
      refine v_nS F (pc := 338) [va_rf a0, .int a1, .int a2, .int 1] 4 (cL_of_met (kl κ) F.2.2.2.1 (kG κ) _ h) (good_l3 gL_decides_L_of) rfl hdsL_of rfl rfl rfl (by rw [hR]; exact ⟨Nat.le_of_ble_eq_true rfl, Nat.le_of_ble_eq_true rfl⟩) (by rw [hR]; decide) (Nat.le_of_ble_eq_true rfl) rfl dL_decides_338 (hk_i fun M4 x3 h => ?_)
      refine v_istore C (pc := 341) (i := 5) (lv' := [some (va_rf a0), some (.int a1), some (.int a2), some (.int a3), some (.int a4), some (.int x3), none, none, none, none, none]) dL_decides_341 rfl (lw_bi (j := 4) rfl) rfl ?_
      refine v_iload_n C (pc := 343) (i := 3) dL_decides_343 rfl ?_
      refine v_iconst C (pc := 344) (v := 3) dL_decides_344 (by decide) ?_
      refine v_irem C (pc := 345) dL_decides_345 (by decide) ?_
      refine v_if_ne C (pc := 346) (tgt := 359) dL_decides_346 (by decide) (fun c5 => ?_) (fun c5 => ?_)
      · rw [if_neg c5] at h
        refine v_iload C (pc := 359) (i := 5) dL_decides_359 rfl ?_
        refine v_iload_n C (pc := 361) (i := 3) dL_decides_361 rfl ?_
        refine v_iconst C (pc := 362) (v := 3) dL_decides_362 (by decide) ?_
        refine v_irem C (pc := 363) dL_decides_363 (by decide) ?_
        refine v_iconst C (pc := 364) (v := 1) dL_decides_364 (by decide) ?_
        refine v_isub C (pc := 365) dL_decides_365 ?_
        refine v_iconst C (pc := 366) (v := (-1)) dL_decides_366 (by decide) ?_
        refine v_ixor C (pc := 367) dL_decides_367 ?_
        refine v_iand C (pc := 368) dL_decides_368 ?_
        refine v_mask (lv' := [some (va_rf a0), some (.int a1), some (.int a2), none, none, some (.int x3), none, none, none, none, none]) [true, true, true, false, false, true, false, false, false, false, false] rfl rfl ?_
        exact tbL_decides_369 E hR ht  h
      · rw [if_pos c5] at h
        refine v_iload_n C (pc := 349) (i := 3) dL_decides_349 rfl ?_
        refine v_iconst C (pc := 350) (v := 3) dL_decides_350 (by decide) ?_
        refine v_idiv C (pc := 351) dL_decides_351 (by decide) ?_
        refine v_sipush C (pc := 352) (v := 260) dL_decides_352 (by decide) ?_
        refine v_irem C (pc := 355) dL_decides_355 (by decide) ?_
        refine v_goto C (pc := 356) (tgt := 369) dL_decides_356 (by decide) ?_
        refine v_mask (lv' := [some (va_rf a0), some (.int a1), some (.int a2), none, none, some (.int x3), none, none, none, none, none]) [true, true, true, false, false, true, false, false, false, false, false] rfl rfl ?_
        exact tbL_decides_369 E hR ht  h
    · rw [if_pos c2] at h
      refine v_aload_n C (pc := 187) (i := 0) dL_decides_187 rfl ?_
      refine v_iload_n C (pc := 188) (i := 1) dL_decides_188 rfl ?_
      refine v_iload_n C (pc := 189) (i := 2) dL_decides_189 rfl ?_
      refine v_nS F (pc := 190) [va_rf a0, .int a1, .int a2] 3 (cL_lacks_met (kl κ) F.2.2.2.1 (kG κ) _ h) (good_l3 gL_decides_L_lacks) rfl hdsL_lacks rfl rfl rfl (by rw [hR]; exact ⟨Nat.le_of_ble_eq_true rfl, Nat.le_of_ble_eq_true rfl⟩) (by rw [hR]; decide) (Nat.le_of_ble_eq_true rfl) rfl dL_decides_190 (hk_i fun M34 x33 h => ?_)
      refine v_istore C (pc := 193) (i := 5) (lv' := [some (va_rf a0), some (.int a1), some (.int a2), some (.int a3), some (.int a4), some (.int x33), none, none, none, none, none]) dL_decides_193 rfl (lw_bi (j := 4) rfl) rfl ?_
      refine v_aload_n C (pc := 195) (i := 0) dL_decides_195 rfl ?_
      refine v_iload_n C (pc := 196) (i := 1) dL_decides_196 rfl ?_
      refine v_iload_n C (pc := 197) (i := 2) dL_decides_197 rfl ?_
      refine v_iconst C (pc := 198) (v := 1) dL_decides_198 (by decide) ?_
      refine v_nS F (pc := 199) [va_rf a0, .int a1, .int a2, .int 1] 4 (cL_of_met (kl κ) F.2.2.2.1 (kG κ) _ h) (good_l3 gL_decides_L_of) rfl hdsL_of rfl rfl rfl (by rw [hR]; exact ⟨Nat.le_of_ble_eq_true rfl, Nat.le_of_ble_eq_true rfl⟩) (by rw [hR]; decide) (Nat.le_of_ble_eq_true rfl) rfl dL_decides_199 (hk_i fun M36 x35 h => ?_)
      refine v_istore C (pc := 202) (i := 6) (lv' := [some (va_rf a0), some (.int a1), some (.int a2), some (.int a3), some (.int a4), some (.int x33), some (.int x35), none, none, none, none]) dL_decides_202 rfl (lw_bi (j := 5) rfl) rfl ?_
      refine v_aload_n C (pc := 204) (i := 0) dL_decides_204 rfl ?_
      refine v_iconst C (pc := 205) (v := 0) dL_decides_205 (by decide) ?_
      obtain ⟨x37, e37, h⟩ := h
      refine v_pSH C (pc := 206) [va_rf a0, .int 0] 2 (cL_countq_met (kl κ) (kG κ) _ e37) (good_l3 gL_decides_L_count) rfl hdsL_count rfl rfl rfl (by rw [hR]; exact ⟨Nat.le_of_ble_eq_true rfl, Nat.le_of_ble_eq_true rfl⟩) (by rw [hR]; decide) (Nat.le_of_ble_eq_true rfl) rfl dL_decides_206 ?_
      refine v_istore C (pc := 209) (i := 7) (lv' := [some (va_rf a0), some (.int a1), some (.int a2), some (.int a3), some (.int a4), some (.int x33), some (.int x35), some (.int x37), none, none, none]) dL_decides_209 rfl (lw_bi (j := 6) rfl) rfl ?_
      refine v_aload_n C (pc := 211) (i := 0) dL_decides_211 rfl ?_
      refine v_iload_n C (pc := 212) (i := 1) dL_decides_212 rfl ?_
      refine v_iload_n C (pc := 213) (i := 2) dL_decides_213 rfl ?_
      refine v_nS F (pc := 214) [va_rf a0, .int a1, .int a2] 3 (cL_trial_met (kl κ) F.2.2.2.1 (kG κ) _ h) (good_l3 gL_decides_L_trial) rfl hdsL_trial rfl rfl rfl (by rw [hR]; exact ⟨Nat.le_of_ble_eq_true rfl, Nat.le_of_ble_eq_true rfl⟩) (by rw [hR]; decide) (Nat.le_of_ble_eq_true rfl) rfl dL_decides_214 (hk_i fun M39 x38 h => ?_)
      refine v_istore C (pc := 217) (i := 8) (lv' := [some (va_rf a0), some (.int a1), some (.int a2), some (.int a3), some (.int a4), some (.int x33), some (.int x35), some (.int x37), some (.int x38), none, none]) dL_decides_217 rfl (lw_bi (j := 7) rfl) rfl ?_
      refine v_iload C (pc := 219) (i := 8) dL_decides_219 rfl ?_
      obtain ⟨x40, e40, h⟩ := h
      refine v_pS C (pc := 221) [.int x38] 1 (cL_isRefused_met (kl κ) (kG κ) _ e40) (good_l3 gL_decides_L_isRefused) rfl hdsL_isRefused rfl rfl rfl (by rw [hR]; exact ⟨Nat.le_of_ble_eq_true rfl, Nat.le_of_ble_eq_true rfl⟩) (by rw [hR]; decide) (Nat.le_of_ble_eq_true rfl) rfl dL_decides_221 ?_
      refine v_if_ne C (pc := 224) (tgt := 314) dL_decides_224 (by decide) (fun c41 => ?_) (fun c41 => ?_)
      · rw [if_neg c41] at h
        refine v_mask (lv' := [none, none, none, none, none, none, none, none, some (.int x38), none, none]) [false, false, false, false, false, false, false, false, true, false, false] rfl rfl ?_
        refine v_widen (k := 15) (n := 90) (by decide) (by decide) ?_
        exact tbL_decides_314 E hR ht  h
      · rw [if_pos c41] at h
        refine v_iload C (pc := 227) (i := 5) dL_decides_227 rfl ?_
        refine v_if_ne C (pc := 229) (tgt := 318) dL_decides_229 (by decide) (fun c43 => ?_) (fun c43 => ?_)
        · rw [if_neg c43] at h
          refine v_mask (lv' := [none, none, none, none, none, none, none, none, some (.int x38), none, none]) [false, false, false, false, false, false, false, false, true, false, false] rfl rfl ?_
          refine v_widen (k := 15) (n := 90) (by decide) (by decide) ?_
          exact tbL_decides_318 E hR ht  h
        · rw [if_pos c43] at h
          refine v_iload C (pc := 232) (i := 8) dL_decides_232 rfl ?_
          refine v_iload C (pc := 234) (i := 6) dL_decides_234 rfl ?_
          refine v_iconst C (pc := 236) (v := (-1)) dL_decides_236 (by decide) ?_
          refine v_ixor C (pc := 237) dL_decides_237 ?_
          refine v_iand C (pc := 238) dL_decides_238 ?_
          refine v_if_ne C (pc := 239) (tgt := 318) dL_decides_239 (by decide) (fun c44 => ?_) (fun c44 => ?_)
          · rw [if_neg c44] at h
            refine v_mask (lv' := [none, none, none, none, none, none, none, none, some (.int x38), none, none]) [false, false, false, false, false, false, false, false, true, false, false] rfl rfl ?_
            refine v_widen (k := 15) (n := 90) (by decide) (by decide) ?_
            exact tbL_decides_318 E hR ht  h
          · rw [if_pos c44] at h
            refine v_aload_n C (pc := 242) (i := 0) dL_decides_242 rfl ?_
            refine v_iload_n C (pc := 243) (i := 1) dL_decides_243 rfl ?_
            refine v_iload_n C (pc := 244) (i := 2) dL_decides_244 rfl ?_
            refine v_iconst C (pc := 245) (v := 0) dL_decides_245 (by decide) ?_
            refine v_nS F (pc := 246) [va_rf a0, .int a1, .int a2, .int 0] 4 (cL_of_met (kl κ) F.2.2.2.1 (kG κ) _ h) (good_l3 gL_decides_L_of) rfl hdsL_of rfl rfl rfl (by rw [hR]; exact ⟨Nat.le_of_ble_eq_true rfl, Nat.le_of_ble_eq_true rfl⟩) (by rw [hR]; decide) (Nat.le_of_ble_eq_true rfl) rfl dL_decides_246 (hk_i fun M46 x45 h => ?_)
            refine v_if_ne C (pc := 249) (tgt := 318) dL_decides_249 (by decide) (fun c47 => ?_) (fun c47 => ?_)
            · rw [if_neg c47] at h
              refine v_mask (lv' := [none, none, none, none, none, none, none, none, some (.int x38), none, none]) [false, false, false, false, false, false, false, false, true, false, false] rfl rfl ?_
              refine v_widen (k := 15) (n := 90) (by decide) (by decide) ?_
              exact tbL_decides_318 E hR ht  h
            · rw [if_pos c47] at h
              refine v_aload_n C (pc := 252) (i := 0) dL_decides_252 rfl ?_
              refine v_iload_n C (pc := 253) (i := 1) dL_decides_253 rfl ?_
              refine v_iload_n C (pc := 254) (i := 2) dL_decides_254 rfl ?_
              refine v_iconst C (pc := 255) (v := 1) dL_decides_255 (by decide) ?_
              refine v_nS F (pc := 256) [va_rf a0, .int a1, .int a2, .int 1] 4 (cL_of_met (kl κ) F.2.2.2.1 (kG κ) _ h) (good_l3 gL_decides_L_of) rfl hdsL_of rfl rfl rfl (by rw [hR]; exact ⟨Nat.le_of_ble_eq_true rfl, Nat.le_of_ble_eq_true rfl⟩) (by rw [hR]; decide) (Nat.le_of_ble_eq_true rfl) rfl dL_decides_256 (hk_i fun M49 x48 h => ?_)
              refine v_if_ne C (pc := 259) (tgt := 318) dL_decides_259 (by decide) (fun c50 => ?_) (fun c50 => ?_)
              · rw [if_neg c50] at h
                refine v_mask (lv' := [none, none, none, none, none, none, none, none, some (.int x38), none, none]) [false, false, false, false, false, false, false, false, true, false, false] rfl rfl ?_
                refine v_widen (k := 15) (n := 90) (by decide) (by decide) ?_
                exact tbL_decides_318 E hR ht  h
              · rw [if_pos c50] at h
                refine v_aload_n C (pc := 262) (i := 0) dL_decides_262 rfl ?_
                refine v_iload_n C (pc := 263) (i := 1) dL_decides_263 rfl ?_
                refine v_iload_n C (pc := 264) (i := 2) dL_decides_264 rfl ?_
                refine v_iconst C (pc := 265) (v := 2) dL_decides_265 (by decide) ?_
                refine v_nS F (pc := 266) [va_rf a0, .int a1, .int a2, .int 2] 4 (cL_of_met (kl κ) F.2.2.2.1 (kG κ) _ h) (good_l3 gL_decides_L_of) rfl hdsL_of rfl rfl rfl (by rw [hR]; exact ⟨Nat.le_of_ble_eq_true rfl, Nat.le_of_ble_eq_true rfl⟩) (by rw [hR]; decide) (Nat.le_of_ble_eq_true rfl) rfl dL_decides_266 (hk_i fun M52 x51 h => ?_)
                refine v_if_ne C (pc := 269) (tgt := 318) dL_decides_269 (by decide) (fun c53 => ?_) (fun c53 => ?_)
                · rw [if_neg c53] at h
                  refine v_mask (lv' := [none, none, none, none, none, none, none, none, some (.int x38), none, none]) [false, false, false, false, false, false, false, false, true, false, false] rfl rfl ?_
                  refine v_widen (k := 15) (n := 90) (by decide) (by decide) ?_
                  exact tbL_decides_318 E hR ht  h
                · rw [if_pos c53] at h
                  refine v_aload_n C (pc := 272) (i := 0) dL_decides_272 rfl ?_
                  refine v_iload_n C (pc := 273) (i := 1) dL_decides_273 rfl ?_
                  refine v_iload_n C (pc := 274) (i := 2) dL_decides_274 rfl ?_
                  refine v_iconst C (pc := 275) (v := 4) dL_decides_275 (by decide) ?_
                  refine v_nS F (pc := 276) [va_rf a0, .int a1, .int a2, .int 4] 4 (cL_of_met (kl κ) F.2.2.2.1 (kG κ) _ h) (good_l3 gL_decides_L_of) rfl hdsL_of rfl rfl rfl (by rw [hR]; exact ⟨Nat.le_of_ble_eq_true rfl, Nat.le_of_ble_eq_true rfl⟩) (by rw [hR]; decide) (Nat.le_of_ble_eq_true rfl) rfl dL_decides_276 (hk_i fun M55 x54 h => ?_)
                  refine v_if_ne C (pc := 279) (tgt := 318) dL_decides_279 (by decide) (fun c56 => ?_) (fun c56 => ?_)
                  · rw [if_neg c56] at h
                    refine v_mask (lv' := [none, none, none, none, none, none, none, none, some (.int x38), none, none]) [false, false, false, false, false, false, false, false, true, false, false] rfl rfl ?_
                    refine v_widen (k := 15) (n := 90) (by decide) (by decide) ?_
                    exact tbL_decides_318 E hR ht  h
                  · rw [if_pos c56] at h
                    refine v_aload_n C (pc := 282) (i := 0) dL_decides_282 rfl ?_
                    refine v_iconst C (pc := 283) (v := 0) dL_decides_283 (by decide) ?_
                    obtain ⟨x57, e57, h⟩ := h
                    refine v_pSH C (pc := 284) [va_rf a0, .int 0] 2 (cL_countq_met (kl κ) (kG κ) _ e57) (good_l3 gL_decides_L_count) rfl hdsL_count rfl rfl rfl (by rw [hR]; exact ⟨Nat.le_of_ble_eq_true rfl, Nat.le_of_ble_eq_true rfl⟩) (by rw [hR]; decide) (Nat.le_of_ble_eq_true rfl) rfl dL_decides_284 ?_
                    refine v_iload C (pc := 287) (i := 7) dL_decides_287 rfl ?_
                    refine v_iload C (pc := 289) (i := 8) dL_decides_289 rfl ?_
                    obtain ⟨x58, e58, h⟩ := h
                    refine v_pS C (pc := 291) [.int x38] 1 (cL_bits_met (kl κ) (kG κ) _ e58) (good_l3 gL_decides_L_bits) rfl hdsL_bits rfl rfl rfl (by rw [hR]; exact ⟨Nat.le_of_ble_eq_true rfl, Nat.le_of_ble_eq_true rfl⟩) (by rw [hR]; decide) (Nat.le_of_ble_eq_true rfl) rfl dL_decides_291 ?_
                    refine v_iadd C (pc := 294) dL_decides_294 ?_
                    refine v_icmp_ne C (pc := 295) (tgt := 318) dL_decides_295 (by decide) (fun c59 => ?_) (fun c59 => ?_)
                    · rw [if_neg c59] at h
                      refine v_mask (lv' := [none, none, none, none, none, none, none, none, some (.int x38), none, none]) [false, false, false, false, false, false, false, false, true, false, false] rfl rfl ?_
                      refine v_widen (k := 15) (n := 90) (by decide) (by decide) ?_
                      exact tbL_decides_318 E hR ht  h
                    · rw [if_pos c59] at h
                      refine v_iload C (pc := 298) (i := 6) dL_decides_298 rfl ?_
                      refine v_aload_n C (pc := 300) (i := 0) dL_decides_300 rfl ?_
                      refine v_iload_n C (pc := 301) (i := 1) dL_decides_301 rfl ?_
                      refine v_iload_n C (pc := 302) (i := 2) dL_decides_302 rfl ?_
                      refine v_bipush C (pc := 303) (v := 7) dL_decides_303 (by decide) ?_
                      refine v_nS F (pc := 305) [va_rf a0, .int a1, .int a2, .int 7] 4 (cL_of_met (kl κ) F.2.2.2.1 (kG κ) _ h) (good_l3 gL_decides_L_of) rfl hdsL_of rfl rfl rfl (by rw [hR]; exact ⟨Nat.le_of_ble_eq_true rfl, Nat.le_of_ble_eq_true rfl⟩) (by rw [hR]; decide) (Nat.le_of_ble_eq_true rfl) rfl dL_decides_305 (hk_i fun M61 x60 h => ?_)
                      refine v_iconst C (pc := 308) (v := (-1)) dL_decides_308 (by decide) ?_
                      refine v_ixor C (pc := 309) dL_decides_309 ?_
                      refine v_iand C (pc := 310) dL_decides_310 ?_
                      refine v_if_ne C (pc := 311) (tgt := 318) dL_decides_311 (by decide) (fun c62 => ?_) (fun c62 => ?_)
                      · rw [if_neg c62] at h
                        refine v_mask (lv' := [none, none, none, none, none, none, none, none, some (.int x38), none, none]) [false, false, false, false, false, false, false, false, true, false, false] rfl rfl ?_
                        exact tbL_decides_318 E hR ht  h
                      · rw [if_pos c62] at h
                        refine v_mask (lv' := [none, none, none, none, none, none, none, none, some (.int x38), none, none]) [false, false, false, false, false, false, false, false, true, false, false] rfl rfl ?_
                        exact tbL_decides_314 E hR ht  h
  · rw [if_pos c1] at h
    refine v_aload_n C (pc := 5) (i := 0) dL_decides_5 rfl ?_
    refine v_iload_n C (pc := 6) (i := 1) dL_decides_6 rfl ?_
    refine v_iload_n C (pc := 7) (i := 2) dL_decides_7 rfl ?_
    refine v_aload_n C (pc := 8) (i := 0) dL_decides_8 rfl ?_
    obtain ⟨y64, hy64, hh⟩ := h
    skip
    obtain ⟨rfl, fsy64, hfy64⟩ := hC_inv hy64
    have h := hh
    clear hh
    obtain ⟨x63, e63, h⟩ := h
    refine v_pV C (pc := 9) (ci := 4) [] 0 (cX4_day_met (kl κ) (kG κ) _ e63) hfy64 rfl (good_l gL_decides_X4_day) rfl hdX4_day rfl rfl rfl (by rw [hR]; exact ⟨Nat.le_of_ble_eq_true rfl, Nat.le_of_ble_eq_true rfl⟩) (by rw [hR]; decide) (Nat.le_of_ble_eq_true rfl) rfl dL_decides_9 ?_
    refine v_nS F (pc := 12) [va_rf (some y64), .int a1, .int a2, .int x63] 4 (cL_best_met (kl κ) F.2.2.2.1 (kG κ) _ h) (good_l3 gL_decides_L_best) rfl hdsL_best rfl rfl rfl (by rw [hR]; exact ⟨Nat.le_of_ble_eq_true rfl, Nat.le_of_ble_eq_true rfl⟩) (by rw [hR]; decide) (Nat.le_of_ble_eq_true rfl) rfl dL_decides_12 (hk_i fun M66 x65 h => ?_)
    refine v_istore C (pc := 15) (i := 5) (lv' := [some (va_rf (some y64)), some (.int a1), some (.int a2), some (.int a3), some (.int a4), some (.int x65), none, none, none, none, none]) dL_decides_15 rfl (lw_bi (j := 4) rfl) rfl ?_
    refine v_iload C (pc := 17) (i := 5) dL_decides_17 rfl ?_
    obtain ⟨x67, e67, h⟩ := h
    refine v_pS C (pc := 19) [.int x65] 1 (cL_isRefused_met (kl κ) (kG κ) _ e67) (good_l3 gL_decides_L_isRefused) rfl hdsL_isRefused rfl rfl rfl (by rw [hR]; exact ⟨Nat.le_of_ble_eq_true rfl, Nat.le_of_ble_eq_true rfl⟩) (by rw [hR]; decide) (Nat.le_of_ble_eq_true rfl) rfl dL_decides_19 ?_
    refine v_if_eq C (pc := 22) (tgt := 28) dL_decides_22 (by decide) (fun c68 => ?_) (fun c68 => ?_)
    · rw [if_pos c68] at h
      refine v_iload_n C (pc := 28) (i := 3) dL_decides_28 rfl ?_
      refine v_iconst C (pc := 29) (v := 3) dL_decides_29 (by decide) ?_
      refine v_irem C (pc := 30) dL_decides_30 (by decide) ?_
      refine v_if_ne C (pc := 31) (tgt := 44) dL_decides_31 (by decide) (fun c69 => ?_) (fun c69 => ?_)
      · rw [if_neg c69] at h
        refine v_iload C (pc := 44) (i := 5) dL_decides_44 rfl ?_
        refine v_mask (lv' := [some (va_rf (some y64)), some (.int a1), some (.int a2), none, none, some (.int x65), none, none, none, none, none]) [true, true, true, false, false, true, false, false, false, false, false] rfl rfl ?_
        exact tbL_decides_46 E hR ht  h
      · rw [if_pos c69] at h
        refine v_iload_n C (pc := 34) (i := 3) dL_decides_34 rfl ?_
        refine v_iconst C (pc := 35) (v := 3) dL_decides_35 (by decide) ?_
        refine v_idiv C (pc := 36) dL_decides_36 (by decide) ?_
        refine v_sipush C (pc := 37) (v := 260) dL_decides_37 (by decide) ?_
        refine v_irem C (pc := 40) dL_decides_40 (by decide) ?_
        refine v_goto C (pc := 41) (tgt := 46) dL_decides_41 (by decide) ?_
        refine v_mask (lv' := [some (va_rf (some y64)), some (.int a1), some (.int a2), none, none, some (.int x65), none, none, none, none, none]) [true, true, true, false, false, true, false, false, false, false, false] rfl rfl ?_
        exact tbL_decides_46 E hR ht  h
    · rw [if_neg c68] at h
      refine v_iload C (pc := 25) (i := 5) dL_decides_25 rfl ?_
      exact v_eret (pc := 27) E rfl (nar_int _) ⟨_, rfl, h⟩ (by decide) (by decide) dL_decides_27
/-! L_does -/
abbrev rmL_does : Room := { frames := 10, cells := 20, slots := 211, locals := 222 }
def vsL_does : List Cond := wsL_does ++ hL3
def bL_does_164 (Q : hM → Int32 → Prop) (M : hM) (a0 : Option Nat) (a1 : Option Nat) (a2 : Option Nat) (a4 : Int32) : Prop :=
  wL_tells M a0 a1 a2 a4 2 (fun M11 x10 =>
  Q M11 x10)
set_option maxRecDepth 100000 in
set_option maxHeartbeats 4000000 in
theorem tbL_does_164 {κ : hKx} {M0 : hM} {sz : Nat} {Q : hM → Int32 → Prop} (E : Ce κ RL cL_does vsL_does (some .int) M0 sz (hQi Q) (fun _ _ => False) 20 211) (hR : kR κ = rmL_does) (ht : ∀ x ∈ (kc κ).exceptionTable.toList, False)  {M : hM} {a0 : Option Nat} {a1 : Option Nat} {a2 : Option Nat} {a4 : Int32}  (h : bL_does_164 Q M a0 a1 a2 a4) : VW κ 0 0 M 164 [some (va_rf a0), some (va_rf a1), some (va_rf a2), none, some (.int a4), none, none, none, none] [] := by
  unfold bL_does_164 at h
  have F := E.1
  have C := F.1
  refine v_aload_n C (pc := 164) (i := 0) dL_does_164 rfl ?_
  refine v_aload_n C (pc := 165) (i := 1) dL_does_165 rfl ?_
  refine v_aload_n C (pc := 166) (i := 2) dL_does_166 rfl ?_
  refine v_iload C (pc := 167) (i := 4) dL_does_167 rfl ?_
  refine v_iconst C (pc := 169) (v := 2) dL_does_169 (by decide) ?_
  refine v_nSC F (pc := 170) [va_rf a0, va_rf a1, va_rf a2, .int a4, .int 2] 5 (cL_tells_met (kl κ) F.2.2.2.1 (kG κ) _ h) (good_l3 gL_does_L_tells) rfl hdsL_tells rfl rfl rfl (by rw [hR]; exact ⟨Nat.le_of_ble_eq_true rfl, Nat.le_of_ble_eq_true rfl⟩) (by rw [hR]; decide) (Nat.le_of_ble_eq_true rfl) rfl dL_does_170 (hk_i fun M11 x10 h => ?_)
  exact v_eret (pc := 173) E rfl (nar_int _) ⟨_, rfl, h⟩ (by decide) (by decide) dL_does_173
def bL_does_206 (Q : hM → Int32 → Prop) (M : hM) (a0 : Option Nat) (a1 : Option Nat) (a4 : Int32) (a5 : Int32) : Prop :=
  ∃ x23, aI M 0 a1 2 = some x23 ∧
  ∃ x24, rmI a4 (x23 + 1) = some x24 ∧
  wL_show M a0 (a4 - a4 / (x23 + 1) * (x23 + 1)) (a5 - a5 / 6 * 6) (fun M26 x25 =>
  Q M26 x25)
set_option maxRecDepth 100000 in
set_option maxHeartbeats 4000000 in
theorem tbL_does_206 {κ : hKx} {M0 : hM} {sz : Nat} {Q : hM → Int32 → Prop} (E : Ce κ RL cL_does vsL_does (some .int) M0 sz (hQi Q) (fun _ _ => False) 20 211) (hR : kR κ = rmL_does) (ht : ∀ x ∈ (kc κ).exceptionTable.toList, False)  {M : hM} {a0 : Option Nat} {a1 : Option Nat} {a4 : Int32} {a5 : Int32}  (h : bL_does_206 Q M a0 a1 a4 a5) : VW κ 0 0 M 206 [some (va_rf a0), some (va_rf a1), none, none, some (.int a4), some (.int a5), none, none, none] [] := by
  unfold bL_does_206 at h
  have F := E.1
  have C := F.1
  refine v_aload_n C (pc := 206) (i := 0) dL_does_206 rfl ?_
  refine v_iload C (pc := 207) (i := 4) dL_does_207 rfl ?_
  refine v_aload_n C (pc := 209) (i := 1) dL_does_209 rfl ?_
  refine v_iconst C (pc := 210) (v := 2) dL_does_210 (by decide) ?_
  obtain ⟨x23, e23, h⟩ := h
  refine v_iald C (pc := 211) e23 dL_does_211 ?_
  refine v_iconst C (pc := 212) (v := 1) dL_does_212 (by decide) ?_
  refine v_iadd C (pc := 213) dL_does_213 ?_
  obtain ⟨x24, e24, h⟩ := h
  obtain ⟨hde24, rfl⟩ := rmI_inv e24
  refine v_irem C (pc := 214) dL_does_214 hde24 ?_
  refine v_iload C (pc := 215) (i := 5) dL_does_215 rfl ?_
  refine v_bipush C (pc := 217) (v := 6) dL_does_217 (by decide) ?_
  refine v_irem C (pc := 219) dL_does_219 (by decide) ?_
  refine v_nS F (pc := 220) [va_rf a0, .int (a4 - a4 / (x23 + 1) * (x23 + 1)), .int (a5 - a5 / 6 * 6)] 3 (cL_show_met (kl κ) F.2.2.2.1 (kG κ) _ h) (good_l3 gL_does_L_show) rfl hdsL_show rfl rfl rfl (by rw [hR]; exact ⟨Nat.le_of_ble_eq_true rfl, Nat.le_of_ble_eq_true rfl⟩) (by rw [hR]; decide) (Nat.le_of_ble_eq_true rfl) rfl dL_does_220 (hk_i fun M26 x25 h => ?_)
  exact v_eret (pc := 223) E rfl (nar_int _) ⟨_, rfl, h⟩ (by decide) (by decide) dL_does_223
def bL_does_304 (Q : hM → Int32 → Prop) (M : hM) (a0 : Option Nat) (a5 : Int32) (a6 : Int32) (a7 : Int32) : Prop :=
  wL_decides M a0 a6 a7 a5 0 (fun M54 x53 =>
  Q M54 x53)
set_option maxRecDepth 100000 in
set_option maxHeartbeats 4000000 in
theorem tbL_does_304 {κ : hKx} {M0 : hM} {sz : Nat} {Q : hM → Int32 → Prop} (E : Ce κ RL cL_does vsL_does (some .int) M0 sz (hQi Q) (fun _ _ => False) 20 211) (hR : kR κ = rmL_does) (ht : ∀ x ∈ (kc κ).exceptionTable.toList, False)  {M : hM} {a0 : Option Nat} {a5 : Int32} {a6 : Int32} {a7 : Int32}  (h : bL_does_304 Q M a0 a5 a6 a7) : VW κ 0 0 M 304 [some (va_rf a0), none, none, none, none, some (.int a5), some (.int a6), some (.int a7), none] [] := by
  unfold bL_does_304 at h
  have F := E.1
  have C := F.1
  refine v_aload_n C (pc := 304) (i := 0) dL_does_304 rfl ?_
  refine v_iload C (pc := 305) (i := 6) dL_does_305 rfl ?_
  refine v_iload C (pc := 307) (i := 7) dL_does_307 rfl ?_
  refine v_iload C (pc := 309) (i := 5) dL_does_309 rfl ?_
  refine v_iconst C (pc := 311) (v := 0) dL_does_311 (by decide) ?_
  refine v_nSC F (pc := 312) [va_rf a0, .int a6, .int a7, .int a5, .int 0] 5 (cL_decides_met (kl κ) F.2.2.2.1 (kG κ) _ h) (good_l3 gL_does_L_decides) rfl hdsL_decides rfl rfl rfl (by rw [hR]; exact ⟨Nat.le_of_ble_eq_true rfl, Nat.le_of_ble_eq_true rfl⟩) (by rw [hR]; decide) (Nat.le_of_ble_eq_true rfl) rfl dL_does_312 (hk_i fun M54 x53 h => ?_)
  exact v_eret (pc := 315) E rfl (nar_int _) ⟨_, rfl, h⟩ (by decide) (by decide) dL_does_315
def bL_does_316 (Q : hM → Int32 → Prop) (M : hM) (a0 : Option Nat) (a5 : Int32) (a6 : Int32) (a7 : Int32) : Prop :=
  wL_decides M a0 a6 a7 a5 1 (fun M59 x58 =>
  Q M59 x58)
set_option maxRecDepth 100000 in
set_option maxHeartbeats 4000000 in
theorem tbL_does_316 {κ : hKx} {M0 : hM} {sz : Nat} {Q : hM → Int32 → Prop} (E : Ce κ RL cL_does vsL_does (some .int) M0 sz (hQi Q) (fun _ _ => False) 20 211) (hR : kR κ = rmL_does) (ht : ∀ x ∈ (kc κ).exceptionTable.toList, False)  {M : hM} {a0 : Option Nat} {a5 : Int32} {a6 : Int32} {a7 : Int32}  (h : bL_does_316 Q M a0 a5 a6 a7) : VW κ 0 0 M 316 [some (va_rf a0), none, none, none, none, some (.int a5), some (.int a6), some (.int a7), none] [] := by
  unfold bL_does_316 at h
  have F := E.1
  have C := F.1
  refine v_aload_n C (pc := 316) (i := 0) dL_does_316 rfl ?_
  refine v_iload C (pc := 317) (i := 6) dL_does_317 rfl ?_
  refine v_iload C (pc := 319) (i := 7) dL_does_319 rfl ?_
  refine v_iload C (pc := 321) (i := 5) dL_does_321 rfl ?_
  refine v_iconst C (pc := 323) (v := 1) dL_does_323 (by decide) ?_
  refine v_nSC F (pc := 324) [va_rf a0, .int a6, .int a7, .int a5, .int 1] 5 (cL_decides_met (kl κ) F.2.2.2.1 (kG κ) _ h) (good_l3 gL_does_L_decides) rfl hdsL_decides rfl rfl rfl (by rw [hR]; exact ⟨Nat.le_of_ble_eq_true rfl, Nat.le_of_ble_eq_true rfl⟩) (by rw [hR]; decide) (Nat.le_of_ble_eq_true rfl) rfl dL_does_324 (hk_i fun M59 x58 h => ?_)
  exact v_eret (pc := 327) E rfl (nar_int _) ⟨_, rfl, h⟩ (by decide) (by decide) dL_does_327
def wL_does (M : hM) (a0 : Option Nat) (a1 : Option Nat) (a2 : Option Nat) (a3 : Int32) (Q : hM → Int32 → Prop) : Prop :=
  ∃ x1, aI M 0 a1 1 = some x1 ∧
  ∃ x2, rmI (a3 / 26) (x1 + 1) = some x2 ∧
  if ((a3 - a3 / 26 * 26) : Int32) = 0 then (
    wL_tells M a0 a1 a2 (a3 / 26) 0 (fun M5 x4 =>
    Q M5 x4)
  ) else (
    if ((a3 - a3 / 26 * 26) : Int32) = 1 then (
      wL_tells M a0 a1 a2 (a3 / 26) 1 (fun M8 x7 =>
      Q M8 x7)
    ) else (
      if ((a3 - a3 / 26 * 26) : Int32) = 2 then (
        bL_does_164 Q M a0 a1 a2 (a3 / 26)
      ) else (
        if ((a3 - a3 / 26 * 26) : Int32) = 3 then (
          bL_does_164 Q M a0 a1 a2 (a3 / 26)
        ) else (
          if ((a3 - a3 / 26 * 26) : Int32) = 4 then (
            bL_does_164 Q M a0 a1 a2 (a3 / 26)
          ) else (
            if ((a3 - a3 / 26 * 26) : Int32) = 5 then (
              wL_exclude M a0 ((a3 / 26) - (a3 / 26) / 9 * 9) (((a3 / 26) / 30) - ((a3 / 26) / 30) / 9 * 9) (fun M16 x15 =>
              Q M16 x15)
            ) else (
              if ((a3 - a3 / 26 * 26) : Int32) = 6 then (
                ∃ x18, aI M 0 a1 2 = some x18 ∧
                ∃ x19, rmI (a3 / 26) (x18 + 1) = some x19 ∧
                wL_admit M a0 ((a3 / 26) - (a3 / 26) / (x18 + 1) * (x18 + 1)) (fun M21 x20 =>
                Q M21 x20)
              ) else (
                if ((a3 - a3 / 26 * 26) : Int32) = 7 then (
                  bL_does_206 Q M a0 a1 (a3 / 26) ((a3 / 26) / 30)
                ) else (
                  if ((a3 - a3 / 26 * 26) : Int32) = 8 then (
                    bL_does_206 Q M a0 a1 (a3 / 26) ((a3 / 26) / 30)
                  ) else (
                    if ((a3 - a3 / 26 * 26) : Int32) = 9 then (
                      bL_does_206 Q M a0 a1 (a3 / 26) ((a3 / 26) / 30)
                    ) else (
                      if ((a3 - a3 / 26 * 26) : Int32) = 10 then (
                        ∃ x30, aI M 0 a1 2 = some x30 ∧
                        ∃ x31, rmI (a3 / 26) (x30 + 1) = some x31 ∧
                        wL_withhold M a0 ((a3 / 26) - (a3 / 26) / (x30 + 1) * (x30 + 1)) (fun M33 x32 =>
                        Q M33 x32)
                      ) else (
                        if ((a3 - a3 / 26 * 26) : Int32) = 11 then (
                          wL_arrest M a0 ((a3 / 26) - (a3 / 26) / (x1 + 1) * (x1 + 1)) (((a3 / 26) / 6) - ((a3 / 26) / 6) / 5 * 5) (fun M36 x35 =>
                          Q M36 x35)
                        ) else (
                          if ((a3 - a3 / 26 * 26) : Int32) = 12 then (
                            wL_extend M a0 ((a3 / 26) - (a3 / 26) / (x1 + 1) * (x1 + 1)) (((a3 / 26) / 6) - ((a3 / 26) / 6) / 5 * 5) (((a3 / 26) / 30) - ((a3 / 26) / 30) / 4 * 4) (fun M39 x38 =>
                            Q M39 x38)
                          ) else (
                            if ((a3 - a3 / 26 * 26) : Int32) = 13 then (
                              if ((((a3 / 26) / 30) - ((a3 / 26) / 30) / 3 * 3) : Int32) ≤ 0 then (
                                wL_release M a0 ((a3 / 26) - (a3 / 26) / (x1 + 1) * (x1 + 1)) (((a3 / 26) / 6) - ((a3 / 26) / 6) / 5 * 5) (fun M43 x42 =>
                                Q M43 x42)
                              ) else (
                                wL_arrest M a0 ((a3 / 26) - (a3 / 26) / (x1 + 1) * (x1 + 1)) (((a3 / 26) / 6) - ((a3 / 26) / 6) / 5 * 5) (fun M45 x44 =>
                                Q M45 x44)
                              )
                            ) else (
                              if ((a3 - a3 / 26 * 26) : Int32) = 14 then (
                                wL_drop M a0 ((a3 / 26) - (a3 / 26) / (x1 + 1) * (x1 + 1)) (((a3 / 26) / 6) - ((a3 / 26) / 6) / 5 * 5) (fun M48 x47 =>
                                Q M48 x47)
                              ) else (
                                if ((a3 - a3 / 26 * 26) : Int32) = 15 then (
                                  wL_review M a0 ((a3 / 26) - (a3 / 26) / (x1 + 1) * (x1 + 1)) (((a3 / 26) / 6) - ((a3 / 26) / 6) / 5 * 5) (fun M51 x50 =>
                                  Q M51 x50)
                                ) else (
                                  if ((a3 - a3 / 26 * 26) : Int32) = 16 then (
                                    bL_does_304 Q M a0 ((a3 / 26) / 30) ((a3 / 26) - (a3 / 26) / (x1 + 1) * (x1 + 1)) (((a3 / 26) / 6) - ((a3 / 26) / 6) / 5 * 5)
                                  ) else (
                                    if ((a3 - a3 / 26 * 26) : Int32) = 17 then (
                                      bL_does_304 Q M a0 ((a3 / 26) / 30) ((a3 / 26) - (a3 / 26) / (x1 + 1) * (x1 + 1)) (((a3 / 26) / 6) - ((a3 / 26) / 6) / 5 * 5)
                                    ) else (
                                      if ((a3 - a3 / 26 * 26) : Int32) = 18 then (
                                        bL_does_304 Q M a0 ((a3 / 26) / 30) ((a3 / 26) - (a3 / 26) / (x1 + 1) * (x1 + 1)) (((a3 / 26) / 6) - ((a3 / 26) / 6) / 5 * 5)
                                      ) else (
                                        if ((a3 - a3 / 26 * 26) : Int32) = 19 then (
                                          bL_does_316 Q M a0 ((a3 / 26) / 30) ((a3 / 26) - (a3 / 26) / (x1 + 1) * (x1 + 1)) (((a3 / 26) / 6) - ((a3 / 26) / 6) / 5 * 5)
                                        ) else (
                                          if ((a3 - a3 / 26 * 26) : Int32) = 20 then (
                                            bL_does_316 Q M a0 ((a3 / 26) / 30) ((a3 / 26) - (a3 / 26) / (x1 + 1) * (x1 + 1)) (((a3 / 26) / 6) - ((a3 / 26) / 6) / 5 * 5)
                                          ) else (
                                            if ((a3 - a3 / 26 * 26) : Int32) = 21 then (
                                              wL_decides M a0 ((a3 / 26) - (a3 / 26) / (x1 + 1) * (x1 + 1)) (((a3 / 26) / 6) - ((a3 / 26) / 6) / 5 * 5) ((a3 / 26) / 30) 2 (fun M63 x62 =>
                                              Q M63 x62)
                                            ) else (
                                              if ((a3 - a3 / 26 * 26) : Int32) = 22 then (
                                                wL_pass M a0 (((a3 / 26) / 30) - ((a3 / 26) / 30) / 40 * 40) (fun M66 x65 =>
                                                Q M66 x65)
                                              ) else (
                                                  wL_pass M a0 (((a3 / 26) / 30) - ((a3 / 26) / 30) / 5 * 5) (fun M68 x67 =>
                                                  Q M68 x67)
                                              )
                                            )
                                          )
                                        )
                                      )
                                    )
                                  )
                                )
                              )
                            )
                          )
                        )
                      )
                    )
                  )
                )
              )
            )
          )
        )
      )
    )
  )
set_option maxRecDepth 100000 in
set_option maxHeartbeats 4000000 in
theorem cL_does_met (l : Launch) (hfl : l.stackTraces = false) (G : hG) (M : hM) {a0 : Option Nat} {a1 : Option Nat} {a2 : Option Nat} {a3 : Int32} {Q : hM → Int32 → Prop} (h : wL_does M a0 a1 a2 a3 Q) : hEMet l yL_does vsL_does rmL_does [va_rf a0, va_rf a1, va_rf a2, .int a3] G M (hQi Q) (fun _ _ => False) 20 211 := by
  refine he_entry (own := RL) (cc := cL_does) (maxL := 9) (ret := (some .int)) (lv := [some (va_rf a0), some (va_rf a1), some (va_rf a2), some (.int a3), none, none, none, none, none]) hfl (by decide) rfl rfl (hcc (rf_cat _) (hcc (rf_cat _) (hcc (rf_cat _) (hcc rfl hc0)))) (Nat.le_of_ble_eq_true rfl) rfl (fun κ sz hG hl hR E ht hn => ?_)
  subst hG; subst hl
  unfold wL_does at h
  have F := E.1
  have C := F.1
  refine v_iload_n C (pc := 0) (i := 3) dL_does_0 rfl ?_
  refine v_bipush C (pc := 1) (v := 26) dL_does_1 (by decide) ?_
  refine v_idiv C (pc := 3) dL_does_3 (by decide) ?_
  refine v_istore C (pc := 4) (i := 4) (lv' := [some (va_rf a0), some (va_rf a1), some (va_rf a2), some (.int a3), some (.int (a3 / 26)), none, none, none, none]) dL_does_4 rfl (lw_bi (j := 3) rfl) rfl ?_
  refine v_iload C (pc := 6) (i := 4) dL_does_6 rfl ?_
  refine v_bipush C (pc := 8) (v := 30) dL_does_8 (by decide) ?_
  refine v_idiv C (pc := 10) dL_does_10 (by decide) ?_
  refine v_istore C (pc := 11) (i := 5) (lv' := [some (va_rf a0), some (va_rf a1), some (va_rf a2), some (.int a3), some (.int (a3 / 26)), some (.int ((a3 / 26) / 30)), none, none, none]) dL_does_11 rfl (lw_bi (j := 4) rfl) rfl ?_
  refine v_iload C (pc := 13) (i := 4) dL_does_13 rfl ?_
  refine v_aload_n C (pc := 15) (i := 1) dL_does_15 rfl ?_
  refine v_iconst C (pc := 16) (v := 1) dL_does_16 (by decide) ?_
  obtain ⟨x1, e1, h⟩ := h
  refine v_iald C (pc := 17) e1 dL_does_17 ?_
  refine v_iconst C (pc := 18) (v := 1) dL_does_18 (by decide) ?_
  refine v_iadd C (pc := 19) dL_does_19 ?_
  obtain ⟨x2, e2, h⟩ := h
  obtain ⟨hde2, rfl⟩ := rmI_inv e2
  refine v_irem C (pc := 20) dL_does_20 hde2 ?_
  refine v_istore C (pc := 21) (i := 6) (lv' := [some (va_rf a0), some (va_rf a1), some (va_rf a2), some (.int a3), some (.int (a3 / 26)), some (.int ((a3 / 26) / 30)), some (.int ((a3 / 26) - (a3 / 26) / (x1 + 1) * (x1 + 1))), none, none]) dL_does_21 rfl (lw_bi (j := 5) rfl) rfl ?_
  refine v_iload C (pc := 23) (i := 4) dL_does_23 rfl ?_
  refine v_bipush C (pc := 25) (v := 6) dL_does_25 (by decide) ?_
  refine v_idiv C (pc := 27) dL_does_27 (by decide) ?_
  refine v_iconst C (pc := 28) (v := 5) dL_does_28 (by decide) ?_
  refine v_irem C (pc := 29) dL_does_29 (by decide) ?_
  refine v_istore C (pc := 30) (i := 7) (lv' := [some (va_rf a0), some (va_rf a1), some (va_rf a2), some (.int a3), some (.int (a3 / 26)), some (.int ((a3 / 26) / 30)), some (.int ((a3 / 26) - (a3 / 26) / (x1 + 1) * (x1 + 1))), some (.int (((a3 / 26) / 6) - ((a3 / 26) / 6) / 5 * 5)), none]) dL_does_30 rfl (lw_bi (j := 6) rfl) rfl ?_
  refine v_iload_n C (pc := 32) (i := 3) dL_does_32 rfl ?_
  refine v_bipush C (pc := 33) (v := 26) dL_does_33 (by decide) ?_
  refine v_irem C (pc := 35) dL_does_35 (by decide) ?_
  by_cases c3 : ((a3 - a3 / 26 * 26) : Int32) = 0
  · rw [if_pos c3] at h
    refine v_tabIn C (pc := 36) (tgt := 144) dL_does_36 c3 (by decide) (by decide) rfl (by decide) ?_
    refine v_aload_n C (pc := 144) (i := 0) dL_does_144 rfl ?_
    refine v_aload_n C (pc := 145) (i := 1) dL_does_145 rfl ?_
    refine v_aload_n C (pc := 146) (i := 2) dL_does_146 rfl ?_
    refine v_iload C (pc := 147) (i := 4) dL_does_147 rfl ?_
    refine v_iconst C (pc := 149) (v := 0) dL_does_149 (by decide) ?_
    refine v_nSC F (pc := 150) [va_rf a0, va_rf a1, va_rf a2, .int (a3 / 26), .int 0] 5 (cL_tells_met (kl κ) F.2.2.2.1 (kG κ) _ h) (good_l3 gL_does_L_tells) rfl hdsL_tells rfl rfl rfl (by rw [hR]; exact ⟨Nat.le_of_ble_eq_true rfl, Nat.le_of_ble_eq_true rfl⟩) (by rw [hR]; decide) (Nat.le_of_ble_eq_true rfl) rfl dL_does_150 (hk_i fun M5 x4 h => ?_)
    exact v_eret (pc := 153) E rfl (nar_int _) ⟨_, rfl, h⟩ (by decide) (by decide) dL_does_153
  · rw [if_neg c3] at h
    by_cases c6 : ((a3 - a3 / 26 * 26) : Int32) = 1
    · rw [if_pos c6] at h
      refine v_tabIn C (pc := 36) (tgt := 154) dL_does_36 c6 (by decide) (by decide) rfl (by decide) ?_
      refine v_aload_n C (pc := 154) (i := 0) dL_does_154 rfl ?_
      refine v_aload_n C (pc := 155) (i := 1) dL_does_155 rfl ?_
      refine v_aload_n C (pc := 156) (i := 2) dL_does_156 rfl ?_
      refine v_iload C (pc := 157) (i := 4) dL_does_157 rfl ?_
      refine v_iconst C (pc := 159) (v := 1) dL_does_159 (by decide) ?_
      refine v_nSC F (pc := 160) [va_rf a0, va_rf a1, va_rf a2, .int (a3 / 26), .int 1] 5 (cL_tells_met (kl κ) F.2.2.2.1 (kG κ) _ h) (good_l3 gL_does_L_tells) rfl hdsL_tells rfl rfl rfl (by rw [hR]; exact ⟨Nat.le_of_ble_eq_true rfl, Nat.le_of_ble_eq_true rfl⟩) (by rw [hR]; decide) (Nat.le_of_ble_eq_true rfl) rfl dL_does_160 (hk_i fun M8 x7 h => ?_)
      exact v_eret (pc := 163) E rfl (nar_int _) ⟨_, rfl, h⟩ (by decide) (by decide) dL_does_163
    · rw [if_neg c6] at h
      by_cases c9 : ((a3 - a3 / 26 * 26) : Int32) = 2
      · rw [if_pos c9] at h
        refine v_tabIn C (pc := 36) (tgt := 164) dL_does_36 c9 (by decide) (by decide) rfl (by decide) ?_
        refine v_mask (lv' := [some (va_rf a0), some (va_rf a1), some (va_rf a2), none, some (.int (a3 / 26)), none, none, none, none]) [true, true, true, false, true, false, false, false, false] rfl rfl ?_
        exact tbL_does_164 E hR ht  h
      · rw [if_neg c9] at h
        by_cases c12 : ((a3 - a3 / 26 * 26) : Int32) = 3
        · rw [if_pos c12] at h
          refine v_tabIn C (pc := 36) (tgt := 164) dL_does_36 c12 (by decide) (by decide) rfl (by decide) ?_
          refine v_mask (lv' := [some (va_rf a0), some (va_rf a1), some (va_rf a2), none, some (.int (a3 / 26)), none, none, none, none]) [true, true, true, false, true, false, false, false, false] rfl rfl ?_
          exact tbL_does_164 E hR ht  h
        · rw [if_neg c12] at h
          by_cases c13 : ((a3 - a3 / 26 * 26) : Int32) = 4
          · rw [if_pos c13] at h
            refine v_tabIn C (pc := 36) (tgt := 164) dL_does_36 c13 (by decide) (by decide) rfl (by decide) ?_
            refine v_mask (lv' := [some (va_rf a0), some (va_rf a1), some (va_rf a2), none, some (.int (a3 / 26)), none, none, none, none]) [true, true, true, false, true, false, false, false, false] rfl rfl ?_
            exact tbL_does_164 E hR ht  h
          · rw [if_neg c13] at h
            by_cases c14 : ((a3 - a3 / 26 * 26) : Int32) = 5
            · rw [if_pos c14] at h
              refine v_tabIn C (pc := 36) (tgt := 174) dL_does_36 c14 (by decide) (by decide) rfl (by decide) ?_
              refine v_aload_n C (pc := 174) (i := 0) dL_does_174 rfl ?_
              refine v_iload C (pc := 175) (i := 4) dL_does_175 rfl ?_
              refine v_bipush C (pc := 177) (v := 9) dL_does_177 (by decide) ?_
              refine v_irem C (pc := 179) dL_does_179 (by decide) ?_
              refine v_iload C (pc := 180) (i := 5) dL_does_180 rfl ?_
              refine v_bipush C (pc := 182) (v := 9) dL_does_182 (by decide) ?_
              refine v_irem C (pc := 184) dL_does_184 (by decide) ?_
              refine v_nS F (pc := 185) [va_rf a0, .int ((a3 / 26) - (a3 / 26) / 9 * 9), .int (((a3 / 26) / 30) - ((a3 / 26) / 30) / 9 * 9)] 3 (cL_exclude_met (kl κ) F.2.2.2.1 (kG κ) _ h) (good_l3 gL_does_L_exclude) rfl hdsL_exclude rfl rfl rfl (by rw [hR]; exact ⟨Nat.le_of_ble_eq_true rfl, Nat.le_of_ble_eq_true rfl⟩) (by rw [hR]; decide) (Nat.le_of_ble_eq_true rfl) rfl dL_does_185 (hk_i fun M16 x15 h => ?_)
              refine v_istore C (pc := 188) (i := 8) (lv' := [some (va_rf a0), some (va_rf a1), some (va_rf a2), some (.int a3), some (.int (a3 / 26)), some (.int ((a3 / 26) / 30)), some (.int ((a3 / 26) - (a3 / 26) / (x1 + 1) * (x1 + 1))), some (.int (((a3 / 26) / 6) - ((a3 / 26) / 6) / 5 * 5)), some (.int x15)]) dL_does_188 rfl (lw_bi (j := 7) rfl) rfl ?_
              refine v_iload C (pc := 190) (i := 8) dL_does_190 rfl ?_
              exact v_eret (pc := 192) E rfl (nar_int _) ⟨_, rfl, h⟩ (by decide) (by decide) dL_does_192
            · rw [if_neg c14] at h
              by_cases c17 : ((a3 - a3 / 26 * 26) : Int32) = 6
              · rw [if_pos c17] at h
                refine v_tabIn C (pc := 36) (tgt := 193) dL_does_36 c17 (by decide) (by decide) rfl (by decide) ?_
                refine v_aload_n C (pc := 193) (i := 0) dL_does_193 rfl ?_
                refine v_iload C (pc := 194) (i := 4) dL_does_194 rfl ?_
                refine v_aload_n C (pc := 196) (i := 1) dL_does_196 rfl ?_
                refine v_iconst C (pc := 197) (v := 2) dL_does_197 (by decide) ?_
                obtain ⟨x18, e18, h⟩ := h
                refine v_iald C (pc := 198) e18 dL_does_198 ?_
                refine v_iconst C (pc := 199) (v := 1) dL_does_199 (by decide) ?_
                refine v_iadd C (pc := 200) dL_does_200 ?_
                obtain ⟨x19, e19, h⟩ := h
                obtain ⟨hde19, rfl⟩ := rmI_inv e19
                refine v_irem C (pc := 201) dL_does_201 hde19 ?_
                refine v_nS F (pc := 202) [va_rf a0, .int ((a3 / 26) - (a3 / 26) / (x18 + 1) * (x18 + 1))] 2 (cL_admit_met (kl κ) F.2.2.2.1 (kG κ) _ h) (good_l3 gL_does_L_admit) rfl hdsL_admit rfl rfl rfl (by rw [hR]; exact ⟨Nat.le_of_ble_eq_true rfl, Nat.le_of_ble_eq_true rfl⟩) (by rw [hR]; decide) (Nat.le_of_ble_eq_true rfl) rfl dL_does_202 (hk_i fun M21 x20 h => ?_)
                exact v_eret (pc := 205) E rfl (nar_int _) ⟨_, rfl, h⟩ (by decide) (by decide) dL_does_205
              · rw [if_neg c17] at h
                by_cases c22 : ((a3 - a3 / 26 * 26) : Int32) = 7
                · rw [if_pos c22] at h
                  refine v_tabIn C (pc := 36) (tgt := 206) dL_does_36 c22 (by decide) (by decide) rfl (by decide) ?_
                  refine v_mask (lv' := [some (va_rf a0), some (va_rf a1), none, none, some (.int (a3 / 26)), some (.int ((a3 / 26) / 30)), none, none, none]) [true, true, false, false, true, true, false, false, false] rfl rfl ?_
                  exact tbL_does_206 E hR ht  h
                · rw [if_neg c22] at h
                  by_cases c27 : ((a3 - a3 / 26 * 26) : Int32) = 8
                  · rw [if_pos c27] at h
                    refine v_tabIn C (pc := 36) (tgt := 206) dL_does_36 c27 (by decide) (by decide) rfl (by decide) ?_
                    refine v_mask (lv' := [some (va_rf a0), some (va_rf a1), none, none, some (.int (a3 / 26)), some (.int ((a3 / 26) / 30)), none, none, none]) [true, true, false, false, true, true, false, false, false] rfl rfl ?_
                    exact tbL_does_206 E hR ht  h
                  · rw [if_neg c27] at h
                    by_cases c28 : ((a3 - a3 / 26 * 26) : Int32) = 9
                    · rw [if_pos c28] at h
                      refine v_tabIn C (pc := 36) (tgt := 206) dL_does_36 c28 (by decide) (by decide) rfl (by decide) ?_
                      refine v_mask (lv' := [some (va_rf a0), some (va_rf a1), none, none, some (.int (a3 / 26)), some (.int ((a3 / 26) / 30)), none, none, none]) [true, true, false, false, true, true, false, false, false] rfl rfl ?_
                      exact tbL_does_206 E hR ht  h
                    · rw [if_neg c28] at h
                      by_cases c29 : ((a3 - a3 / 26 * 26) : Int32) = 10
                      · rw [if_pos c29] at h
                        refine v_tabIn C (pc := 36) (tgt := 224) dL_does_36 c29 (by decide) (by decide) rfl (by decide) ?_
                        refine v_aload_n C (pc := 224) (i := 0) dL_does_224 rfl ?_
                        refine v_iload C (pc := 225) (i := 4) dL_does_225 rfl ?_
                        refine v_aload_n C (pc := 227) (i := 1) dL_does_227 rfl ?_
                        refine v_iconst C (pc := 228) (v := 2) dL_does_228 (by decide) ?_
                        obtain ⟨x30, e30, h⟩ := h
                        refine v_iald C (pc := 229) e30 dL_does_229 ?_
                        refine v_iconst C (pc := 230) (v := 1) dL_does_230 (by decide) ?_
                        refine v_iadd C (pc := 231) dL_does_231 ?_
                        obtain ⟨x31, e31, h⟩ := h
                        obtain ⟨hde31, rfl⟩ := rmI_inv e31
                        refine v_irem C (pc := 232) dL_does_232 hde31 ?_
                        refine v_nS F (pc := 233) [va_rf a0, .int ((a3 / 26) - (a3 / 26) / (x30 + 1) * (x30 + 1))] 2 (cL_withhold_met (kl κ) F.2.2.2.1 (kG κ) _ h) (good_l3 gL_does_L_withhold) rfl hdsL_withhold rfl rfl rfl (by rw [hR]; exact ⟨Nat.le_of_ble_eq_true rfl, Nat.le_of_ble_eq_true rfl⟩) (by rw [hR]; decide) (Nat.le_of_ble_eq_true rfl) rfl dL_does_233 (hk_i fun M33 x32 h => ?_)
                        exact v_eret (pc := 236) E rfl (nar_int _) ⟨_, rfl, h⟩ (by decide) (by decide) dL_does_236
                      · rw [if_neg c29] at h
                        by_cases c34 : ((a3 - a3 / 26 * 26) : Int32) = 11
                        · rw [if_pos c34] at h
                          refine v_tabIn C (pc := 36) (tgt := 237) dL_does_36 c34 (by decide) (by decide) rfl (by decide) ?_
                          refine v_aload_n C (pc := 237) (i := 0) dL_does_237 rfl ?_
                          refine v_iload C (pc := 238) (i := 6) dL_does_238 rfl ?_
                          refine v_iload C (pc := 240) (i := 7) dL_does_240 rfl ?_
                          refine v_nS F (pc := 242) [va_rf a0, .int ((a3 / 26) - (a3 / 26) / (x1 + 1) * (x1 + 1)), .int (((a3 / 26) / 6) - ((a3 / 26) / 6) / 5 * 5)] 3 (cL_arrest_met (kl κ) F.2.2.2.1 (kG κ) _ h) (good_l3 gL_does_L_arrest) rfl hdsL_arrest rfl rfl rfl (by rw [hR]; exact ⟨Nat.le_of_ble_eq_true rfl, Nat.le_of_ble_eq_true rfl⟩) (by rw [hR]; decide) (Nat.le_of_ble_eq_true rfl) rfl dL_does_242 (hk_i fun M36 x35 h => ?_)
                          exact v_eret (pc := 245) E rfl (nar_int _) ⟨_, rfl, h⟩ (by decide) (by decide) dL_does_245
                        · rw [if_neg c34] at h
                          by_cases c37 : ((a3 - a3 / 26 * 26) : Int32) = 12
                          · rw [if_pos c37] at h
                            refine v_tabIn C (pc := 36) (tgt := 246) dL_does_36 c37 (by decide) (by decide) rfl (by decide) ?_
                            refine v_aload_n C (pc := 246) (i := 0) dL_does_246 rfl ?_
                            refine v_iload C (pc := 247) (i := 6) dL_does_247 rfl ?_
                            refine v_iload C (pc := 249) (i := 7) dL_does_249 rfl ?_
                            refine v_iload C (pc := 251) (i := 5) dL_does_251 rfl ?_
                            refine v_iconst C (pc := 253) (v := 4) dL_does_253 (by decide) ?_
                            refine v_irem C (pc := 254) dL_does_254 (by decide) ?_
                            refine v_nS F (pc := 255) [va_rf a0, .int ((a3 / 26) - (a3 / 26) / (x1 + 1) * (x1 + 1)), .int (((a3 / 26) / 6) - ((a3 / 26) / 6) / 5 * 5), .int (((a3 / 26) / 30) - ((a3 / 26) / 30) / 4 * 4)] 4 (cL_extend_met (kl κ) F.2.2.2.1 (kG κ) _ h) (good_l3 gL_does_L_extend) rfl hdsL_extend rfl rfl rfl (by rw [hR]; exact ⟨Nat.le_of_ble_eq_true rfl, Nat.le_of_ble_eq_true rfl⟩) (by rw [hR]; decide) (Nat.le_of_ble_eq_true rfl) rfl dL_does_255 (hk_i fun M39 x38 h => ?_)
                            exact v_eret (pc := 258) E rfl (nar_int _) ⟨_, rfl, h⟩ (by decide) (by decide) dL_does_258
                          · rw [if_neg c37] at h
                            by_cases c40 : ((a3 - a3 / 26 * 26) : Int32) = 13
                            · rw [if_pos c40] at h
                              refine v_tabIn C (pc := 36) (tgt := 259) dL_does_36 c40 (by decide) (by decide) rfl (by decide) ?_
                              refine v_iload C (pc := 259) (i := 5) dL_does_259 rfl ?_
                              refine v_iconst C (pc := 261) (v := 3) dL_does_261 (by decide) ?_
                              refine v_irem C (pc := 262) dL_does_262 (by decide) ?_
                              refine v_if_le C (pc := 263) (tgt := 277) dL_does_263 (by decide) (fun c41 => ?_) (fun c41 => ?_)
                              · rw [if_pos c41] at h
                                refine v_aload_n C (pc := 277) (i := 0) dL_does_277 rfl ?_
                                refine v_iload C (pc := 278) (i := 6) dL_does_278 rfl ?_
                                refine v_iload C (pc := 280) (i := 7) dL_does_280 rfl ?_
                                refine v_nS F (pc := 282) [va_rf a0, .int ((a3 / 26) - (a3 / 26) / (x1 + 1) * (x1 + 1)), .int (((a3 / 26) / 6) - ((a3 / 26) / 6) / 5 * 5)] 3 (cL_release_met (kl κ) F.2.2.2.1 (kG κ) _ h) (good_l3 gL_does_L_release) rfl hdsL_release rfl rfl rfl (by rw [hR]; exact ⟨Nat.le_of_ble_eq_true rfl, Nat.le_of_ble_eq_true rfl⟩) (by rw [hR]; decide) (Nat.le_of_ble_eq_true rfl) rfl dL_does_282 (hk_i fun M43 x42 h => ?_)
                                exact v_eret (pc := 285) E rfl (nar_int _) ⟨_, rfl, h⟩ (by decide) (by decide) dL_does_285
                              · rw [if_neg c41] at h
                                refine v_aload_n C (pc := 266) (i := 0) dL_does_266 rfl ?_
                                refine v_iload C (pc := 267) (i := 6) dL_does_267 rfl ?_
                                refine v_iload C (pc := 269) (i := 7) dL_does_269 rfl ?_
                                refine v_nS F (pc := 271) [va_rf a0, .int ((a3 / 26) - (a3 / 26) / (x1 + 1) * (x1 + 1)), .int (((a3 / 26) / 6) - ((a3 / 26) / 6) / 5 * 5)] 3 (cL_arrest_met (kl κ) F.2.2.2.1 (kG κ) _ h) (good_l3 gL_does_L_arrest) rfl hdsL_arrest rfl rfl rfl (by rw [hR]; exact ⟨Nat.le_of_ble_eq_true rfl, Nat.le_of_ble_eq_true rfl⟩) (by rw [hR]; decide) (Nat.le_of_ble_eq_true rfl) rfl dL_does_271 (hk_i fun M45 x44 h => ?_)
                                refine v_goto C (pc := 274) (tgt := 285) dL_does_274 (by decide) ?_
                                exact v_eret (pc := 285) E rfl (nar_int _) ⟨_, rfl, h⟩ (by decide) (by decide) dL_does_285
                            · rw [if_neg c40] at h
                              by_cases c46 : ((a3 - a3 / 26 * 26) : Int32) = 14
                              · rw [if_pos c46] at h
                                refine v_tabIn C (pc := 36) (tgt := 286) dL_does_36 c46 (by decide) (by decide) rfl (by decide) ?_
                                refine v_aload_n C (pc := 286) (i := 0) dL_does_286 rfl ?_
                                refine v_iload C (pc := 287) (i := 6) dL_does_287 rfl ?_
                                refine v_iload C (pc := 289) (i := 7) dL_does_289 rfl ?_
                                refine v_nS F (pc := 291) [va_rf a0, .int ((a3 / 26) - (a3 / 26) / (x1 + 1) * (x1 + 1)), .int (((a3 / 26) / 6) - ((a3 / 26) / 6) / 5 * 5)] 3 (cL_drop_met (kl κ) F.2.2.2.1 (kG κ) _ h) (good_l3 gL_does_L_drop) rfl hdsL_drop rfl rfl rfl (by rw [hR]; exact ⟨Nat.le_of_ble_eq_true rfl, Nat.le_of_ble_eq_true rfl⟩) (by rw [hR]; decide) (Nat.le_of_ble_eq_true rfl) rfl dL_does_291 (hk_i fun M48 x47 h => ?_)
                                exact v_eret (pc := 294) E rfl (nar_int _) ⟨_, rfl, h⟩ (by decide) (by decide) dL_does_294
                              · rw [if_neg c46] at h
                                by_cases c49 : ((a3 - a3 / 26 * 26) : Int32) = 15
                                · rw [if_pos c49] at h
                                  refine v_tabIn C (pc := 36) (tgt := 295) dL_does_36 c49 (by decide) (by decide) rfl (by decide) ?_
                                  refine v_aload_n C (pc := 295) (i := 0) dL_does_295 rfl ?_
                                  refine v_iload C (pc := 296) (i := 6) dL_does_296 rfl ?_
                                  refine v_iload C (pc := 298) (i := 7) dL_does_298 rfl ?_
                                  refine v_nS F (pc := 300) [va_rf a0, .int ((a3 / 26) - (a3 / 26) / (x1 + 1) * (x1 + 1)), .int (((a3 / 26) / 6) - ((a3 / 26) / 6) / 5 * 5)] 3 (cL_review_met (kl κ) F.2.2.2.1 (kG κ) _ h) (good_l3 gL_does_L_review) rfl hdsL_review rfl rfl rfl (by rw [hR]; exact ⟨Nat.le_of_ble_eq_true rfl, Nat.le_of_ble_eq_true rfl⟩) (by rw [hR]; decide) (Nat.le_of_ble_eq_true rfl) rfl dL_does_300 (hk_i fun M51 x50 h => ?_)
                                  exact v_eret (pc := 303) E rfl (nar_int _) ⟨_, rfl, h⟩ (by decide) (by decide) dL_does_303
                                · rw [if_neg c49] at h
                                  by_cases c52 : ((a3 - a3 / 26 * 26) : Int32) = 16
                                  · rw [if_pos c52] at h
                                    refine v_tabIn C (pc := 36) (tgt := 304) dL_does_36 c52 (by decide) (by decide) rfl (by decide) ?_
                                    refine v_mask (lv' := [some (va_rf a0), none, none, none, none, some (.int ((a3 / 26) / 30)), some (.int ((a3 / 26) - (a3 / 26) / (x1 + 1) * (x1 + 1))), some (.int (((a3 / 26) / 6) - ((a3 / 26) / 6) / 5 * 5)), none]) [true, false, false, false, false, true, true, true, false] rfl rfl ?_
                                    exact tbL_does_304 E hR ht  h
                                  · rw [if_neg c52] at h
                                    by_cases c55 : ((a3 - a3 / 26 * 26) : Int32) = 17
                                    · rw [if_pos c55] at h
                                      refine v_tabIn C (pc := 36) (tgt := 304) dL_does_36 c55 (by decide) (by decide) rfl (by decide) ?_
                                      refine v_mask (lv' := [some (va_rf a0), none, none, none, none, some (.int ((a3 / 26) / 30)), some (.int ((a3 / 26) - (a3 / 26) / (x1 + 1) * (x1 + 1))), some (.int (((a3 / 26) / 6) - ((a3 / 26) / 6) / 5 * 5)), none]) [true, false, false, false, false, true, true, true, false] rfl rfl ?_
                                      exact tbL_does_304 E hR ht  h
                                    · rw [if_neg c55] at h
                                      by_cases c56 : ((a3 - a3 / 26 * 26) : Int32) = 18
                                      · rw [if_pos c56] at h
                                        refine v_tabIn C (pc := 36) (tgt := 304) dL_does_36 c56 (by decide) (by decide) rfl (by decide) ?_
                                        refine v_mask (lv' := [some (va_rf a0), none, none, none, none, some (.int ((a3 / 26) / 30)), some (.int ((a3 / 26) - (a3 / 26) / (x1 + 1) * (x1 + 1))), some (.int (((a3 / 26) / 6) - ((a3 / 26) / 6) / 5 * 5)), none]) [true, false, false, false, false, true, true, true, false] rfl rfl ?_
                                        exact tbL_does_304 E hR ht  h
                                      · rw [if_neg c56] at h
                                        by_cases c57 : ((a3 - a3 / 26 * 26) : Int32) = 19
                                        · rw [if_pos c57] at h
                                          refine v_tabIn C (pc := 36) (tgt := 316) dL_does_36 c57 (by decide) (by decide) rfl (by decide) ?_
                                          refine v_mask (lv' := [some (va_rf a0), none, none, none, none, some (.int ((a3 / 26) / 30)), some (.int ((a3 / 26) - (a3 / 26) / (x1 + 1) * (x1 + 1))), some (.int (((a3 / 26) / 6) - ((a3 / 26) / 6) / 5 * 5)), none]) [true, false, false, false, false, true, true, true, false] rfl rfl ?_
                                          exact tbL_does_316 E hR ht  h
                                        · rw [if_neg c57] at h
                                          by_cases c60 : ((a3 - a3 / 26 * 26) : Int32) = 20
                                          · rw [if_pos c60] at h
                                            refine v_tabIn C (pc := 36) (tgt := 316) dL_does_36 c60 (by decide) (by decide) rfl (by decide) ?_
                                            refine v_mask (lv' := [some (va_rf a0), none, none, none, none, some (.int ((a3 / 26) / 30)), some (.int ((a3 / 26) - (a3 / 26) / (x1 + 1) * (x1 + 1))), some (.int (((a3 / 26) / 6) - ((a3 / 26) / 6) / 5 * 5)), none]) [true, false, false, false, false, true, true, true, false] rfl rfl ?_
                                            exact tbL_does_316 E hR ht  h
                                          · rw [if_neg c60] at h
                                            by_cases c61 : ((a3 - a3 / 26 * 26) : Int32) = 21
                                            · rw [if_pos c61] at h
                                              refine v_tabIn C (pc := 36) (tgt := 328) dL_does_36 c61 (by decide) (by decide) rfl (by decide) ?_
                                              refine v_aload_n C (pc := 328) (i := 0) dL_does_328 rfl ?_
                                              refine v_iload C (pc := 329) (i := 6) dL_does_329 rfl ?_
                                              refine v_iload C (pc := 331) (i := 7) dL_does_331 rfl ?_
                                              refine v_iload C (pc := 333) (i := 5) dL_does_333 rfl ?_
                                              refine v_iconst C (pc := 335) (v := 2) dL_does_335 (by decide) ?_
                                              refine v_nSC F (pc := 336) [va_rf a0, .int ((a3 / 26) - (a3 / 26) / (x1 + 1) * (x1 + 1)), .int (((a3 / 26) / 6) - ((a3 / 26) / 6) / 5 * 5), .int ((a3 / 26) / 30), .int 2] 5 (cL_decides_met (kl κ) F.2.2.2.1 (kG κ) _ h) (good_l3 gL_does_L_decides) rfl hdsL_decides rfl rfl rfl (by rw [hR]; exact ⟨Nat.le_of_ble_eq_true rfl, Nat.le_of_ble_eq_true rfl⟩) (by rw [hR]; decide) (Nat.le_of_ble_eq_true rfl) rfl dL_does_336 (hk_i fun M63 x62 h => ?_)
                                              exact v_eret (pc := 339) E rfl (nar_int _) ⟨_, rfl, h⟩ (by decide) (by decide) dL_does_339
                                            · rw [if_neg c61] at h
                                              by_cases c64 : ((a3 - a3 / 26 * 26) : Int32) = 22
                                              · rw [if_pos c64] at h
                                                refine v_tabIn C (pc := 36) (tgt := 340) dL_does_36 c64 (by decide) (by decide) rfl (by decide) ?_
                                                refine v_aload_n C (pc := 340) (i := 0) dL_does_340 rfl ?_
                                                refine v_iload C (pc := 341) (i := 5) dL_does_341 rfl ?_
                                                refine v_bipush C (pc := 343) (v := 40) dL_does_343 (by decide) ?_
                                                refine v_irem C (pc := 345) dL_does_345 (by decide) ?_
                                                refine v_nS F (pc := 346) [va_rf a0, .int (((a3 / 26) / 30) - ((a3 / 26) / 30) / 40 * 40)] 2 (cL_pass_met (kl κ) F.2.2.2.1 (kG κ) _ h) (good_l3 gL_does_L_pass) rfl hdsL_pass rfl rfl rfl (by rw [hR]; exact ⟨Nat.le_of_ble_eq_true rfl, Nat.le_of_ble_eq_true rfl⟩) (by rw [hR]; decide) (Nat.le_of_ble_eq_true rfl) rfl dL_does_346 (hk_i fun M66 x65 h => ?_)
                                                exact v_eret (pc := 349) E rfl (nar_int _) ⟨_, rfl, h⟩ (by decide) (by decide) dL_does_349
                                              · rw [if_neg c64] at h
                                                refine v_tabOut C (pc := 36) (n := 23) (tgt := 350) dL_does_36 (fun k hk => ?_) rfl (by decide) (by decide) ?_
                                                · rcases (show k = 0 ∨ k = 1 ∨ k = 2 ∨ k = 3 ∨ k = 4 ∨ k = 5 ∨ k = 6 ∨ k = 7 ∨ k = 8 ∨ k = 9 ∨ k = 10 ∨ k = 11 ∨ k = 12 ∨ k = 13 ∨ k = 14 ∨ k = 15 ∨ k = 16 ∨ k = 17 ∨ k = 18 ∨ k = 19 ∨ k = 20 ∨ k = 21 ∨ k = 22 by omega) with rfl | rfl | rfl | rfl | rfl | rfl | rfl | rfl | rfl | rfl | rfl | rfl | rfl | rfl | rfl | rfl | rfl | rfl | rfl | rfl | rfl | rfl | rfl <;> assumption
                                                · refine v_aload_n C (pc := 350) (i := 0) dL_does_350 rfl ?_
                                                  refine v_iload C (pc := 351) (i := 5) dL_does_351 rfl ?_
                                                  refine v_iconst C (pc := 353) (v := 5) dL_does_353 (by decide) ?_
                                                  refine v_irem C (pc := 354) dL_does_354 (by decide) ?_
                                                  refine v_nS F (pc := 355) [va_rf a0, .int (((a3 / 26) / 30) - ((a3 / 26) / 30) / 5 * 5)] 2 (cL_pass_met (kl κ) F.2.2.2.1 (kG κ) _ h) (good_l3 gL_does_L_pass) rfl hdsL_pass rfl rfl rfl (by rw [hR]; exact ⟨Nat.le_of_ble_eq_true rfl, Nat.le_of_ble_eq_true rfl⟩) (by rw [hR]; decide) (Nat.le_of_ble_eq_true rfl) rfl dL_does_355 (hk_i fun M68 x67 h => ?_)
                                                  exact v_eret (pc := 358) E rfl (nar_int _) ⟨_, rfl, h⟩ (by decide) (by decide) dL_does_358
