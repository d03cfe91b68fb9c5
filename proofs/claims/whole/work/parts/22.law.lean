/-! ===== the law's body ===== -/
theorem good_t {ws : List Cond} (h : GoodIn wsL_law ws) : GoodIn lw_tbl ws := fun w hw => ⟨wsL_law_in _ (h w hw).1, (h w hw).2⟩
theorem good_t3 {ws : List Cond} (h : GoodIn wsL_law ws) : GoodIn lw_tbl (ws ++ hL3) := fun w hw => (List.mem_append.mp hw).elim (fun q => ⟨wsL_law_in _ (h w q).1, (h w q).2⟩) (fun q => (show GoodIn lw_tbl hL3 from goodIn_r (big := lw_tbl) hL3 [117, 118, 235] (by decide +kernel) (by decide +kernel)) w q)
section LROWS
variable {κ : hKx} {own : String} {cc : ByteArray} {ws : List Cond} {cells slots pc sz b L : Nat} {M : hM} {lv : List (Option Value)} {st : List Value} {xs : Nat → Int32}
theorem v_sld (F : Cw κ own cc ws (fun _ => none) sz) (hX : va_X b L xs (ks κ) (ks κ).heap) (hb : b < sz) {i v : Int32} (hp : vp_in i L ∧ xs i.toNatClampNeg = v) (d : decode cc pc = .ok (.iaload, 1)) (k : VW κ cells slots M (pc + 1) lv (.int v :: st)) : VW κ cells slots M pc lv (.int i :: va_rf (some b) :: st) := by
  intro H locs ls h1 h2 h3
  obtain ⟨C, hZ, hsz, -⟩ := F
  obtain ⟨hin, rfl⟩ := hp
  have h2' : hZe (hAA (fun _ => none) sz) (ks κ) M H locs := by rw [← hZ]; exact h2
  exact va_sld C.1 C.2.1 hX (by rw [hsz]; exact hb) (fun q => q.elim (fun q => q rfl) (fun q => absurd hb (Nat.not_lt.mpr q))) h2'.2 hin d (k H locs ls h1 h2 h3)
theorem v_slen (F : Cw κ own cc ws (fun _ => none) sz) (hX : va_X b L xs (ks κ) (ks κ).heap) (hb : b < sz) (d : decode cc pc = .ok (.arraylength, 1)) (k : VW κ cells slots M (pc + 1) lv (.int (Int32.ofNat L) :: st)) : VW κ cells slots M pc lv (va_rf (some b) :: st) := by
  intro H locs ls h1 h2 h3
  obtain ⟨C, hZ, hsz, -⟩ := F
  have h2' : hZe (hAA (fun _ => none) sz) (ks κ) M H locs := by rw [← hZ]; exact h2
  exact va_slen C.1 C.2.1 hX (by rw [hsz]; exact hb) (fun q => q.elim (fun q => q rfl) (fun q => absurd hb (Nat.not_lt.mpr q))) h2'.2 d (k H locs ls h1 h2 h3)
end LROWS
theorem iwL_law_X4 : ∀ w ∈ u_ws RX4 TX4 13, w ∈ lw_tbl := fun w h => inX4 w h
theorem iwL_law_X5 : ∀ w ∈ u_ws RX5 TX5 38, w ∈ lw_tbl := fun w h => inX5 w h
def lw_init (M : hM) (k23 : hM → Option Nat → Option Nat → Option Nat → Prop) : Prop :=
  ∀ q1 : Nat, M q1 = none →
  wX4_init (hst M q1 (.inr (4, [.null, .null, .null, .int 0, .int 0, .int 0, .int 0, .int 0, .int 0, .int 0, .int 0, .int 0, .int 0]))) q1 (fun M3 =>
  ∀ q4 : Nat, M3 q4 = none →
  wX5_init (hst M3 q4 (.inr (5, [.int 0, .int 0, .int 0, .null, .null, .null, .null, .int 0, .null, .null, .null, .int 0, .null, .null, .null, .null, .null, .null, .null, .null, .null, .null, .null, .null, .null, .null, .null, .null, .null, .null, .null, .null, .null, .int 0, .null, .null, .null, .null]))) q4 (fun M6 =>
  ∀ q7 : Nat, M6 q7 = none →
  k23 (hst M6 q7 (.inl (2, 1, .inr (.inl (fun _ => 0))))) (some q1) (some q4) (some q7)))
set_option maxRecDepth 100000 in
set_option maxHeartbeats 4000000 in
theorem tlw_init {κ : hKx} {sz b L : Nat} {xs : Nat → Int32} (F : Cw κ RL code lw_tbl (fun _ => none) sz) (hR : kR κ = room_1) (hX : va_X b L xs (ks κ) (ks κ).heap) (hb : b < sz) {M : hM} {k23 : hM → Option Nat → Option Nat → Option Nat → Prop} (hk23 : ∀ (M : hM) (a1 a2 a3 : Option Nat), k23 M a1 a2 a3 → VW κ 38 2890 M 23 [some (va_rf (some b)), some (va_rf a1), some (va_rf a2), some (va_rf a3), some (.int 0), none, none] []) (h : lw_init M k23) : VW κ 0 0 M 0 [some (va_rf (some b)), none, none, none, none, none, none] [] := by
  unfold lw_init at h
  have C := F.1
  refine v_new F (pc := 0) (ci := 4) (fs := [.null, .null, .null, .int 0, .int 0, .int 0, .int 0, .int 0, .int 0, .int 0, .int 0, .int 0, .int 0]) iwL_law_X4 tyX4 tyX4_ok (List.mem_of_getElem? (i := 56) (by decide +kernel)) (List.mem_of_getElem? (i := 57) (by decide +kernel)) (List.mem_of_getElem? (i := 42) (by decide +kernel)) rfl hdfX4 (by rw [hR]; decide) (by rw [hR]; decide) dL_law_0 (fun q1 hqq1 => ?_)
  have h := h q1 hqq1
  refine v_dup C (pc := 3) dL_law_3 (rf_cat _) ?_
  refine v_nI F (pc := 4) [] 0 (cX4_init_met (kl κ) F.2.2.2.1 (kG κ) _ h) (good_t gL_law_X4_init) rfl rfl (List.mem_of_getElem? (i := 42) (by decide +kernel)) (List.mem_of_getElem? (i := 58) (by decide +kernel)) (List.mem_of_getElem? (i := 59) (by decide +kernel)) hdsX4_init rfl rfl rfl (by rw [hR]; exact ⟨Nat.le_of_ble_eq_true rfl, Nat.le_of_ble_eq_true rfl⟩) (by rw [hR]; decide) (Nat.le_of_ble_eq_true rfl) rfl dL_law_4 (hk_v fun M3 h => ?_)
  refine v_astore_n C (pc := 7) (i := 1) (lv' := [some (va_rf (some b)), some (va_rf (some q1)), none, none, none, none, none]) dL_law_7 rfl rfl ?_
  refine v_new F (pc := 8) (ci := 5) (fs := [.int 0, .int 0, .int 0, .null, .null, .null, .null, .int 0, .null, .null, .null, .int 0, .null, .null, .null, .null, .null, .null, .null, .null, .null, .null, .null, .null, .null, .null, .null, .null, .null, .null, .null, .null, .null, .int 0, .null, .null, .null, .null]) iwL_law_X5 tyX5 tyX5_ok (List.mem_of_getElem? (i := 752) (by decide +kernel)) (List.mem_of_getElem? (i := 753) (by decide +kernel)) (List.mem_of_getElem? (i := 43) (by decide +kernel)) rfl hdfX5 (by rw [hR]; decide) (by rw [hR]; decide) dL_law_8 (fun q4 hqq4 => ?_)
  have h := h q4 hqq4
  refine v_dup C (pc := 11) dL_law_11 (rf_cat _) ?_
  refine v_nI F (pc := 12) [] 0 (cX5_init_met (kl κ) F.2.2.2.1 (kG κ) _ h) (good_t gL_law_X5_init) rfl rfl (List.mem_of_getElem? (i := 43) (by decide +kernel)) (List.mem_of_getElem? (i := 754) (by decide +kernel)) (List.mem_of_getElem? (i := 755) (by decide +kernel)) hdsX5_init rfl rfl rfl (by rw [hR]; exact ⟨Nat.le_of_ble_eq_true rfl, Nat.le_of_ble_eq_true rfl⟩) (by rw [hR]; decide) (Nat.le_of_ble_eq_true rfl) rfl dL_law_12 (hk_v fun M6 h => ?_)
  refine v_astore_n C (pc := 15) (i := 2) (lv' := [some (va_rf (some b)), some (va_rf (some q1)), some (va_rf (some q4)), none, none, none, none]) dL_law_15 rfl rfl ?_
  refine v_iconst C (pc := 16) (v := 1) dL_law_16 (by decide) ?_
  refine v_newa F (pc := 17) 2 (atype := .long) (ty := .long) (N := 1) (x := (1, .inr (.inl (fun _ => 0)))) rfl (List.mem_of_getElem? (i := 1064) (by decide +kernel)) rfl (fun q => q) (fun _ => rfl) (by decide) (by decide) (by decide) (by rw [hR]; decide) (by rw [hR]; decide) dL_law_17 (fun q7 hqq7 => ?_)
  have h := h q7 hqq7
  refine v_astore_n C (pc := 19) (i := 3) (lv' := [some (va_rf (some b)), some (va_rf (some q1)), some (va_rf (some q4)), some (va_rf (some q7)), none, none, none]) dL_law_19 rfl rfl ?_
  refine v_iconst C (pc := 20) (v := 0) dL_law_20 (by decide) ?_
  refine v_istore C (pc := 21) (i := 4) (lv' := [some (va_rf (some b)), some (va_rf (some q1)), some (va_rf (some q4)), some (va_rf (some q7)), some (.int 0), none, none]) dL_law_21 rfl rfl ?_
  exact hk23 _ _ _ _ h

def lw_0 (M : hM) (a1 a2 a3 : Nat) (p1 p2 p3 p4 p5 p6 : Int32) (k1976 : hM → Prop) : Prop :=
  wL_offence M (some a1) p1 p2 p3 (some a3) (fun M9 x8 =>
  ∃ y11, hC M9 5 (some a2) = some y11 ∧
  wX5_offence M9 a2 p1 p2 p3 (fun M12 x10 =>
  ∃ y14, hC M12 5 (some a2) = some y14 ∧
  ∃ x13, fX5_thrown M12 a2 = some x13 ∧
  if (x13 : Int32) = x8 then (
    if (x8 : Int32) = 0 then (
      ∃ x17, aJ M12 2 (some a3) 0 = some x17 ∧
      if ((lg_cmp x17 (Int32.toInt64 x10)) : Int32) = 0 then (
        k1976 M12
      ) else (
        False
      )
    ) else (
      k1976 M12
    )
  ) else (
    False
  )))
set_option maxRecDepth 100000 in
set_option maxHeartbeats 4000000 in
theorem tlw_0 {κ : hKx} {sz b L : Nat} {xs : Nat → Int32} (F : Cw κ RL code lw_tbl (fun _ => none) sz) (hR : kR κ = room_1) (hX : va_X b L xs (ks κ) (ks κ).heap) (hb : b < sz) {M : hM} {a1 a2 a3 : Nat} {a4 p1 p2 p3 p4 p5 p6 : Int32} {k1976 : hM → Prop} {cells slots : Nat} (hp1 : vp_in (a4 + 1) L ∧ xs (a4 + 1).toNatClampNeg = p1) (hp2 : vp_in (a4 + 2) L ∧ xs (a4 + 2).toNatClampNeg = p2) (hp3 : vp_in (a4 + 3) L ∧ xs (a4 + 3).toNatClampNeg = p3) (hp4 : vp_in (a4 + 4) L ∧ xs (a4 + 4).toNatClampNeg = p4) (hp5 : vp_in (a4 + 5) L ∧ xs (a4 + 5).toNatClampNeg = p5) (hp6 : vp_in (a4 + 6) L ∧ xs (a4 + 6).toNatClampNeg = p6) (hce : cells + 20 ≤ 601024) (hse : slots + 211 ≤ 7293034) (hk1976 : ∀ M, k1976 M → VW κ (cells + 20) (slots + 211) M 1976 [some (va_rf (some b)), some (va_rf (some a1)), some (va_rf (some a2)), some (va_rf (some a3)), some (.int a4), none, none] []) (h : lw_0 M a1 a2 a3 p1 p2 p3 p4 p5 p6 k1976) : VW κ cells slots M 160 [some (va_rf (some b)), some (va_rf (some a1)), some (va_rf (some a2)), some (va_rf (some a3)), some (.int a4), none, none] [] := by
  unfold lw_0 at h
  have C := F.1
  refine v_aload_n C (pc := 160) (i := 1) dL_law_160 rfl ?_
  refine v_aload_n C (pc := 161) (i := 0) dL_law_161 rfl ?_
  refine v_iload C (pc := 162) (i := 4) dL_law_162 rfl ?_
  refine v_iconst C (pc := 164) (v := 1) dL_law_164 (by decide) ?_
  refine v_iadd C (pc := 165) dL_law_165 ?_
  refine v_sld F hX hb (pc := 166) hp1 dL_law_166 ?_
  refine v_aload_n C (pc := 167) (i := 0) dL_law_167 rfl ?_
  refine v_iload C (pc := 168) (i := 4) dL_law_168 rfl ?_
  refine v_iconst C (pc := 170) (v := 2) dL_law_170 (by decide) ?_
  refine v_iadd C (pc := 171) dL_law_171 ?_
  refine v_sld F hX hb (pc := 172) hp2 dL_law_172 ?_
  refine v_aload_n C (pc := 173) (i := 0) dL_law_173 rfl ?_
  refine v_iload C (pc := 174) (i := 4) dL_law_174 rfl ?_
  refine v_iconst C (pc := 176) (v := 3) dL_law_176 (by decide) ?_
  refine v_iadd C (pc := 177) dL_law_177 ?_
  refine v_sld F hX hb (pc := 178) hp3 dL_law_178 ?_
  refine v_aload_n C (pc := 179) (i := 3) dL_law_179 rfl ?_
  refine v_nS F (pc := 180) [va_rf (some a1), .int p1, .int p2, .int p3, va_rf (some a3)] 5 (cL_offence_met (kl κ) F.2.2.2.1 (kG κ) _ h) (good_t3 gL_law_L_offence) rfl hdsL_offence rfl rfl rfl (by rw [hR]; exact ⟨Nat.le_of_ble_eq_true rfl, Nat.le_of_ble_eq_true rfl⟩) (by rw [hR]; exact ⟨by show _ ≤ 601024; omega, by show _ ≤ 7293034; omega⟩) (Nat.le_of_ble_eq_true rfl) rfl dL_law_180 (hk_i fun M9 x8 h => ?_)
  refine v_istore C (pc := 183) (i := 5) (lv' := [some (va_rf (some b)), some (va_rf (some a1)), some (va_rf (some a2)), some (va_rf (some a3)), some (.int a4), some (.int x8), none]) dL_law_183 rfl rfl ?_
  refine v_aload_n C (pc := 185) (i := 2) dL_law_185 rfl ?_
  refine v_aload_n C (pc := 186) (i := 0) dL_law_186 rfl ?_
  refine v_iload C (pc := 187) (i := 4) dL_law_187 rfl ?_
  refine v_iconst C (pc := 189) (v := 1) dL_law_189 (by decide) ?_
  refine v_iadd C (pc := 190) dL_law_190 ?_
  refine v_sld F hX hb (pc := 191) hp1 dL_law_191 ?_
  refine v_aload_n C (pc := 192) (i := 0) dL_law_192 rfl ?_
  refine v_iload C (pc := 193) (i := 4) dL_law_193 rfl ?_
  refine v_iconst C (pc := 195) (v := 2) dL_law_195 (by decide) ?_
  refine v_iadd C (pc := 196) dL_law_196 ?_
  refine v_sld F hX hb (pc := 197) hp2 dL_law_197 ?_
  refine v_aload_n C (pc := 198) (i := 0) dL_law_198 rfl ?_
  refine v_iload C (pc := 199) (i := 4) dL_law_199 rfl ?_
  refine v_iconst C (pc := 201) (v := 3) dL_law_201 (by decide) ?_
  refine v_iadd C (pc := 202) dL_law_202 ?_
  refine v_sld F hX hb (pc := 203) hp3 dL_law_203 ?_
  obtain ⟨y11, hy11, h⟩ := h
  obtain ⟨fsy11, hfy11⟩ := hC_some hy11
  refine v_nV F (pc := 204) (ci := 5) [.int p1, .int p2, .int p3] 3 (cX5_offence_met (kl κ) F.2.2.2.1 (kG κ) _ h) hfy11 rfl (good_t gL_law_X5_offence) rfl hdX5_offence rfl rfl rfl (by rw [hR]; exact ⟨Nat.le_of_ble_eq_true rfl, Nat.le_of_ble_eq_true rfl⟩) (by rw [hR]; exact ⟨by show _ ≤ 601024; omega, by show _ ≤ 7293034; omega⟩) (Nat.le_of_ble_eq_true rfl) rfl dL_law_204 (hk_i fun M12 x10 h => ?_)
  refine v_istore C (pc := 207) (i := 6) (lv' := [some (va_rf (some b)), some (va_rf (some a1)), some (va_rf (some a2)), some (va_rf (some a3)), some (.int a4), some (.int x8), some (.int x10)]) dL_law_207 rfl rfl ?_
  refine v_aload_n C (pc := 209) (i := 2) dL_law_209 rfl ?_
  obtain ⟨y14, hy14, h⟩ := h
  obtain ⟨fsy14, hfy14⟩ := hC_some hy14
  obtain ⟨x13, e13, h⟩ := h
  refine v_pV C (pc := 210) (ci := 5) [] 0 (cX5_thrown_met (kl κ) (kG κ) _ e13) hfy14 rfl (good_t gL_law_X5_thrown) rfl hdX5_thrown rfl rfl rfl (by rw [hR]; exact ⟨Nat.le_of_ble_eq_true rfl, Nat.le_of_ble_eq_true rfl⟩) (by rw [hR]; exact ⟨by show _ ≤ 601024; omega, by show _ ≤ 7293034; omega⟩) (Nat.le_of_ble_eq_true rfl) rfl dL_law_210 ?_
  refine v_iload C (pc := 213) (i := 5) dL_law_213 rfl ?_
  refine v_icmp_eq C (pc := 215) (tgt := 220) dL_law_215 (by decide) (fun c15 => ?_) (fun c15 => ?_)
  · rw [if_pos c15] at h
    refine v_iload C (pc := 220) (i := 5) dL_law_220 rfl ?_
    refine v_if_ne C (pc := 222) (tgt := 237) dL_law_222 (by decide) (fun c16 => ?_) (fun c16 => ?_)
    · rw [if_neg c16] at h
      refine v_goto C (pc := 237) (tgt := 1976) dL_law_237 (by decide) ?_
      refine v_mask (lv' := [some (va_rf (some b)), some (va_rf (some a1)), some (va_rf (some a2)), some (va_rf (some a3)), some (.int a4), none, none]) [true, true, true, true, true, false, false] rfl rfl ?_
      refine v_widen (k := cells + 20) (n := slots + 211) (by omega) (by omega) ?_
      exact hk1976 _ h
    · rw [if_pos c16] at h
      refine v_aload_n C (pc := 225) (i := 3) dL_law_225 rfl ?_
      refine v_iconst C (pc := 226) (v := 0) dL_law_226 (by decide) ?_
      obtain ⟨x17, e17, h⟩ := h
      refine v_lald C (pc := 227) e17 dL_law_227 ?_
      refine v_iload C (pc := 228) (i := 6) dL_law_228 rfl ?_
      refine v_i2l C (pc := 230) dL_law_230 ?_
      refine v_lcmp C (pc := 231) dL_law_231 ?_
      refine v_if_eq C (pc := 232) (tgt := 237) dL_law_232 (by decide) (fun c18 => ?_) (fun c18 => ?_)
      · rw [if_pos c18] at h
        refine v_goto C (pc := 237) (tgt := 1976) dL_law_237 (by decide) ?_
        refine v_mask (lv' := [some (va_rf (some b)), some (va_rf (some a1)), some (va_rf (some a2)), some (va_rf (some a3)), some (.int a4), none, none]) [true, true, true, true, true, false, false] rfl rfl ?_
        refine v_widen (k := cells + 20) (n := slots + 211) (by omega) (by omega) ?_
        exact hk1976 _ h
      · rw [if_neg c18] at h
        refine v_iconst C (pc := 235) (v := 0) dL_law_235 (by decide) ?_
        exact h.elim
  · rw [if_neg c15] at h
    refine v_iconst C (pc := 218) (v := 0) dL_law_218 (by decide) ?_
    exact h.elim

def lw_1 (M : hM) (a1 a2 a3 : Nat) (p1 p2 p3 p4 p5 p6 : Int32) (k1976 : hM → Prop) : Prop :=
  wL_exclude M (some a1) p1 p2 (some a3) (fun M20 x19 =>
  ∃ y22, hC M20 5 (some a2) = some y22 ∧
  wX5_exclude M20 a2 p1 p2 (fun M23 x21 =>
  ∃ y25, hC M23 5 (some a2) = some y25 ∧
  ∃ x24, fX5_thrown M23 a2 = some x24 ∧
  if (x24 : Int32) = x19 then (
    if (x19 : Int32) = 0 then (
      ∃ x28, aJ M23 2 (some a3) 0 = some x28 ∧
      if (x21 : Int32) = 0 then (
        if ((lg_cmp x28 0) : Int32) = 0 then (
          k1976 M23
        ) else (
          False
        )
      ) else (
        if ((lg_cmp x28 1) : Int32) = 0 then (
          k1976 M23
        ) else (
          False
        )
      )
    ) else (
      k1976 M23
    )
  ) else (
    False
  )))
set_option maxRecDepth 100000 in
set_option maxHeartbeats 4000000 in
theorem tlw_1 {κ : hKx} {sz b L : Nat} {xs : Nat → Int32} (F : Cw κ RL code lw_tbl (fun _ => none) sz) (hR : kR κ = room_1) (hX : va_X b L xs (ks κ) (ks κ).heap) (hb : b < sz) {M : hM} {a1 a2 a3 : Nat} {a4 p1 p2 p3 p4 p5 p6 : Int32} {k1976 : hM → Prop} {cells slots : Nat} (hp1 : vp_in (a4 + 1) L ∧ xs (a4 + 1).toNatClampNeg = p1) (hp2 : vp_in (a4 + 2) L ∧ xs (a4 + 2).toNatClampNeg = p2) (hp3 : vp_in (a4 + 3) L ∧ xs (a4 + 3).toNatClampNeg = p3) (hp4 : vp_in (a4 + 4) L ∧ xs (a4 + 4).toNatClampNeg = p4) (hp5 : vp_in (a4 + 5) L ∧ xs (a4 + 5).toNatClampNeg = p5) (hp6 : vp_in (a4 + 6) L ∧ xs (a4 + 6).toNatClampNeg = p6) (hce : cells + 20 ≤ 601024) (hse : slots + 211 ≤ 7293034) (hk1976 : ∀ M, k1976 M → VW κ (cells + 20) (slots + 211) M 1976 [some (va_rf (some b)), some (va_rf (some a1)), some (va_rf (some a2)), some (va_rf (some a3)), some (.int a4), none, none] []) (h : lw_1 M a1 a2 a3 p1 p2 p3 p4 p5 p6 k1976) : VW κ cells slots M 240 [some (va_rf (some b)), some (va_rf (some a1)), some (va_rf (some a2)), some (va_rf (some a3)), some (.int a4), none, none] [] := by
  unfold lw_1 at h
  have C := F.1
  refine v_aload_n C (pc := 240) (i := 1) dL_law_240 rfl ?_
  refine v_aload_n C (pc := 241) (i := 0) dL_law_241 rfl ?_
  refine v_iload C (pc := 242) (i := 4) dL_law_242 rfl ?_
  refine v_iconst C (pc := 244) (v := 1) dL_law_244 (by decide) ?_
  refine v_iadd C (pc := 245) dL_law_245 ?_
  refine v_sld F hX hb (pc := 246) hp1 dL_law_246 ?_
  refine v_aload_n C (pc := 247) (i := 0) dL_law_247 rfl ?_
  refine v_iload C (pc := 248) (i := 4) dL_law_248 rfl ?_
  refine v_iconst C (pc := 250) (v := 2) dL_law_250 (by decide) ?_
  refine v_iadd C (pc := 251) dL_law_251 ?_
  refine v_sld F hX hb (pc := 252) hp2 dL_law_252 ?_
  refine v_aload_n C (pc := 253) (i := 3) dL_law_253 rfl ?_
  refine v_nS F (pc := 254) [va_rf (some a1), .int p1, .int p2, va_rf (some a3)] 4 (cL_exclude_met (kl κ) F.2.2.2.1 (kG κ) _ h) (good_t3 gL_law_L_exclude) rfl hdsL_exclude rfl rfl rfl (by rw [hR]; exact ⟨Nat.le_of_ble_eq_true rfl, Nat.le_of_ble_eq_true rfl⟩) (by rw [hR]; exact ⟨by show _ ≤ 601024; omega, by show _ ≤ 7293034; omega⟩) (Nat.le_of_ble_eq_true rfl) rfl dL_law_254 (hk_i fun M20 x19 h => ?_)
  refine v_istore C (pc := 257) (i := 5) (lv' := [some (va_rf (some b)), some (va_rf (some a1)), some (va_rf (some a2)), some (va_rf (some a3)), some (.int a4), some (.int x19), none]) dL_law_257 rfl rfl ?_
  refine v_aload_n C (pc := 259) (i := 2) dL_law_259 rfl ?_
  refine v_aload_n C (pc := 260) (i := 0) dL_law_260 rfl ?_
  refine v_iload C (pc := 261) (i := 4) dL_law_261 rfl ?_
  refine v_iconst C (pc := 263) (v := 1) dL_law_263 (by decide) ?_
  refine v_iadd C (pc := 264) dL_law_264 ?_
  refine v_sld F hX hb (pc := 265) hp1 dL_law_265 ?_
  refine v_aload_n C (pc := 266) (i := 0) dL_law_266 rfl ?_
  refine v_iload C (pc := 267) (i := 4) dL_law_267 rfl ?_
  refine v_iconst C (pc := 269) (v := 2) dL_law_269 (by decide) ?_
  refine v_iadd C (pc := 270) dL_law_270 ?_
  refine v_sld F hX hb (pc := 271) hp2 dL_law_271 ?_
  obtain ⟨y22, hy22, h⟩ := h
  obtain ⟨fsy22, hfy22⟩ := hC_some hy22
  refine v_nV F (pc := 272) (ci := 5) [.int p1, .int p2] 2 (cX5_exclude_met (kl κ) F.2.2.2.1 (kG κ) _ h) hfy22 rfl (good_t gL_law_X5_exclude) rfl hdX5_exclude rfl rfl rfl (by rw [hR]; exact ⟨Nat.le_of_ble_eq_true rfl, Nat.le_of_ble_eq_true rfl⟩) (by rw [hR]; exact ⟨by show _ ≤ 601024; omega, by show _ ≤ 7293034; omega⟩) (Nat.le_of_ble_eq_true rfl) rfl dL_law_272 (hk_i fun M23 x21 h => ?_)
  refine v_istore C (pc := 275) (i := 6) (lv' := [some (va_rf (some b)), some (va_rf (some a1)), some (va_rf (some a2)), some (va_rf (some a3)), some (.int a4), some (.int x19), some (.int x21)]) dL_law_275 rfl rfl ?_
  refine v_aload_n C (pc := 277) (i := 2) dL_law_277 rfl ?_
  obtain ⟨y25, hy25, h⟩ := h
  obtain ⟨fsy25, hfy25⟩ := hC_some hy25
  obtain ⟨x24, e24, h⟩ := h
  refine v_pV C (pc := 278) (ci := 5) [] 0 (cX5_thrown_met (kl κ) (kG κ) _ e24) hfy25 rfl (good_t gL_law_X5_thrown) rfl hdX5_thrown rfl rfl rfl (by rw [hR]; exact ⟨Nat.le_of_ble_eq_true rfl, Nat.le_of_ble_eq_true rfl⟩) (by rw [hR]; exact ⟨by show _ ≤ 601024; omega, by show _ ≤ 7293034; omega⟩) (Nat.le_of_ble_eq_true rfl) rfl dL_law_278 ?_
  refine v_iload C (pc := 281) (i := 5) dL_law_281 rfl ?_
  refine v_icmp_eq C (pc := 283) (tgt := 288) dL_law_283 (by decide) (fun c26 => ?_) (fun c26 => ?_)
  · rw [if_pos c26] at h
    refine v_iload C (pc := 288) (i := 5) dL_law_288 rfl ?_
    refine v_if_ne C (pc := 290) (tgt := 312) dL_law_290 (by decide) (fun c27 => ?_) (fun c27 => ?_)
    · rw [if_neg c27] at h
      refine v_goto C (pc := 312) (tgt := 1976) dL_law_312 (by decide) ?_
      refine v_mask (lv' := [some (va_rf (some b)), some (va_rf (some a1)), some (va_rf (some a2)), some (va_rf (some a3)), some (.int a4), none, none]) [true, true, true, true, true, false, false] rfl rfl ?_
      refine v_widen (k := cells + 20) (n := slots + 211) (by omega) (by omega) ?_
      exact hk1976 _ h
    · rw [if_pos c27] at h
      refine v_aload_n C (pc := 293) (i := 3) dL_law_293 rfl ?_
      refine v_iconst C (pc := 294) (v := 0) dL_law_294 (by decide) ?_
      obtain ⟨x28, e28, h⟩ := h
      refine v_lald C (pc := 295) e28 dL_law_295 ?_
      refine v_iload C (pc := 296) (i := 6) dL_law_296 rfl ?_
      refine v_if_eq C (pc := 298) (tgt := 305) dL_law_298 (by decide) (fun c29 => ?_) (fun c29 => ?_)
      · rw [if_pos c29] at h
        refine v_lconst C (pc := 305) (v := 0) dL_law_305 (by decide) ?_
        refine v_lcmp C (pc := 306) dL_law_306 ?_
        refine v_if_eq C (pc := 307) (tgt := 312) dL_law_307 (by decide) (fun c30 => ?_) (fun c30 => ?_)
        · rw [if_pos c30] at h
          refine v_goto C (pc := 312) (tgt := 1976) dL_law_312 (by decide) ?_
          refine v_mask (lv' := [some (va_rf (some b)), some (va_rf (some a1)), some (va_rf (some a2)), some (va_rf (some a3)), some (.int a4), none, none]) [true, true, true, true, true, false, false] rfl rfl ?_
          refine v_widen (k := cells + 20) (n := slots + 211) (by omega) (by omega) ?_
          exact hk1976 _ h
        · rw [if_neg c30] at h
          refine v_iconst C (pc := 310) (v := 0) dL_law_310 (by decide) ?_
          exact h.elim
      · rw [if_neg c29] at h
        refine v_lconst C (pc := 301) (v := 1) dL_law_301 (by decide) ?_
        refine v_goto C (pc := 302) (tgt := 306) dL_law_302 (by decide) ?_
        refine v_lcmp C (pc := 306) dL_law_306 ?_
        refine v_if_eq C (pc := 307) (tgt := 312) dL_law_307 (by decide) (fun c31 => ?_) (fun c31 => ?_)
        · rw [if_pos c31] at h
          refine v_goto C (pc := 312) (tgt := 1976) dL_law_312 (by decide) ?_
          refine v_mask (lv' := [some (va_rf (some b)), some (va_rf (some a1)), some (va_rf (some a2)), some (va_rf (some a3)), some (.int a4), none, none]) [true, true, true, true, true, false, false] rfl rfl ?_
          refine v_widen (k := cells + 20) (n := slots + 211) (by omega) (by omega) ?_
          exact hk1976 _ h
        · rw [if_neg c31] at h
          refine v_iconst C (pc := 310) (v := 0) dL_law_310 (by decide) ?_
          exact h.elim
  · rw [if_neg c26] at h
    refine v_iconst C (pc := 286) (v := 0) dL_law_286 (by decide) ?_
    exact h.elim

def lw_2 (M : hM) (a1 a2 a3 : Nat) (p1 p2 p3 p4 p5 p6 : Int32) (k1976 : hM → Prop) : Prop :=
  wL_pass M (some a1) p1 (some a3) (fun M33 x32 =>
  ∃ y35, hC M33 5 (some a2) = some y35 ∧
  wX5_pass M33 a2 p1 (fun M36 x34 =>
  ∃ y38, hC M36 5 (some a2) = some y38 ∧
  ∃ x37, fX5_thrown M36 a2 = some x37 ∧
  if (x37 : Int32) = x32 then (
    if (x32 : Int32) = 0 then (
      ∃ x41, aJ M36 2 (some a3) 0 = some x41 ∧
      if ((lg_cmp x41 (Int32.toInt64 x34)) : Int32) = 0 then (
        k1976 M36
      ) else (
        False
      )
    ) else (
      k1976 M36
    )
  ) else (
    False
  )))
set_option maxRecDepth 100000 in
set_option maxHeartbeats 4000000 in
theorem tlw_2 {κ : hKx} {sz b L : Nat} {xs : Nat → Int32} (F : Cw κ RL code lw_tbl (fun _ => none) sz) (hR : kR κ = room_1) (hX : va_X b L xs (ks κ) (ks κ).heap) (hb : b < sz) {M : hM} {a1 a2 a3 : Nat} {a4 p1 p2 p3 p4 p5 p6 : Int32} {k1976 : hM → Prop} {cells slots : Nat} (hp1 : vp_in (a4 + 1) L ∧ xs (a4 + 1).toNatClampNeg = p1) (hp2 : vp_in (a4 + 2) L ∧ xs (a4 + 2).toNatClampNeg = p2) (hp3 : vp_in (a4 + 3) L ∧ xs (a4 + 3).toNatClampNeg = p3) (hp4 : vp_in (a4 + 4) L ∧ xs (a4 + 4).toNatClampNeg = p4) (hp5 : vp_in (a4 + 5) L ∧ xs (a4 + 5).toNatClampNeg = p5) (hp6 : vp_in (a4 + 6) L ∧ xs (a4 + 6).toNatClampNeg = p6) (hce : cells + 20 ≤ 601024) (hse : slots + 211 ≤ 7293034) (hk1976 : ∀ M, k1976 M → VW κ (cells + 20) (slots + 211) M 1976 [some (va_rf (some b)), some (va_rf (some a1)), some (va_rf (some a2)), some (va_rf (some a3)), some (.int a4), none, none] []) (h : lw_2 M a1 a2 a3 p1 p2 p3 p4 p5 p6 k1976) : VW κ cells slots M 315 [some (va_rf (some b)), some (va_rf (some a1)), some (va_rf (some a2)), some (va_rf (some a3)), some (.int a4), none, none] [] := by
  unfold lw_2 at h
  have C := F.1
  refine v_aload_n C (pc := 315) (i := 1) dL_law_315 rfl ?_
  refine v_aload_n C (pc := 316) (i := 0) dL_law_316 rfl ?_
  refine v_iload C (pc := 317) (i := 4) dL_law_317 rfl ?_
  refine v_iconst C (pc := 319) (v := 1) dL_law_319 (by decide) ?_
  refine v_iadd C (pc := 320) dL_law_320 ?_
  refine v_sld F hX hb (pc := 321) hp1 dL_law_321 ?_
  refine v_aload_n C (pc := 322) (i := 3) dL_law_322 rfl ?_
  refine v_nS F (pc := 323) [va_rf (some a1), .int p1, va_rf (some a3)] 3 (cL_pass_met (kl κ) F.2.2.2.1 (kG κ) _ h) (good_t3 gL_law_L_pass) rfl hdsL_pass rfl rfl rfl (by rw [hR]; exact ⟨Nat.le_of_ble_eq_true rfl, Nat.le_of_ble_eq_true rfl⟩) (by rw [hR]; exact ⟨by show _ ≤ 601024; omega, by show _ ≤ 7293034; omega⟩) (Nat.le_of_ble_eq_true rfl) rfl dL_law_323 (hk_i fun M33 x32 h => ?_)
  refine v_istore C (pc := 326) (i := 5) (lv' := [some (va_rf (some b)), some (va_rf (some a1)), some (va_rf (some a2)), some (va_rf (some a3)), some (.int a4), some (.int x32), none]) dL_law_326 rfl rfl ?_
  refine v_aload_n C (pc := 328) (i := 2) dL_law_328 rfl ?_
  refine v_aload_n C (pc := 329) (i := 0) dL_law_329 rfl ?_
  refine v_iload C (pc := 330) (i := 4) dL_law_330 rfl ?_
  refine v_iconst C (pc := 332) (v := 1) dL_law_332 (by decide) ?_
  refine v_iadd C (pc := 333) dL_law_333 ?_
  refine v_sld F hX hb (pc := 334) hp1 dL_law_334 ?_
  obtain ⟨y35, hy35, h⟩ := h
  obtain ⟨fsy35, hfy35⟩ := hC_some hy35
  refine v_nV F (pc := 335) (ci := 5) [.int p1] 1 (cX5_pass_met (kl κ) F.2.2.2.1 (kG κ) _ h) hfy35 rfl (good_t gL_law_X5_pass) rfl hdX5_pass rfl rfl rfl (by rw [hR]; exact ⟨Nat.le_of_ble_eq_true rfl, Nat.le_of_ble_eq_true rfl⟩) (by rw [hR]; exact ⟨by show _ ≤ 601024; omega, by show _ ≤ 7293034; omega⟩) (Nat.le_of_ble_eq_true rfl) rfl dL_law_335 (hk_i fun M36 x34 h => ?_)
  refine v_istore C (pc := 338) (i := 6) (lv' := [some (va_rf (some b)), some (va_rf (some a1)), some (va_rf (some a2)), some (va_rf (some a3)), some (.int a4), some (.int x32), some (.int x34)]) dL_law_338 rfl rfl ?_
  refine v_aload_n C (pc := 340) (i := 2) dL_law_340 rfl ?_
  obtain ⟨y38, hy38, h⟩ := h
  obtain ⟨fsy38, hfy38⟩ := hC_some hy38
  obtain ⟨x37, e37, h⟩ := h
  refine v_pV C (pc := 341) (ci := 5) [] 0 (cX5_thrown_met (kl κ) (kG κ) _ e37) hfy38 rfl (good_t gL_law_X5_thrown) rfl hdX5_thrown rfl rfl rfl (by rw [hR]; exact ⟨Nat.le_of_ble_eq_true rfl, Nat.le_of_ble_eq_true rfl⟩) (by rw [hR]; exact ⟨by show _ ≤ 601024; omega, by show _ ≤ 7293034; omega⟩) (Nat.le_of_ble_eq_true rfl) rfl dL_law_341 ?_
  refine v_iload C (pc := 344) (i := 5) dL_law_344 rfl ?_
  refine v_icmp_eq C (pc := 346) (tgt := 351) dL_law_346 (by decide) (fun c39 => ?_) (fun c39 => ?_)
  · rw [if_pos c39] at h
    refine v_iload C (pc := 351) (i := 5) dL_law_351 rfl ?_
    refine v_if_ne C (pc := 353) (tgt := 368) dL_law_353 (by decide) (fun c40 => ?_) (fun c40 => ?_)
    · rw [if_neg c40] at h
      refine v_goto C (pc := 368) (tgt := 1976) dL_law_368 (by decide) ?_
      refine v_mask (lv' := [some (va_rf (some b)), some (va_rf (some a1)), some (va_rf (some a2)), some (va_rf (some a3)), some (.int a4), none, none]) [true, true, true, true, true, false, false] rfl rfl ?_
      refine v_widen (k := cells + 20) (n := slots + 211) (by omega) (by omega) ?_
      exact hk1976 _ h
    · rw [if_pos c40] at h
      refine v_aload_n C (pc := 356) (i := 3) dL_law_356 rfl ?_
      refine v_iconst C (pc := 357) (v := 0) dL_law_357 (by decide) ?_
      obtain ⟨x41, e41, h⟩ := h
      refine v_lald C (pc := 358) e41 dL_law_358 ?_
      refine v_iload C (pc := 359) (i := 6) dL_law_359 rfl ?_
      refine v_i2l C (pc := 361) dL_law_361 ?_
      refine v_lcmp C (pc := 362) dL_law_362 ?_
      refine v_if_eq C (pc := 363) (tgt := 368) dL_law_363 (by decide) (fun c42 => ?_) (fun c42 => ?_)
      · rw [if_pos c42] at h
        refine v_goto C (pc := 368) (tgt := 1976) dL_law_368 (by decide) ?_
        refine v_mask (lv' := [some (va_rf (some b)), some (va_rf (some a1)), some (va_rf (some a2)), some (va_rf (some a3)), some (.int a4), none, none]) [true, true, true, true, true, false, false] rfl rfl ?_
        refine v_widen (k := cells + 20) (n := slots + 211) (by omega) (by omega) ?_
        exact hk1976 _ h
      · rw [if_neg c42] at h
        refine v_iconst C (pc := 366) (v := 0) dL_law_366 (by decide) ?_
        exact h.elim
  · rw [if_neg c39] at h
    refine v_iconst C (pc := 349) (v := 0) dL_law_349 (by decide) ?_
    exact h.elim

def lw_3 (M : hM) (a1 a2 a3 : Nat) (p1 p2 p3 p4 p5 p6 : Int32) (k1976 : hM → Prop) : Prop :=
  wL_file M (some a1) p1 p2 p3 (some a3) (fun M44 x43 =>
  ∃ y46, hC M44 5 (some a2) = some y46 ∧
  wX5_file M44 a2 p1 p2 p3 (fun M47 x45 =>
  ∃ y49, hC M47 5 (some a2) = some y49 ∧
  ∃ x48, fX5_thrown M47 a2 = some x48 ∧
  if (x48 : Int32) = x43 then (
    if (x43 : Int32) = 0 then (
      ∃ x52, aJ M47 2 (some a3) 0 = some x52 ∧
      if ((lg_cmp x52 (Int32.toInt64 x45)) : Int32) = 0 then (
        k1976 M47
      ) else (
        False
      )
    ) else (
      k1976 M47
    )
  ) else (
    False
  )))
set_option maxRecDepth 100000 in
set_option maxHeartbeats 4000000 in
theorem tlw_3 {κ : hKx} {sz b L : Nat} {xs : Nat → Int32} (F : Cw κ RL code lw_tbl (fun _ => none) sz) (hR : kR κ = room_1) (hX : va_X b L xs (ks κ) (ks κ).heap) (hb : b < sz) {M : hM} {a1 a2 a3 : Nat} {a4 p1 p2 p3 p4 p5 p6 : Int32} {k1976 : hM → Prop} {cells slots : Nat} (hp1 : vp_in (a4 + 1) L ∧ xs (a4 + 1).toNatClampNeg = p1) (hp2 : vp_in (a4 + 2) L ∧ xs (a4 + 2).toNatClampNeg = p2) (hp3 : vp_in (a4 + 3) L ∧ xs (a4 + 3).toNatClampNeg = p3) (hp4 : vp_in (a4 + 4) L ∧ xs (a4 + 4).toNatClampNeg = p4) (hp5 : vp_in (a4 + 5) L ∧ xs (a4 + 5).toNatClampNeg = p5) (hp6 : vp_in (a4 + 6) L ∧ xs (a4 + 6).toNatClampNeg = p6) (hce : cells + 20 ≤ 601024) (hse : slots + 211 ≤ 7293034) (hk1976 : ∀ M, k1976 M → VW κ (cells + 20) (slots + 211) M 1976 [some (va_rf (some b)), some (va_rf (some a1)), some (va_rf (some a2)), some (va_rf (some a3)), some (.int a4), none, none] []) (h : lw_3 M a1 a2 a3 p1 p2 p3 p4 p5 p6 k1976) : VW κ cells slots M 371 [some (va_rf (some b)), some (va_rf (some a1)), some (va_rf (some a2)), some (va_rf (some a3)), some (.int a4), none, none] [] := by
  unfold lw_3 at h
  have C := F.1
  refine v_aload_n C (pc := 371) (i := 1) dL_law_371 rfl ?_
  refine v_aload_n C (pc := 372) (i := 0) dL_law_372 rfl ?_
  refine v_iload C (pc := 373) (i := 4) dL_law_373 rfl ?_
  refine v_iconst C (pc := 375) (v := 1) dL_law_375 (by decide) ?_
  refine v_iadd C (pc := 376) dL_law_376 ?_
  refine v_sld F hX hb (pc := 377) hp1 dL_law_377 ?_
  refine v_aload_n C (pc := 378) (i := 0) dL_law_378 rfl ?_
  refine v_iload C (pc := 379) (i := 4) dL_law_379 rfl ?_
  refine v_iconst C (pc := 381) (v := 2) dL_law_381 (by decide) ?_
  refine v_iadd C (pc := 382) dL_law_382 ?_
  refine v_sld F hX hb (pc := 383) hp2 dL_law_383 ?_
  refine v_aload_n C (pc := 384) (i := 0) dL_law_384 rfl ?_
  refine v_iload C (pc := 385) (i := 4) dL_law_385 rfl ?_
  refine v_iconst C (pc := 387) (v := 3) dL_law_387 (by decide) ?_
  refine v_iadd C (pc := 388) dL_law_388 ?_
  refine v_sld F hX hb (pc := 389) hp3 dL_law_389 ?_
  refine v_aload_n C (pc := 390) (i := 3) dL_law_390 rfl ?_
  refine v_nS F (pc := 391) [va_rf (some a1), .int p1, .int p2, .int p3, va_rf (some a3)] 5 (cL_file_met (kl κ) F.2.2.2.1 (kG κ) _ h) (good_t3 gL_law_L_file) rfl hdsL_file rfl rfl rfl (by rw [hR]; exact ⟨Nat.le_of_ble_eq_true rfl, Nat.le_of_ble_eq_true rfl⟩) (by rw [hR]; exact ⟨by show _ ≤ 601024; omega, by show _ ≤ 7293034; omega⟩) (Nat.le_of_ble_eq_true rfl) rfl dL_law_391 (hk_i fun M44 x43 h => ?_)
  refine v_istore C (pc := 394) (i := 5) (lv' := [some (va_rf (some b)), some (va_rf (some a1)), some (va_rf (some a2)), some (va_rf (some a3)), some (.int a4), some (.int x43), none]) dL_law_394 rfl rfl ?_
  refine v_aload_n C (pc := 396) (i := 2) dL_law_396 rfl ?_
  refine v_aload_n C (pc := 397) (i := 0) dL_law_397 rfl ?_
  refine v_iload C (pc := 398) (i := 4) dL_law_398 rfl ?_
  refine v_iconst C (pc := 400) (v := 1) dL_law_400 (by decide) ?_
  refine v_iadd C (pc := 401) dL_law_401 ?_
  refine v_sld F hX hb (pc := 402) hp1 dL_law_402 ?_
  refine v_aload_n C (pc := 403) (i := 0) dL_law_403 rfl ?_
  refine v_iload C (pc := 404) (i := 4) dL_law_404 rfl ?_
  refine v_iconst C (pc := 406) (v := 2) dL_law_406 (by decide) ?_
  refine v_iadd C (pc := 407) dL_law_407 ?_
  refine v_sld F hX hb (pc := 408) hp2 dL_law_408 ?_
  refine v_aload_n C (pc := 409) (i := 0) dL_law_409 rfl ?_
  refine v_iload C (pc := 410) (i := 4) dL_law_410 rfl ?_
  refine v_iconst C (pc := 412) (v := 3) dL_law_412 (by decide) ?_
  refine v_iadd C (pc := 413) dL_law_413 ?_
  refine v_sld F hX hb (pc := 414) hp3 dL_law_414 ?_
  obtain ⟨y46, hy46, h⟩ := h
  obtain ⟨fsy46, hfy46⟩ := hC_some hy46
  refine v_nV F (pc := 415) (ci := 5) [.int p1, .int p2, .int p3] 3 (cX5_file_met (kl κ) F.2.2.2.1 (kG κ) _ h) hfy46 rfl (good_t gL_law_X5_file) rfl hdX5_file rfl rfl rfl (by rw [hR]; exact ⟨Nat.le_of_ble_eq_true rfl, Nat.le_of_ble_eq_true rfl⟩) (by rw [hR]; exact ⟨by show _ ≤ 601024; omega, by show _ ≤ 7293034; omega⟩) (Nat.le_of_ble_eq_true rfl) rfl dL_law_415 (hk_i fun M47 x45 h => ?_)
  refine v_istore C (pc := 418) (i := 6) (lv' := [some (va_rf (some b)), some (va_rf (some a1)), some (va_rf (some a2)), some (va_rf (some a3)), some (.int a4), some (.int x43), some (.int x45)]) dL_law_418 rfl rfl ?_
  refine v_aload_n C (pc := 420) (i := 2) dL_law_420 rfl ?_
  obtain ⟨y49, hy49, h⟩ := h
  obtain ⟨fsy49, hfy49⟩ := hC_some hy49
  obtain ⟨x48, e48, h⟩ := h
  refine v_pV C (pc := 421) (ci := 5) [] 0 (cX5_thrown_met (kl κ) (kG κ) _ e48) hfy49 rfl (good_t gL_law_X5_thrown) rfl hdX5_thrown rfl rfl rfl (by rw [hR]; exact ⟨Nat.le_of_ble_eq_true rfl, Nat.le_of_ble_eq_true rfl⟩) (by rw [hR]; exact ⟨by show _ ≤ 601024; omega, by show _ ≤ 7293034; omega⟩) (Nat.le_of_ble_eq_true rfl) rfl dL_law_421 ?_
  refine v_iload C (pc := 424) (i := 5) dL_law_424 rfl ?_
  refine v_icmp_eq C (pc := 426) (tgt := 431) dL_law_426 (by decide) (fun c50 => ?_) (fun c50 => ?_)
  · rw [if_pos c50] at h
    refine v_iload C (pc := 431) (i := 5) dL_law_431 rfl ?_
    refine v_if_ne C (pc := 433) (tgt := 448) dL_law_433 (by decide) (fun c51 => ?_) (fun c51 => ?_)
    · rw [if_neg c51] at h
      refine v_goto C (pc := 448) (tgt := 1976) dL_law_448 (by decide) ?_
      refine v_mask (lv' := [some (va_rf (some b)), some (va_rf (some a1)), some (va_rf (some a2)), some (va_rf (some a3)), some (.int a4), none, none]) [true, true, true, true, true, false, false] rfl rfl ?_
      refine v_widen (k := cells + 20) (n := slots + 211) (by omega) (by omega) ?_
      exact hk1976 _ h
    · rw [if_pos c51] at h
      refine v_aload_n C (pc := 436) (i := 3) dL_law_436 rfl ?_
      refine v_iconst C (pc := 437) (v := 0) dL_law_437 (by decide) ?_
      obtain ⟨x52, e52, h⟩ := h
      refine v_lald C (pc := 438) e52 dL_law_438 ?_
      refine v_iload C (pc := 439) (i := 6) dL_law_439 rfl ?_
      refine v_i2l C (pc := 441) dL_law_441 ?_
      refine v_lcmp C (pc := 442) dL_law_442 ?_
      refine v_if_eq C (pc := 443) (tgt := 448) dL_law_443 (by decide) (fun c53 => ?_) (fun c53 => ?_)
      · rw [if_pos c53] at h
        refine v_goto C (pc := 448) (tgt := 1976) dL_law_448 (by decide) ?_
        refine v_mask (lv' := [some (va_rf (some b)), some (va_rf (some a1)), some (va_rf (some a2)), some (va_rf (some a3)), some (.int a4), none, none]) [true, true, true, true, true, false, false] rfl rfl ?_
        refine v_widen (k := cells + 20) (n := slots + 211) (by omega) (by omega) ?_
        exact hk1976 _ h
      · rw [if_neg c53] at h
        refine v_iconst C (pc := 446) (v := 0) dL_law_446 (by decide) ?_
        exact h.elim
  · rw [if_neg c50] at h
    refine v_iconst C (pc := 429) (v := 0) dL_law_429 (by decide) ?_
    exact h.elim

def lw_4 (M : hM) (a1 a2 a3 : Nat) (p1 p2 p3 p4 p5 p6 : Int32) (k1976 : hM → Prop) : Prop :=
  if (p6 : Int32) = 0 then (
    wL_item M (some a1) p1 p2 p3 p4 p5 0 (some a3) (fun M56 x55 =>
    if (p6 : Int32) = 0 then (
      ∃ y59, hC M56 5 (some a2) = some y59 ∧
      wX5_item M56 a2 p1 p2 p3 p4 p5 0 (fun M60 x58 =>
      ∃ y62, hC M60 5 (some a2) = some y62 ∧
      ∃ x61, fX5_thrown M60 a2 = some x61 ∧
      if (x61 : Int32) = x55 then (
        if (x55 : Int32) = 0 then (
          ∃ x65, aJ M60 2 (some a3) 0 = some x65 ∧
          if ((lg_cmp x65 (Int32.toInt64 x58)) : Int32) = 0 then (
            k1976 M60
          ) else (
            False
          )
        ) else (
          k1976 M60
        )
      ) else (
        False
      ))
    ) else (
      ∃ y68, hC M56 5 (some a2) = some y68 ∧
      wX5_item M56 a2 p1 p2 p3 p4 p5 1 (fun M69 x67 =>
      ∃ y71, hC M69 5 (some a2) = some y71 ∧
      ∃ x70, fX5_thrown M69 a2 = some x70 ∧
      if (x70 : Int32) = x55 then (
        if (x55 : Int32) = 0 then (
          ∃ x74, aJ M69 2 (some a3) 0 = some x74 ∧
          if ((lg_cmp x74 (Int32.toInt64 x67)) : Int32) = 0 then (
            k1976 M69
          ) else (
            False
          )
        ) else (
          k1976 M69
        )
      ) else (
        False
      ))
    ))
  ) else (
    wL_item M (some a1) p1 p2 p3 p4 p5 1 (some a3) (fun M77 x76 =>
    if (p6 : Int32) = 0 then (
      ∃ y80, hC M77 5 (some a2) = some y80 ∧
      wX5_item M77 a2 p1 p2 p3 p4 p5 0 (fun M81 x79 =>
      ∃ y83, hC M81 5 (some a2) = some y83 ∧
      ∃ x82, fX5_thrown M81 a2 = some x82 ∧
      if (x82 : Int32) = x76 then (
        if (x76 : Int32) = 0 then (
          ∃ x86, aJ M81 2 (some a3) 0 = some x86 ∧
          if ((lg_cmp x86 (Int32.toInt64 x79)) : Int32) = 0 then (
            k1976 M81
          ) else (
            False
          )
        ) else (
          k1976 M81
        )
      ) else (
        False
      ))
    ) else (
      ∃ y89, hC M77 5 (some a2) = some y89 ∧
      wX5_item M77 a2 p1 p2 p3 p4 p5 1 (fun M90 x88 =>
      ∃ y92, hC M90 5 (some a2) = some y92 ∧
      ∃ x91, fX5_thrown M90 a2 = some x91 ∧
      if (x91 : Int32) = x76 then (
        if (x76 : Int32) = 0 then (
          ∃ x95, aJ M90 2 (some a3) 0 = some x95 ∧
          if ((lg_cmp x95 (Int32.toInt64 x88)) : Int32) = 0 then (
            k1976 M90
          ) else (
            False
          )
        ) else (
          k1976 M90
        )
      ) else (
        False
      ))
    ))
  )
set_option maxRecDepth 100000 in
set_option maxHeartbeats 4000000 in
theorem tlw_4 {κ : hKx} {sz b L : Nat} {xs : Nat → Int32} (F : Cw κ RL code lw_tbl (fun _ => none) sz) (hR : kR κ = room_1) (hX : va_X b L xs (ks κ) (ks κ).heap) (hb : b < sz) {M : hM} {a1 a2 a3 : Nat} {a4 p1 p2 p3 p4 p5 p6 : Int32} {k1976 : hM → Prop} {cells slots : Nat} (hp1 : vp_in (a4 + 1) L ∧ xs (a4 + 1).toNatClampNeg = p1) (hp2 : vp_in (a4 + 2) L ∧ xs (a4 + 2).toNatClampNeg = p2) (hp3 : vp_in (a4 + 3) L ∧ xs (a4 + 3).toNatClampNeg = p3) (hp4 : vp_in (a4 + 4) L ∧ xs (a4 + 4).toNatClampNeg = p4) (hp5 : vp_in (a4 + 5) L ∧ xs (a4 + 5).toNatClampNeg = p5) (hp6 : vp_in (a4 + 6) L ∧ xs (a4 + 6).toNatClampNeg = p6) (hce : cells + 20 ≤ 601024) (hse : slots + 211 ≤ 7293034) (hk1976 : ∀ M, k1976 M → VW κ (cells + 20) (slots + 211) M 1976 [some (va_rf (some b)), some (va_rf (some a1)), some (va_rf (some a2)), some (va_rf (some a3)), some (.int a4), none, none] []) (h : lw_4 M a1 a2 a3 p1 p2 p3 p4 p5 p6 k1976) : VW κ cells slots M 451 [some (va_rf (some b)), some (va_rf (some a1)), some (va_rf (some a2)), some (va_rf (some a3)), some (.int a4), none, none] [] := by
  unfold lw_4 at h
  have C := F.1
  refine v_aload_n C (pc := 451) (i := 1) dL_law_451 rfl ?_
  refine v_aload_n C (pc := 452) (i := 0) dL_law_452 rfl ?_
  refine v_iload C (pc := 453) (i := 4) dL_law_453 rfl ?_
  refine v_iconst C (pc := 455) (v := 1) dL_law_455 (by decide) ?_
  refine v_iadd C (pc := 456) dL_law_456 ?_
  refine v_sld F hX hb (pc := 457) hp1 dL_law_457 ?_
  refine v_aload_n C (pc := 458) (i := 0) dL_law_458 rfl ?_
  refine v_iload C (pc := 459) (i := 4) dL_law_459 rfl ?_
  refine v_iconst C (pc := 461) (v := 2) dL_law_461 (by decide) ?_
  refine v_iadd C (pc := 462) dL_law_462 ?_
  refine v_sld F hX hb (pc := 463) hp2 dL_law_463 ?_
  refine v_aload_n C (pc := 464) (i := 0) dL_law_464 rfl ?_
  refine v_iload C (pc := 465) (i := 4) dL_law_465 rfl ?_
  refine v_iconst C (pc := 467) (v := 3) dL_law_467 (by decide) ?_
  refine v_iadd C (pc := 468) dL_law_468 ?_
  refine v_sld F hX hb (pc := 469) hp3 dL_law_469 ?_
  refine v_aload_n C (pc := 470) (i := 0) dL_law_470 rfl ?_
  refine v_iload C (pc := 471) (i := 4) dL_law_471 rfl ?_
  refine v_iconst C (pc := 473) (v := 4) dL_law_473 (by decide) ?_
  refine v_iadd C (pc := 474) dL_law_474 ?_
  refine v_sld F hX hb (pc := 475) hp4 dL_law_475 ?_
  refine v_aload_n C (pc := 476) (i := 0) dL_law_476 rfl ?_
  refine v_iload C (pc := 477) (i := 4) dL_law_477 rfl ?_
  refine v_iconst C (pc := 479) (v := 5) dL_law_479 (by decide) ?_
  refine v_iadd C (pc := 480) dL_law_480 ?_
  refine v_sld F hX hb (pc := 481) hp5 dL_law_481 ?_
  refine v_aload_n C (pc := 482) (i := 0) dL_law_482 rfl ?_
  refine v_iload C (pc := 483) (i := 4) dL_law_483 rfl ?_
  refine v_bipush C (pc := 485) (v := 6) dL_law_485 (by decide) ?_
  refine v_iadd C (pc := 487) dL_law_487 ?_
  refine v_sld F hX hb (pc := 488) hp6 dL_law_488 ?_
  refine v_if_eq C (pc := 489) (tgt := 496) dL_law_489 (by decide) (fun c54 => ?_) (fun c54 => ?_)
  · rw [if_pos c54] at h
    refine v_iconst C (pc := 496) (v := 0) dL_law_496 (by decide) ?_
    refine v_aload_n C (pc := 497) (i := 3) dL_law_497 rfl ?_
    refine v_nS F (pc := 498) [va_rf (some a1), .int p1, .int p2, .int p3, .int p4, .int p5, .int 0, va_rf (some a3)] 8 (cL_item_met (kl κ) F.2.2.2.1 (kG κ) _ h) (good_t3 gL_law_L_item) rfl hdsL_item rfl rfl rfl (by rw [hR]; exact ⟨Nat.le_of_ble_eq_true rfl, Nat.le_of_ble_eq_true rfl⟩) (by rw [hR]; exact ⟨by show _ ≤ 601024; omega, by show _ ≤ 7293034; omega⟩) (Nat.le_of_ble_eq_true rfl) rfl dL_law_498 (hk_i fun M56 x55 h => ?_)
    refine v_istore C (pc := 501) (i := 5) (lv' := [some (va_rf (some b)), some (va_rf (some a1)), some (va_rf (some a2)), some (va_rf (some a3)), some (.int a4), some (.int x55), none]) dL_law_501 rfl rfl ?_
    refine v_aload_n C (pc := 503) (i := 2) dL_law_503 rfl ?_
    refine v_aload_n C (pc := 504) (i := 0) dL_law_504 rfl ?_
    refine v_iload C (pc := 505) (i := 4) dL_law_505 rfl ?_
    refine v_iconst C (pc := 507) (v := 1) dL_law_507 (by decide) ?_
    refine v_iadd C (pc := 508) dL_law_508 ?_
    refine v_sld F hX hb (pc := 509) hp1 dL_law_509 ?_
    refine v_aload_n C (pc := 510) (i := 0) dL_law_510 rfl ?_
    refine v_iload C (pc := 511) (i := 4) dL_law_511 rfl ?_
    refine v_iconst C (pc := 513) (v := 2) dL_law_513 (by decide) ?_
    refine v_iadd C (pc := 514) dL_law_514 ?_
    refine v_sld F hX hb (pc := 515) hp2 dL_law_515 ?_
    refine v_aload_n C (pc := 516) (i := 0) dL_law_516 rfl ?_
    refine v_iload C (pc := 517) (i := 4) dL_law_517 rfl ?_
    refine v_iconst C (pc := 519) (v := 3) dL_law_519 (by decide) ?_
    refine v_iadd C (pc := 520) dL_law_520 ?_
    refine v_sld F hX hb (pc := 521) hp3 dL_law_521 ?_
    refine v_aload_n C (pc := 522) (i := 0) dL_law_522 rfl ?_
    refine v_iload C (pc := 523) (i := 4) dL_law_523 rfl ?_
    refine v_iconst C (pc := 525) (v := 4) dL_law_525 (by decide) ?_
    refine v_iadd C (pc := 526) dL_law_526 ?_
    refine v_sld F hX hb (pc := 527) hp4 dL_law_527 ?_
    refine v_aload_n C (pc := 528) (i := 0) dL_law_528 rfl ?_
    refine v_iload C (pc := 529) (i := 4) dL_law_529 rfl ?_
    refine v_iconst C (pc := 531) (v := 5) dL_law_531 (by decide) ?_
    refine v_iadd C (pc := 532) dL_law_532 ?_
    refine v_sld F hX hb (pc := 533) hp5 dL_law_533 ?_
    refine v_aload_n C (pc := 534) (i := 0) dL_law_534 rfl ?_
    refine v_iload C (pc := 535) (i := 4) dL_law_535 rfl ?_
    refine v_bipush C (pc := 537) (v := 6) dL_law_537 (by decide) ?_
    refine v_iadd C (pc := 539) dL_law_539 ?_
    refine v_sld F hX hb (pc := 540) hp6 dL_law_540 ?_
    refine v_if_eq C (pc := 541) (tgt := 548) dL_law_541 (by decide) (fun c57 => ?_) (fun c57 => ?_)
    · rw [if_pos c57] at h
      refine v_iconst C (pc := 548) (v := 0) dL_law_548 (by decide) ?_
      obtain ⟨y59, hy59, h⟩ := h
      obtain ⟨fsy59, hfy59⟩ := hC_some hy59
      refine v_nV F (pc := 549) (ci := 5) [.int p1, .int p2, .int p3, .int p4, .int p5, .int 0] 6 (cX5_item_met (kl κ) F.2.2.2.1 (kG κ) _ h) hfy59 rfl (good_t gL_law_X5_item) rfl hdX5_item rfl rfl rfl (by rw [hR]; exact ⟨Nat.le_of_ble_eq_true rfl, Nat.le_of_ble_eq_true rfl⟩) (by rw [hR]; exact ⟨by show _ ≤ 601024; omega, by show _ ≤ 7293034; omega⟩) (Nat.le_of_ble_eq_true rfl) rfl dL_law_549 (hk_i fun M60 x58 h => ?_)
      refine v_istore C (pc := 552) (i := 6) (lv' := [some (va_rf (some b)), some (va_rf (some a1)), some (va_rf (some a2)), some (va_rf (some a3)), some (.int a4), some (.int x55), some (.int x58)]) dL_law_552 rfl rfl ?_
      refine v_aload_n C (pc := 554) (i := 2) dL_law_554 rfl ?_
      obtain ⟨y62, hy62, h⟩ := h
      obtain ⟨fsy62, hfy62⟩ := hC_some hy62
      obtain ⟨x61, e61, h⟩ := h
      refine v_pV C (pc := 555) (ci := 5) [] 0 (cX5_thrown_met (kl κ) (kG κ) _ e61) hfy62 rfl (good_t gL_law_X5_thrown) rfl hdX5_thrown rfl rfl rfl (by rw [hR]; exact ⟨Nat.le_of_ble_eq_true rfl, Nat.le_of_ble_eq_true rfl⟩) (by rw [hR]; exact ⟨by show _ ≤ 601024; omega, by show _ ≤ 7293034; omega⟩) (Nat.le_of_ble_eq_true rfl) rfl dL_law_555 ?_
      refine v_iload C (pc := 558) (i := 5) dL_law_558 rfl ?_
      refine v_icmp_eq C (pc := 560) (tgt := 565) dL_law_560 (by decide) (fun c63 => ?_) (fun c63 => ?_)
      · rw [if_pos c63] at h
        refine v_iload C (pc := 565) (i := 5) dL_law_565 rfl ?_
        refine v_if_ne C (pc := 567) (tgt := 582) dL_law_567 (by decide) (fun c64 => ?_) (fun c64 => ?_)
        · rw [if_neg c64] at h
          refine v_goto C (pc := 582) (tgt := 1976) dL_law_582 (by decide) ?_
          refine v_mask (lv' := [some (va_rf (some b)), some (va_rf (some a1)), some (va_rf (some a2)), some (va_rf (some a3)), some (.int a4), none, none]) [true, true, true, true, true, false, false] rfl rfl ?_
          refine v_widen (k := cells + 20) (n := slots + 211) (by omega) (by omega) ?_
          exact hk1976 _ h
        · rw [if_pos c64] at h
          refine v_aload_n C (pc := 570) (i := 3) dL_law_570 rfl ?_
          refine v_iconst C (pc := 571) (v := 0) dL_law_571 (by decide) ?_
          obtain ⟨x65, e65, h⟩ := h
          refine v_lald C (pc := 572) e65 dL_law_572 ?_
          refine v_iload C (pc := 573) (i := 6) dL_law_573 rfl ?_
          refine v_i2l C (pc := 575) dL_law_575 ?_
          refine v_lcmp C (pc := 576) dL_law_576 ?_
          refine v_if_eq C (pc := 577) (tgt := 582) dL_law_577 (by decide) (fun c66 => ?_) (fun c66 => ?_)
          · rw [if_pos c66] at h
            refine v_goto C (pc := 582) (tgt := 1976) dL_law_582 (by decide) ?_
            refine v_mask (lv' := [some (va_rf (some b)), some (va_rf (some a1)), some (va_rf (some a2)), some (va_rf (some a3)), some (.int a4), none, none]) [true, true, true, true, true, false, false] rfl rfl ?_
            refine v_widen (k := cells + 20) (n := slots + 211) (by omega) (by omega) ?_
            exact hk1976 _ h
          · rw [if_neg c66] at h
            refine v_iconst C (pc := 580) (v := 0) dL_law_580 (by decide) ?_
            exact h.elim
      · rw [if_neg c63] at h
        refine v_iconst C (pc := 563) (v := 0) dL_law_563 (by decide) ?_
        exact h.elim
    · rw [if_neg c57] at h
      refine v_iconst C (pc := 544) (v := 1) dL_law_544 (by decide) ?_
      refine v_goto C (pc := 545) (tgt := 549) dL_law_545 (by decide) ?_
      obtain ⟨y68, hy68, h⟩ := h
      obtain ⟨fsy68, hfy68⟩ := hC_some hy68
      refine v_nV F (pc := 549) (ci := 5) [.int p1, .int p2, .int p3, .int p4, .int p5, .int 1] 6 (cX5_item_met (kl κ) F.2.2.2.1 (kG κ) _ h) hfy68 rfl (good_t gL_law_X5_item) rfl hdX5_item rfl rfl rfl (by rw [hR]; exact ⟨Nat.le_of_ble_eq_true rfl, Nat.le_of_ble_eq_true rfl⟩) (by rw [hR]; exact ⟨by show _ ≤ 601024; omega, by show _ ≤ 7293034; omega⟩) (Nat.le_of_ble_eq_true rfl) rfl dL_law_549 (hk_i fun M69 x67 h => ?_)
      refine v_istore C (pc := 552) (i := 6) (lv' := [some (va_rf (some b)), some (va_rf (some a1)), some (va_rf (some a2)), some (va_rf (some a3)), some (.int a4), some (.int x55), some (.int x67)]) dL_law_552 rfl rfl ?_
      refine v_aload_n C (pc := 554) (i := 2) dL_law_554 rfl ?_
      obtain ⟨y71, hy71, h⟩ := h
      obtain ⟨fsy71, hfy71⟩ := hC_some hy71
      obtain ⟨x70, e70, h⟩ := h
      refine v_pV C (pc := 555) (ci := 5) [] 0 (cX5_thrown_met (kl κ) (kG κ) _ e70) hfy71 rfl (good_t gL_law_X5_thrown) rfl hdX5_thrown rfl rfl rfl (by rw [hR]; exact ⟨Nat.le_of_ble_eq_true rfl, Nat.le_of_ble_eq_true rfl⟩) (by rw [hR]; exact ⟨by show _ ≤ 601024; omega, by show _ ≤ 7293034; omega⟩) (Nat.le_of_ble_eq_true rfl) rfl dL_law_555 ?_
      refine v_iload C (pc := 558) (i := 5) dL_law_558 rfl ?_
      refine v_icmp_eq C (pc := 560) (tgt := 565) dL_law_560 (by decide) (fun c72 => ?_) (fun c72 => ?_)
      · rw [if_pos c72] at h
        refine v_iload C (pc := 565) (i := 5) dL_law_565 rfl ?_
        refine v_if_ne C (pc := 567) (tgt := 582) dL_law_567 (by decide) (fun c73 => ?_) (fun c73 => ?_)
        · rw [if_neg c73] at h
          refine v_goto C (pc := 582) (tgt := 1976) dL_law_582 (by decide) ?_
          refine v_mask (lv' := [some (va_rf (some b)), some (va_rf (some a1)), some (va_rf (some a2)), some (va_rf (some a3)), some (.int a4), none, none]) [true, true, true, true, true, false, false] rfl rfl ?_
          refine v_widen (k := cells + 20) (n := slots + 211) (by omega) (by omega) ?_
          exact hk1976 _ h
        · rw [if_pos c73] at h
          refine v_aload_n C (pc := 570) (i := 3) dL_law_570 rfl ?_
          refine v_iconst C (pc := 571) (v := 0) dL_law_571 (by decide) ?_
          obtain ⟨x74, e74, h⟩ := h
          refine v_lald C (pc := 572) e74 dL_law_572 ?_
          refine v_iload C (pc := 573) (i := 6) dL_law_573 rfl ?_
          refine v_i2l C (pc := 575) dL_law_575 ?_
          refine v_lcmp C (pc := 576) dL_law_576 ?_
          refine v_if_eq C (pc := 577) (tgt := 582) dL_law_577 (by decide) (fun c75 => ?_) (fun c75 => ?_)
          · rw [if_pos c75] at h
            refine v_goto C (pc := 582) (tgt := 1976) dL_law_582 (by decide) ?_
            refine v_mask (lv' := [some (va_rf (some b)), some (va_rf (some a1)), some (va_rf (some a2)), some (va_rf (some a3)), some (.int a4), none, none]) [true, true, true, true, true, false, false] rfl rfl ?_
            refine v_widen (k := cells + 20) (n := slots + 211) (by omega) (by omega) ?_
            exact hk1976 _ h
          · rw [if_neg c75] at h
            refine v_iconst C (pc := 580) (v := 0) dL_law_580 (by decide) ?_
            exact h.elim
      · rw [if_neg c72] at h
        refine v_iconst C (pc := 563) (v := 0) dL_law_563 (by decide) ?_
        exact h.elim
  · rw [if_neg c54] at h
    refine v_iconst C (pc := 492) (v := 1) dL_law_492 (by decide) ?_
    refine v_goto C (pc := 493) (tgt := 497) dL_law_493 (by decide) ?_
    refine v_aload_n C (pc := 497) (i := 3) dL_law_497 rfl ?_
    refine v_nS F (pc := 498) [va_rf (some a1), .int p1, .int p2, .int p3, .int p4, .int p5, .int 1, va_rf (some a3)] 8 (cL_item_met (kl κ) F.2.2.2.1 (kG κ) _ h) (good_t3 gL_law_L_item) rfl hdsL_item rfl rfl rfl (by rw [hR]; exact ⟨Nat.le_of_ble_eq_true rfl, Nat.le_of_ble_eq_true rfl⟩) (by rw [hR]; exact ⟨by show _ ≤ 601024; omega, by show _ ≤ 7293034; omega⟩) (Nat.le_of_ble_eq_true rfl) rfl dL_law_498 (hk_i fun M77 x76 h => ?_)
    refine v_istore C (pc := 501) (i := 5) (lv' := [some (va_rf (some b)), some (va_rf (some a1)), some (va_rf (some a2)), some (va_rf (some a3)), some (.int a4), some (.int x76), none]) dL_law_501 rfl rfl ?_
    refine v_aload_n C (pc := 503) (i := 2) dL_law_503 rfl ?_
    refine v_aload_n C (pc := 504) (i := 0) dL_law_504 rfl ?_
    refine v_iload C (pc := 505) (i := 4) dL_law_505 rfl ?_
    refine v_iconst C (pc := 507) (v := 1) dL_law_507 (by decide) ?_
    refine v_iadd C (pc := 508) dL_law_508 ?_
    refine v_sld F hX hb (pc := 509) hp1 dL_law_509 ?_
    refine v_aload_n C (pc := 510) (i := 0) dL_law_510 rfl ?_
    refine v_iload C (pc := 511) (i := 4) dL_law_511 rfl ?_
    refine v_iconst C (pc := 513) (v := 2) dL_law_513 (by decide) ?_
    refine v_iadd C (pc := 514) dL_law_514 ?_
    refine v_sld F hX hb (pc := 515) hp2 dL_law_515 ?_
    refine v_aload_n C (pc := 516) (i := 0) dL_law_516 rfl ?_
    refine v_iload C (pc := 517) (i := 4) dL_law_517 rfl ?_
    refine v_iconst C (pc := 519) (v := 3) dL_law_519 (by decide) ?_
    refine v_iadd C (pc := 520) dL_law_520 ?_
    refine v_sld F hX hb (pc := 521) hp3 dL_law_521 ?_
    refine v_aload_n C (pc := 522) (i := 0) dL_law_522 rfl ?_
    refine v_iload C (pc := 523) (i := 4) dL_law_523 rfl ?_
    refine v_iconst C (pc := 525) (v := 4) dL_law_525 (by decide) ?_
    refine v_iadd C (pc := 526) dL_law_526 ?_
    refine v_sld F hX hb (pc := 527) hp4 dL_law_527 ?_
    refine v_aload_n C (pc := 528) (i := 0) dL_law_528 rfl ?_
    refine v_iload C (pc := 529) (i := 4) dL_law_529 rfl ?_
    refine v_iconst C (pc := 531) (v := 5) dL_law_531 (by decide) ?_
    refine v_iadd C (pc := 532) dL_law_532 ?_
    refine v_sld F hX hb (pc := 533) hp5 dL_law_533 ?_
    refine v_aload_n C (pc := 534) (i := 0) dL_law_534 rfl ?_
    refine v_iload C (pc := 535) (i := 4) dL_law_535 rfl ?_
    refine v_bipush C (pc := 537) (v := 6) dL_law_537 (by decide) ?_
    refine v_iadd C (pc := 539) dL_law_539 ?_
    refine v_sld F hX hb (pc := 540) hp6 dL_law_540 ?_
    refine v_if_eq C (pc := 541) (tgt := 548) dL_law_541 (by decide) (fun c78 => ?_) (fun c78 => ?_)
    · rw [if_pos c78] at h
      refine v_iconst C (pc := 548) (v := 0) dL_law_548 (by decide) ?_
      obtain ⟨y80, hy80, h⟩ := h
      obtain ⟨fsy80, hfy80⟩ := hC_some hy80
      refine v_nV F (pc := 549) (ci := 5) [.int p1, .int p2, .int p3, .int p4, .int p5, .int 0] 6 (cX5_item_met (kl κ) F.2.2.2.1 (kG κ) _ h) hfy80 rfl (good_t gL_law_X5_item) rfl hdX5_item rfl rfl rfl (by rw [hR]; exact ⟨Nat.le_of_ble_eq_true rfl, Nat.le_of_ble_eq_true rfl⟩) (by rw [hR]; exact ⟨by show _ ≤ 601024; omega, by show _ ≤ 7293034; omega⟩) (Nat.le_of_ble_eq_true rfl) rfl dL_law_549 (hk_i fun M81 x79 h => ?_)
      refine v_istore C (pc := 552) (i := 6) (lv' := [some (va_rf (some b)), some (va_rf (some a1)), some (va_rf (some a2)), some (va_rf (some a3)), some (.int a4), some (.int x76), some (.int x79)]) dL_law_552 rfl rfl ?_
      refine v_aload_n C (pc := 554) (i := 2) dL_law_554 rfl ?_
      obtain ⟨y83, hy83, h⟩ := h
      obtain ⟨fsy83, hfy83⟩ := hC_some hy83
      obtain ⟨x82, e82, h⟩ := h
      refine v_pV C (pc := 555) (ci := 5) [] 0 (cX5_thrown_met (kl κ) (kG κ) _ e82) hfy83 rfl (good_t gL_law_X5_thrown) rfl hdX5_thrown rfl rfl rfl (by rw [hR]; exact ⟨Nat.le_of_ble_eq_true rfl, Nat.le_of_ble_eq_true rfl⟩) (by rw [hR]; exact ⟨by show _ ≤ 601024; omega, by show _ ≤ 7293034; omega⟩) (Nat.le_of_ble_eq_true rfl) rfl dL_law_555 ?_
      refine v_iload C (pc := 558) (i := 5) dL_law_558 rfl ?_
      refine v_icmp_eq C (pc := 560) (tgt := 565) dL_law_560 (by decide) (fun c84 => ?_) (fun c84 => ?_)
      · rw [if_pos c84] at h
        refine v_iload C (pc := 565) (i := 5) dL_law_565 rfl ?_
        refine v_if_ne C (pc := 567) (tgt := 582) dL_law_567 (by decide) (fun c85 => ?_) (fun c85 => ?_)
        · rw [if_neg c85] at h
          refine v_goto C (pc := 582) (tgt := 1976) dL_law_582 (by decide) ?_
          refine v_mask (lv' := [some (va_rf (some b)), some (va_rf (some a1)), some (va_rf (some a2)), some (va_rf (some a3)), some (.int a4), none, none]) [true, true, true, true, true, false, false] rfl rfl ?_
          refine v_widen (k := cells + 20) (n := slots + 211) (by omega) (by omega) ?_
          exact hk1976 _ h
        · rw [if_pos c85] at h
          refine v_aload_n C (pc := 570) (i := 3) dL_law_570 rfl ?_
          refine v_iconst C (pc := 571) (v := 0) dL_law_571 (by decide) ?_
          obtain ⟨x86, e86, h⟩ := h
          refine v_lald C (pc := 572) e86 dL_law_572 ?_
          refine v_iload C (pc := 573) (i := 6) dL_law_573 rfl ?_
          refine v_i2l C (pc := 575) dL_law_575 ?_
          refine v_lcmp C (pc := 576) dL_law_576 ?_
          refine v_if_eq C (pc := 577) (tgt := 582) dL_law_577 (by decide) (fun c87 => ?_) (fun c87 => ?_)
          · rw [if_pos c87] at h
            refine v_goto C (pc := 582) (tgt := 1976) dL_law_582 (by decide) ?_
            refine v_mask (lv' := [some (va_rf (some b)), some (va_rf (some a1)), some (va_rf (some a2)), some (va_rf (some a3)), some (.int a4), none, none]) [true, true, true, true, true, false, false] rfl rfl ?_
            refine v_widen (k := cells + 20) (n := slots + 211) (by omega) (by omega) ?_
            exact hk1976 _ h
          · rw [if_neg c87] at h
            refine v_iconst C (pc := 580) (v := 0) dL_law_580 (by decide) ?_
            exact h.elim
      · rw [if_neg c84] at h
        refine v_iconst C (pc := 563) (v := 0) dL_law_563 (by decide) ?_
        exact h.elim
    · rw [if_neg c78] at h
      refine v_iconst C (pc := 544) (v := 1) dL_law_544 (by decide) ?_
      refine v_goto C (pc := 545) (tgt := 549) dL_law_545 (by decide) ?_
      obtain ⟨y89, hy89, h⟩ := h
      obtain ⟨fsy89, hfy89⟩ := hC_some hy89
      refine v_nV F (pc := 549) (ci := 5) [.int p1, .int p2, .int p3, .int p4, .int p5, .int 1] 6 (cX5_item_met (kl κ) F.2.2.2.1 (kG κ) _ h) hfy89 rfl (good_t gL_law_X5_item) rfl hdX5_item rfl rfl rfl (by rw [hR]; exact ⟨Nat.le_of_ble_eq_true rfl, Nat.le_of_ble_eq_true rfl⟩) (by rw [hR]; exact ⟨by show _ ≤ 601024; omega, by show _ ≤ 7293034; omega⟩) (Nat.le_of_ble_eq_true rfl) rfl dL_law_549 (hk_i fun M90 x88 h => ?_)
      refine v_istore C (pc := 552) (i := 6) (lv' := [some (va_rf (some b)), some (va_rf (some a1)), some (va_rf (some a2)), some (va_rf (some a3)), some (.int a4), some (.int x76), some (.int x88)]) dL_law_552 rfl rfl ?_
      refine v_aload_n C (pc := 554) (i := 2) dL_law_554 rfl ?_
      obtain ⟨y92, hy92, h⟩ := h
      obtain ⟨fsy92, hfy92⟩ := hC_some hy92
      obtain ⟨x91, e91, h⟩ := h
      refine v_pV C (pc := 555) (ci := 5) [] 0 (cX5_thrown_met (kl κ) (kG κ) _ e91) hfy92 rfl (good_t gL_law_X5_thrown) rfl hdX5_thrown rfl rfl rfl (by rw [hR]; exact ⟨Nat.le_of_ble_eq_true rfl, Nat.le_of_ble_eq_true rfl⟩) (by rw [hR]; exact ⟨by show _ ≤ 601024; omega, by show _ ≤ 7293034; omega⟩) (Nat.le_of_ble_eq_true rfl) rfl dL_law_555 ?_
      refine v_iload C (pc := 558) (i := 5) dL_law_558 rfl ?_
      refine v_icmp_eq C (pc := 560) (tgt := 565) dL_law_560 (by decide) (fun c93 => ?_) (fun c93 => ?_)
      · rw [if_pos c93] at h
        refine v_iload C (pc := 565) (i := 5) dL_law_565 rfl ?_
        refine v_if_ne C (pc := 567) (tgt := 582) dL_law_567 (by decide) (fun c94 => ?_) (fun c94 => ?_)
        · rw [if_neg c94] at h
          refine v_goto C (pc := 582) (tgt := 1976) dL_law_582 (by decide) ?_
          refine v_mask (lv' := [some (va_rf (some b)), some (va_rf (some a1)), some (va_rf (some a2)), some (va_rf (some a3)), some (.int a4), none, none]) [true, true, true, true, true, false, false] rfl rfl ?_
          refine v_widen (k := cells + 20) (n := slots + 211) (by omega) (by omega) ?_
          exact hk1976 _ h
        · rw [if_pos c94] at h
          refine v_aload_n C (pc := 570) (i := 3) dL_law_570 rfl ?_
          refine v_iconst C (pc := 571) (v := 0) dL_law_571 (by decide) ?_
          obtain ⟨x95, e95, h⟩ := h
          refine v_lald C (pc := 572) e95 dL_law_572 ?_
          refine v_iload C (pc := 573) (i := 6) dL_law_573 rfl ?_
          refine v_i2l C (pc := 575) dL_law_575 ?_
          refine v_lcmp C (pc := 576) dL_law_576 ?_
          refine v_if_eq C (pc := 577) (tgt := 582) dL_law_577 (by decide) (fun c96 => ?_) (fun c96 => ?_)
          · rw [if_pos c96] at h
            refine v_goto C (pc := 582) (tgt := 1976) dL_law_582 (by decide) ?_
            refine v_mask (lv' := [some (va_rf (some b)), some (va_rf (some a1)), some (va_rf (some a2)), some (va_rf (some a3)), some (.int a4), none, none]) [true, true, true, true, true, false, false] rfl rfl ?_
            refine v_widen (k := cells + 20) (n := slots + 211) (by omega) (by omega) ?_
            exact hk1976 _ h
          · rw [if_neg c96] at h
            refine v_iconst C (pc := 580) (v := 0) dL_law_580 (by decide) ?_
            exact h.elim
      · rw [if_neg c93] at h
        refine v_iconst C (pc := 563) (v := 0) dL_law_563 (by decide) ?_
        exact h.elim

def lw_5 (M : hM) (a1 a2 a3 : Nat) (p1 p2 p3 p4 p5 p6 : Int32) (k1976 : hM → Prop) : Prop :=
  wL_admit M (some a1) p1 (fun M98 x97 =>
  ∃ y100, hC M98 5 (some a2) = some y100 ∧
  wX5_admit M98 a2 p1 (fun M101 =>
  ∃ y103, hC M101 5 (some a2) = some y103 ∧
  ∃ x102, fX5_thrown M101 a2 = some x102 ∧
  if (x102 : Int32) = x97 then (
    k1976 M101
  ) else (
    False
  )))
set_option maxRecDepth 100000 in
set_option maxHeartbeats 4000000 in
theorem tlw_5 {κ : hKx} {sz b L : Nat} {xs : Nat → Int32} (F : Cw κ RL code lw_tbl (fun _ => none) sz) (hR : kR κ = room_1) (hX : va_X b L xs (ks κ) (ks κ).heap) (hb : b < sz) {M : hM} {a1 a2 a3 : Nat} {a4 p1 p2 p3 p4 p5 p6 : Int32} {k1976 : hM → Prop} {cells slots : Nat} (hp1 : vp_in (a4 + 1) L ∧ xs (a4 + 1).toNatClampNeg = p1) (hp2 : vp_in (a4 + 2) L ∧ xs (a4 + 2).toNatClampNeg = p2) (hp3 : vp_in (a4 + 3) L ∧ xs (a4 + 3).toNatClampNeg = p3) (hp4 : vp_in (a4 + 4) L ∧ xs (a4 + 4).toNatClampNeg = p4) (hp5 : vp_in (a4 + 5) L ∧ xs (a4 + 5).toNatClampNeg = p5) (hp6 : vp_in (a4 + 6) L ∧ xs (a4 + 6).toNatClampNeg = p6) (hce : cells + 20 ≤ 601024) (hse : slots + 211 ≤ 7293034) (hk1976 : ∀ M, k1976 M → VW κ (cells + 20) (slots + 211) M 1976 [some (va_rf (some b)), some (va_rf (some a1)), some (va_rf (some a2)), some (va_rf (some a3)), some (.int a4), none, none] []) (h : lw_5 M a1 a2 a3 p1 p2 p3 p4 p5 p6 k1976) : VW κ cells slots M 585 [some (va_rf (some b)), some (va_rf (some a1)), some (va_rf (some a2)), some (va_rf (some a3)), some (.int a4), none, none] [] := by
  unfold lw_5 at h
  have C := F.1
  refine v_aload_n C (pc := 585) (i := 1) dL_law_585 rfl ?_
  refine v_aload_n C (pc := 586) (i := 0) dL_law_586 rfl ?_
  refine v_iload C (pc := 587) (i := 4) dL_law_587 rfl ?_
  refine v_iconst C (pc := 589) (v := 1) dL_law_589 (by decide) ?_
  refine v_iadd C (pc := 590) dL_law_590 ?_
  refine v_sld F hX hb (pc := 591) hp1 dL_law_591 ?_
  refine v_nS F (pc := 592) [va_rf (some a1), .int p1] 2 (cL_admit_met (kl κ) F.2.2.2.1 (kG κ) _ h) (good_t3 gL_law_L_admit) rfl hdsL_admit rfl rfl rfl (by rw [hR]; exact ⟨Nat.le_of_ble_eq_true rfl, Nat.le_of_ble_eq_true rfl⟩) (by rw [hR]; exact ⟨by show _ ≤ 601024; omega, by show _ ≤ 7293034; omega⟩) (Nat.le_of_ble_eq_true rfl) rfl dL_law_592 (hk_i fun M98 x97 h => ?_)
  refine v_istore C (pc := 595) (i := 5) (lv' := [some (va_rf (some b)), some (va_rf (some a1)), some (va_rf (some a2)), some (va_rf (some a3)), some (.int a4), some (.int x97), none]) dL_law_595 rfl rfl ?_
  refine v_aload_n C (pc := 597) (i := 2) dL_law_597 rfl ?_
  refine v_aload_n C (pc := 598) (i := 0) dL_law_598 rfl ?_
  refine v_iload C (pc := 599) (i := 4) dL_law_599 rfl ?_
  refine v_iconst C (pc := 601) (v := 1) dL_law_601 (by decide) ?_
  refine v_iadd C (pc := 602) dL_law_602 ?_
  refine v_sld F hX hb (pc := 603) hp1 dL_law_603 ?_
  obtain ⟨y100, hy100, h⟩ := h
  obtain ⟨fsy100, hfy100⟩ := hC_some hy100
  refine v_nV F (pc := 604) (ci := 5) [.int p1] 1 (cX5_admit_met (kl κ) F.2.2.2.1 (kG κ) _ h) hfy100 rfl (good_t gL_law_X5_admit) rfl hdX5_admit rfl rfl rfl (by rw [hR]; exact ⟨Nat.le_of_ble_eq_true rfl, Nat.le_of_ble_eq_true rfl⟩) (by rw [hR]; exact ⟨by show _ ≤ 601024; omega, by show _ ≤ 7293034; omega⟩) (Nat.le_of_ble_eq_true rfl) rfl dL_law_604 (hk_v fun M101 h => ?_)
  refine v_aload_n C (pc := 607) (i := 2) dL_law_607 rfl ?_
  obtain ⟨y103, hy103, h⟩ := h
  obtain ⟨fsy103, hfy103⟩ := hC_some hy103
  obtain ⟨x102, e102, h⟩ := h
  refine v_pV C (pc := 608) (ci := 5) [] 0 (cX5_thrown_met (kl κ) (kG κ) _ e102) hfy103 rfl (good_t gL_law_X5_thrown) rfl hdX5_thrown rfl rfl rfl (by rw [hR]; exact ⟨Nat.le_of_ble_eq_true rfl, Nat.le_of_ble_eq_true rfl⟩) (by rw [hR]; exact ⟨by show _ ≤ 601024; omega, by show _ ≤ 7293034; omega⟩) (Nat.le_of_ble_eq_true rfl) rfl dL_law_608 ?_
  refine v_iload C (pc := 611) (i := 5) dL_law_611 rfl ?_
  refine v_icmp_eq C (pc := 613) (tgt := 618) dL_law_613 (by decide) (fun c104 => ?_) (fun c104 => ?_)
  · rw [if_pos c104] at h
    refine v_goto C (pc := 618) (tgt := 1976) dL_law_618 (by decide) ?_
    refine v_mask (lv' := [some (va_rf (some b)), some (va_rf (some a1)), some (va_rf (some a2)), some (va_rf (some a3)), some (.int a4), none, none]) [true, true, true, true, true, false, false] rfl rfl ?_
    refine v_widen (k := cells + 20) (n := slots + 211) (by omega) (by omega) ?_
    exact hk1976 _ h
  · rw [if_neg c104] at h
    refine v_iconst C (pc := 616) (v := 0) dL_law_616 (by decide) ?_
    exact h.elim

def lw_6 (M : hM) (a1 a2 a3 : Nat) (p1 p2 p3 p4 p5 p6 : Int32) (k1976 : hM → Prop) : Prop :=
  wL_show M (some a1) p1 p2 (some a3) (fun M106 x105 =>
  ∃ y108, hC M106 5 (some a2) = some y108 ∧
  wX5_show M106 a2 p1 p2 (fun M109 x107 =>
  ∃ y111, hC M109 5 (some a2) = some y111 ∧
  ∃ x110, fX5_thrown M109 a2 = some x110 ∧
  if (x110 : Int32) = x105 then (
    if (x105 : Int32) = 0 then (
      ∃ x114, aJ M109 2 (some a3) 0 = some x114 ∧
      if ((lg_cmp x114 (Int32.toInt64 x107)) : Int32) = 0 then (
        k1976 M109
      ) else (
        False
      )
    ) else (
      k1976 M109
    )
  ) else (
    False
  )))
set_option maxRecDepth 100000 in
set_option maxHeartbeats 4000000 in
theorem tlw_6 {κ : hKx} {sz b L : Nat} {xs : Nat → Int32} (F : Cw κ RL code lw_tbl (fun _ => none) sz) (hR : kR κ = room_1) (hX : va_X b L xs (ks κ) (ks κ).heap) (hb : b < sz) {M : hM} {a1 a2 a3 : Nat} {a4 p1 p2 p3 p4 p5 p6 : Int32} {k1976 : hM → Prop} {cells slots : Nat} (hp1 : vp_in (a4 + 1) L ∧ xs (a4 + 1).toNatClampNeg = p1) (hp2 : vp_in (a4 + 2) L ∧ xs (a4 + 2).toNatClampNeg = p2) (hp3 : vp_in (a4 + 3) L ∧ xs (a4 + 3).toNatClampNeg = p3) (hp4 : vp_in (a4 + 4) L ∧ xs (a4 + 4).toNatClampNeg = p4) (hp5 : vp_in (a4 + 5) L ∧ xs (a4 + 5).toNatClampNeg = p5) (hp6 : vp_in (a4 + 6) L ∧ xs (a4 + 6).toNatClampNeg = p6) (hce : cells + 20 ≤ 601024) (hse : slots + 211 ≤ 7293034) (hk1976 : ∀ M, k1976 M → VW κ (cells + 20) (slots + 211) M 1976 [some (va_rf (some b)), some (va_rf (some a1)), some (va_rf (some a2)), some (va_rf (some a3)), some (.int a4), none, none] []) (h : lw_6 M a1 a2 a3 p1 p2 p3 p4 p5 p6 k1976) : VW κ cells slots M 621 [some (va_rf (some b)), some (va_rf (some a1)), some (va_rf (some a2)), some (va_rf (some a3)), some (.int a4), none, none] [] := by
  unfold lw_6 at h
  have C := F.1
  refine v_aload_n C (pc := 621) (i := 1) dL_law_621 rfl ?_
  refine v_aload_n C (pc := 622) (i := 0) dL_law_622 rfl ?_
  refine v_iload C (pc := 623) (i := 4) dL_law_623 rfl ?_
  refine v_iconst C (pc := 625) (v := 1) dL_law_625 (by decide) ?_
  refine v_iadd C (pc := 626) dL_law_626 ?_
  refine v_sld F hX hb (pc := 627) hp1 dL_law_627 ?_
  refine v_aload_n C (pc := 628) (i := 0) dL_law_628 rfl ?_
  refine v_iload C (pc := 629) (i := 4) dL_law_629 rfl ?_
  refine v_iconst C (pc := 631) (v := 2) dL_law_631 (by decide) ?_
  refine v_iadd C (pc := 632) dL_law_632 ?_
  refine v_sld F hX hb (pc := 633) hp2 dL_law_633 ?_
  refine v_aload_n C (pc := 634) (i := 3) dL_law_634 rfl ?_
  refine v_nS F (pc := 635) [va_rf (some a1), .int p1, .int p2, va_rf (some a3)] 4 (cL_show_met (kl κ) F.2.2.2.1 (kG κ) _ h) (good_t3 gL_law_L_show) rfl hdsL_show rfl rfl rfl (by rw [hR]; exact ⟨Nat.le_of_ble_eq_true rfl, Nat.le_of_ble_eq_true rfl⟩) (by rw [hR]; exact ⟨by show _ ≤ 601024; omega, by show _ ≤ 7293034; omega⟩) (Nat.le_of_ble_eq_true rfl) rfl dL_law_635 (hk_i fun M106 x105 h => ?_)
  refine v_istore C (pc := 638) (i := 5) (lv' := [some (va_rf (some b)), some (va_rf (some a1)), some (va_rf (some a2)), some (va_rf (some a3)), some (.int a4), some (.int x105), none]) dL_law_638 rfl rfl ?_
  refine v_aload_n C (pc := 640) (i := 2) dL_law_640 rfl ?_
  refine v_aload_n C (pc := 641) (i := 0) dL_law_641 rfl ?_
  refine v_iload C (pc := 642) (i := 4) dL_law_642 rfl ?_
  refine v_iconst C (pc := 644) (v := 1) dL_law_644 (by decide) ?_
  refine v_iadd C (pc := 645) dL_law_645 ?_
  refine v_sld F hX hb (pc := 646) hp1 dL_law_646 ?_
  refine v_aload_n C (pc := 647) (i := 0) dL_law_647 rfl ?_
  refine v_iload C (pc := 648) (i := 4) dL_law_648 rfl ?_
  refine v_iconst C (pc := 650) (v := 2) dL_law_650 (by decide) ?_
  refine v_iadd C (pc := 651) dL_law_651 ?_
  refine v_sld F hX hb (pc := 652) hp2 dL_law_652 ?_
  obtain ⟨y108, hy108, h⟩ := h
  obtain ⟨fsy108, hfy108⟩ := hC_some hy108
  refine v_nV F (pc := 653) (ci := 5) [.int p1, .int p2] 2 (cX5_show_met (kl κ) F.2.2.2.1 (kG κ) _ h) hfy108 rfl (good_t gL_law_X5_show) rfl hdX5_show rfl rfl rfl (by rw [hR]; exact ⟨Nat.le_of_ble_eq_true rfl, Nat.le_of_ble_eq_true rfl⟩) (by rw [hR]; exact ⟨by show _ ≤ 601024; omega, by show _ ≤ 7293034; omega⟩) (Nat.le_of_ble_eq_true rfl) rfl dL_law_653 (hk_i fun M109 x107 h => ?_)
  refine v_istore C (pc := 656) (i := 6) (lv' := [some (va_rf (some b)), some (va_rf (some a1)), some (va_rf (some a2)), some (va_rf (some a3)), some (.int a4), some (.int x105), some (.int x107)]) dL_law_656 rfl rfl ?_
  refine v_aload_n C (pc := 658) (i := 2) dL_law_658 rfl ?_
  obtain ⟨y111, hy111, h⟩ := h
  obtain ⟨fsy111, hfy111⟩ := hC_some hy111
  obtain ⟨x110, e110, h⟩ := h
  refine v_pV C (pc := 659) (ci := 5) [] 0 (cX5_thrown_met (kl κ) (kG κ) _ e110) hfy111 rfl (good_t gL_law_X5_thrown) rfl hdX5_thrown rfl rfl rfl (by rw [hR]; exact ⟨Nat.le_of_ble_eq_true rfl, Nat.le_of_ble_eq_true rfl⟩) (by rw [hR]; exact ⟨by show _ ≤ 601024; omega, by show _ ≤ 7293034; omega⟩) (Nat.le_of_ble_eq_true rfl) rfl dL_law_659 ?_
  refine v_iload C (pc := 662) (i := 5) dL_law_662 rfl ?_
  refine v_icmp_eq C (pc := 664) (tgt := 669) dL_law_664 (by decide) (fun c112 => ?_) (fun c112 => ?_)
  · rw [if_pos c112] at h
    refine v_iload C (pc := 669) (i := 5) dL_law_669 rfl ?_
    refine v_if_ne C (pc := 671) (tgt := 686) dL_law_671 (by decide) (fun c113 => ?_) (fun c113 => ?_)
    · rw [if_neg c113] at h
      refine v_goto C (pc := 686) (tgt := 1976) dL_law_686 (by decide) ?_
      refine v_mask (lv' := [some (va_rf (some b)), some (va_rf (some a1)), some (va_rf (some a2)), some (va_rf (some a3)), some (.int a4), none, none]) [true, true, true, true, true, false, false] rfl rfl ?_
      refine v_widen (k := cells + 20) (n := slots + 211) (by omega) (by omega) ?_
      exact hk1976 _ h
    · rw [if_pos c113] at h
      refine v_aload_n C (pc := 674) (i := 3) dL_law_674 rfl ?_
      refine v_iconst C (pc := 675) (v := 0) dL_law_675 (by decide) ?_
      obtain ⟨x114, e114, h⟩ := h
      refine v_lald C (pc := 676) e114 dL_law_676 ?_
      refine v_iload C (pc := 677) (i := 6) dL_law_677 rfl ?_
      refine v_i2l C (pc := 679) dL_law_679 ?_
      refine v_lcmp C (pc := 680) dL_law_680 ?_
      refine v_if_eq C (pc := 681) (tgt := 686) dL_law_681 (by decide) (fun c115 => ?_) (fun c115 => ?_)
      · rw [if_pos c115] at h
        refine v_goto C (pc := 686) (tgt := 1976) dL_law_686 (by decide) ?_
        refine v_mask (lv' := [some (va_rf (some b)), some (va_rf (some a1)), some (va_rf (some a2)), some (va_rf (some a3)), some (.int a4), none, none]) [true, true, true, true, true, false, false] rfl rfl ?_
        refine v_widen (k := cells + 20) (n := slots + 211) (by omega) (by omega) ?_
        exact hk1976 _ h
      · rw [if_neg c115] at h
        refine v_iconst C (pc := 684) (v := 0) dL_law_684 (by decide) ?_
        exact h.elim
  · rw [if_neg c112] at h
    refine v_iconst C (pc := 667) (v := 0) dL_law_667 (by decide) ?_
    exact h.elim

def lw_7 (M : hM) (a1 a2 a3 : Nat) (p1 p2 p3 p4 p5 p6 : Int32) (k1976 : hM → Prop) : Prop :=
  wL_withhold M (some a1) p1 (fun M117 x116 =>
  ∃ y119, hC M117 5 (some a2) = some y119 ∧
  wX5_withhold M117 a2 p1 (fun M120 =>
  ∃ y122, hC M120 5 (some a2) = some y122 ∧
  ∃ x121, fX5_thrown M120 a2 = some x121 ∧
  if (x121 : Int32) = x116 then (
    k1976 M120
  ) else (
    False
  )))
set_option maxRecDepth 100000 in
set_option maxHeartbeats 4000000 in
theorem tlw_7 {κ : hKx} {sz b L : Nat} {xs : Nat → Int32} (F : Cw κ RL code lw_tbl (fun _ => none) sz) (hR : kR κ = room_1) (hX : va_X b L xs (ks κ) (ks κ).heap) (hb : b < sz) {M : hM} {a1 a2 a3 : Nat} {a4 p1 p2 p3 p4 p5 p6 : Int32} {k1976 : hM → Prop} {cells slots : Nat} (hp1 : vp_in (a4 + 1) L ∧ xs (a4 + 1).toNatClampNeg = p1) (hp2 : vp_in (a4 + 2) L ∧ xs (a4 + 2).toNatClampNeg = p2) (hp3 : vp_in (a4 + 3) L ∧ xs (a4 + 3).toNatClampNeg = p3) (hp4 : vp_in (a4 + 4) L ∧ xs (a4 + 4).toNatClampNeg = p4) (hp5 : vp_in (a4 + 5) L ∧ xs (a4 + 5).toNatClampNeg = p5) (hp6 : vp_in (a4 + 6) L ∧ xs (a4 + 6).toNatClampNeg = p6) (hce : cells + 20 ≤ 601024) (hse : slots + 211 ≤ 7293034) (hk1976 : ∀ M, k1976 M → VW κ (cells + 20) (slots + 211) M 1976 [some (va_rf (some b)), some (va_rf (some a1)), some (va_rf (some a2)), some (va_rf (some a3)), some (.int a4), none, none] []) (h : lw_7 M a1 a2 a3 p1 p2 p3 p4 p5 p6 k1976) : VW κ cells slots M 689 [some (va_rf (some b)), some (va_rf (some a1)), some (va_rf (some a2)), some (va_rf (some a3)), some (.int a4), none, none] [] := by
  unfold lw_7 at h
  have C := F.1
  refine v_aload_n C (pc := 689) (i := 1) dL_law_689 rfl ?_
  refine v_aload_n C (pc := 690) (i := 0) dL_law_690 rfl ?_
  refine v_iload C (pc := 691) (i := 4) dL_law_691 rfl ?_
  refine v_iconst C (pc := 693) (v := 1) dL_law_693 (by decide) ?_
  refine v_iadd C (pc := 694) dL_law_694 ?_
  refine v_sld F hX hb (pc := 695) hp1 dL_law_695 ?_
  refine v_nS F (pc := 696) [va_rf (some a1), .int p1] 2 (cL_withhold_met (kl κ) F.2.2.2.1 (kG κ) _ h) (good_t3 gL_law_L_withhold) rfl hdsL_withhold rfl rfl rfl (by rw [hR]; exact ⟨Nat.le_of_ble_eq_true rfl, Nat.le_of_ble_eq_true rfl⟩) (by rw [hR]; exact ⟨by show _ ≤ 601024; omega, by show _ ≤ 7293034; omega⟩) (Nat.le_of_ble_eq_true rfl) rfl dL_law_696 (hk_i fun M117 x116 h => ?_)
  refine v_istore C (pc := 699) (i := 5) (lv' := [some (va_rf (some b)), some (va_rf (some a1)), some (va_rf (some a2)), some (va_rf (some a3)), some (.int a4), some (.int x116), none]) dL_law_699 rfl rfl ?_
  refine v_aload_n C (pc := 701) (i := 2) dL_law_701 rfl ?_
  refine v_aload_n C (pc := 702) (i := 0) dL_law_702 rfl ?_
  refine v_iload C (pc := 703) (i := 4) dL_law_703 rfl ?_
  refine v_iconst C (pc := 705) (v := 1) dL_law_705 (by decide) ?_
  refine v_iadd C (pc := 706) dL_law_706 ?_
  refine v_sld F hX hb (pc := 707) hp1 dL_law_707 ?_
  obtain ⟨y119, hy119, h⟩ := h
  obtain ⟨fsy119, hfy119⟩ := hC_some hy119
  refine v_nV F (pc := 708) (ci := 5) [.int p1] 1 (cX5_withhold_met (kl κ) F.2.2.2.1 (kG κ) _ h) hfy119 rfl (good_t gL_law_X5_withhold) rfl hdX5_withhold rfl rfl rfl (by rw [hR]; exact ⟨Nat.le_of_ble_eq_true rfl, Nat.le_of_ble_eq_true rfl⟩) (by rw [hR]; exact ⟨by show _ ≤ 601024; omega, by show _ ≤ 7293034; omega⟩) (Nat.le_of_ble_eq_true rfl) rfl dL_law_708 (hk_v fun M120 h => ?_)
  refine v_aload_n C (pc := 711) (i := 2) dL_law_711 rfl ?_
  obtain ⟨y122, hy122, h⟩ := h
  obtain ⟨fsy122, hfy122⟩ := hC_some hy122
  obtain ⟨x121, e121, h⟩ := h
  refine v_pV C (pc := 712) (ci := 5) [] 0 (cX5_thrown_met (kl κ) (kG κ) _ e121) hfy122 rfl (good_t gL_law_X5_thrown) rfl hdX5_thrown rfl rfl rfl (by rw [hR]; exact ⟨Nat.le_of_ble_eq_true rfl, Nat.le_of_ble_eq_true rfl⟩) (by rw [hR]; exact ⟨by show _ ≤ 601024; omega, by show _ ≤ 7293034; omega⟩) (Nat.le_of_ble_eq_true rfl) rfl dL_law_712 ?_
  refine v_iload C (pc := 715) (i := 5) dL_law_715 rfl ?_
  refine v_icmp_eq C (pc := 717) (tgt := 722) dL_law_717 (by decide) (fun c123 => ?_) (fun c123 => ?_)
  · rw [if_pos c123] at h
    refine v_goto C (pc := 722) (tgt := 1976) dL_law_722 (by decide) ?_
    refine v_mask (lv' := [some (va_rf (some b)), some (va_rf (some a1)), some (va_rf (some a2)), some (va_rf (some a3)), some (.int a4), none, none]) [true, true, true, true, true, false, false] rfl rfl ?_
    refine v_widen (k := cells + 20) (n := slots + 211) (by omega) (by omega) ?_
    exact hk1976 _ h
  · rw [if_neg c123] at h
    refine v_iconst C (pc := 720) (v := 0) dL_law_720 (by decide) ?_
    exact h.elim

def lw_8 (M : hM) (a1 a2 a3 : Nat) (p1 p2 p3 p4 p5 p6 : Int32) (k1976 : hM → Prop) : Prop :=
  wL_charge M (some a1) p1 p2 p3 (some a3) (fun M125 x124 =>
  ∃ y127, hC M125 5 (some a2) = some y127 ∧
  wX5_charge M125 a2 p1 p2 p3 (fun M128 x126 =>
  ∃ y130, hC M128 5 (some a2) = some y130 ∧
  ∃ x129, fX5_thrown M128 a2 = some x129 ∧
  if (x129 : Int32) = x124 then (
    if (x124 : Int32) = 0 then (
      ∃ x133, aJ M128 2 (some a3) 0 = some x133 ∧
      if ((lg_cmp x133 (Int32.toInt64 x126)) : Int32) = 0 then (
        k1976 M128
      ) else (
        False
      )
    ) else (
      k1976 M128
    )
  ) else (
    False
  )))
set_option maxRecDepth 100000 in
set_option maxHeartbeats 4000000 in
theorem tlw_8 {κ : hKx} {sz b L : Nat} {xs : Nat → Int32} (F : Cw κ RL code lw_tbl (fun _ => none) sz) (hR : kR κ = room_1) (hX : va_X b L xs (ks κ) (ks κ).heap) (hb : b < sz) {M : hM} {a1 a2 a3 : Nat} {a4 p1 p2 p3 p4 p5 p6 : Int32} {k1976 : hM → Prop} {cells slots : Nat} (hp1 : vp_in (a4 + 1) L ∧ xs (a4 + 1).toNatClampNeg = p1) (hp2 : vp_in (a4 + 2) L ∧ xs (a4 + 2).toNatClampNeg = p2) (hp3 : vp_in (a4 + 3) L ∧ xs (a4 + 3).toNatClampNeg = p3) (hp4 : vp_in (a4 + 4) L ∧ xs (a4 + 4).toNatClampNeg = p4) (hp5 : vp_in (a4 + 5) L ∧ xs (a4 + 5).toNatClampNeg = p5) (hp6 : vp_in (a4 + 6) L ∧ xs (a4 + 6).toNatClampNeg = p6) (hce : cells + 20 ≤ 601024) (hse : slots + 211 ≤ 7293034) (hk1976 : ∀ M, k1976 M → VW κ (cells + 20) (slots + 211) M 1976 [some (va_rf (some b)), some (va_rf (some a1)), some (va_rf (some a2)), some (va_rf (some a3)), some (.int a4), none, none] []) (h : lw_8 M a1 a2 a3 p1 p2 p3 p4 p5 p6 k1976) : VW κ cells slots M 725 [some (va_rf (some b)), some (va_rf (some a1)), some (va_rf (some a2)), some (va_rf (some a3)), some (.int a4), none, none] [] := by
  unfold lw_8 at h
  have C := F.1
  refine v_aload_n C (pc := 725) (i := 1) dL_law_725 rfl ?_
  refine v_aload_n C (pc := 726) (i := 0) dL_law_726 rfl ?_
  refine v_iload C (pc := 727) (i := 4) dL_law_727 rfl ?_
  refine v_iconst C (pc := 729) (v := 1) dL_law_729 (by decide) ?_
  refine v_iadd C (pc := 730) dL_law_730 ?_
  refine v_sld F hX hb (pc := 731) hp1 dL_law_731 ?_
  refine v_aload_n C (pc := 732) (i := 0) dL_law_732 rfl ?_
  refine v_iload C (pc := 733) (i := 4) dL_law_733 rfl ?_
  refine v_iconst C (pc := 735) (v := 2) dL_law_735 (by decide) ?_
  refine v_iadd C (pc := 736) dL_law_736 ?_
  refine v_sld F hX hb (pc := 737) hp2 dL_law_737 ?_
  refine v_aload_n C (pc := 738) (i := 0) dL_law_738 rfl ?_
  refine v_iload C (pc := 739) (i := 4) dL_law_739 rfl ?_
  refine v_iconst C (pc := 741) (v := 3) dL_law_741 (by decide) ?_
  refine v_iadd C (pc := 742) dL_law_742 ?_
  refine v_sld F hX hb (pc := 743) hp3 dL_law_743 ?_
  refine v_aload_n C (pc := 744) (i := 3) dL_law_744 rfl ?_
  refine v_nS F (pc := 745) [va_rf (some a1), .int p1, .int p2, .int p3, va_rf (some a3)] 5 (cL_charge_met (kl κ) F.2.2.2.1 (kG κ) _ h) (good_t3 gL_law_L_charge) rfl hdsL_charge rfl rfl rfl (by rw [hR]; exact ⟨Nat.le_of_ble_eq_true rfl, Nat.le_of_ble_eq_true rfl⟩) (by rw [hR]; exact ⟨by show _ ≤ 601024; omega, by show _ ≤ 7293034; omega⟩) (Nat.le_of_ble_eq_true rfl) rfl dL_law_745 (hk_i fun M125 x124 h => ?_)
  refine v_istore C (pc := 748) (i := 5) (lv' := [some (va_rf (some b)), some (va_rf (some a1)), some (va_rf (some a2)), some (va_rf (some a3)), some (.int a4), some (.int x124), none]) dL_law_748 rfl rfl ?_
  refine v_aload_n C (pc := 750) (i := 2) dL_law_750 rfl ?_
  refine v_aload_n C (pc := 751) (i := 0) dL_law_751 rfl ?_
  refine v_iload C (pc := 752) (i := 4) dL_law_752 rfl ?_
  refine v_iconst C (pc := 754) (v := 1) dL_law_754 (by decide) ?_
  refine v_iadd C (pc := 755) dL_law_755 ?_
  refine v_sld F hX hb (pc := 756) hp1 dL_law_756 ?_
  refine v_aload_n C (pc := 757) (i := 0) dL_law_757 rfl ?_
  refine v_iload C (pc := 758) (i := 4) dL_law_758 rfl ?_
  refine v_iconst C (pc := 760) (v := 2) dL_law_760 (by decide) ?_
  refine v_iadd C (pc := 761) dL_law_761 ?_
  refine v_sld F hX hb (pc := 762) hp2 dL_law_762 ?_
  refine v_aload_n C (pc := 763) (i := 0) dL_law_763 rfl ?_
  refine v_iload C (pc := 764) (i := 4) dL_law_764 rfl ?_
  refine v_iconst C (pc := 766) (v := 3) dL_law_766 (by decide) ?_
  refine v_iadd C (pc := 767) dL_law_767 ?_
  refine v_sld F hX hb (pc := 768) hp3 dL_law_768 ?_
  obtain ⟨y127, hy127, h⟩ := h
  obtain ⟨fsy127, hfy127⟩ := hC_some hy127
  refine v_nV F (pc := 769) (ci := 5) [.int p1, .int p2, .int p3] 3 (cX5_charge_met (kl κ) F.2.2.2.1 (kG κ) _ h) hfy127 rfl (good_t gL_law_X5_charge) rfl hdX5_charge rfl rfl rfl (by rw [hR]; exact ⟨Nat.le_of_ble_eq_true rfl, Nat.le_of_ble_eq_true rfl⟩) (by rw [hR]; exact ⟨by show _ ≤ 601024; omega, by show _ ≤ 7293034; omega⟩) (Nat.le_of_ble_eq_true rfl) rfl dL_law_769 (hk_i fun M128 x126 h => ?_)
  refine v_istore C (pc := 772) (i := 6) (lv' := [some (va_rf (some b)), some (va_rf (some a1)), some (va_rf (some a2)), some (va_rf (some a3)), some (.int a4), some (.int x124), some (.int x126)]) dL_law_772 rfl rfl ?_
  refine v_aload_n C (pc := 774) (i := 2) dL_law_774 rfl ?_
  obtain ⟨y130, hy130, h⟩ := h
  obtain ⟨fsy130, hfy130⟩ := hC_some hy130
  obtain ⟨x129, e129, h⟩ := h
  refine v_pV C (pc := 775) (ci := 5) [] 0 (cX5_thrown_met (kl κ) (kG κ) _ e129) hfy130 rfl (good_t gL_law_X5_thrown) rfl hdX5_thrown rfl rfl rfl (by rw [hR]; exact ⟨Nat.le_of_ble_eq_true rfl, Nat.le_of_ble_eq_true rfl⟩) (by rw [hR]; exact ⟨by show _ ≤ 601024; omega, by show _ ≤ 7293034; omega⟩) (Nat.le_of_ble_eq_true rfl) rfl dL_law_775 ?_
  refine v_iload C (pc := 778) (i := 5) dL_law_778 rfl ?_
  refine v_icmp_eq C (pc := 780) (tgt := 785) dL_law_780 (by decide) (fun c131 => ?_) (fun c131 => ?_)
  · rw [if_pos c131] at h
    refine v_iload C (pc := 785) (i := 5) dL_law_785 rfl ?_
    refine v_if_ne C (pc := 787) (tgt := 802) dL_law_787 (by decide) (fun c132 => ?_) (fun c132 => ?_)
    · rw [if_neg c132] at h
      refine v_goto C (pc := 802) (tgt := 1976) dL_law_802 (by decide) ?_
      refine v_mask (lv' := [some (va_rf (some b)), some (va_rf (some a1)), some (va_rf (some a2)), some (va_rf (some a3)), some (.int a4), none, none]) [true, true, true, true, true, false, false] rfl rfl ?_
      refine v_widen (k := cells + 20) (n := slots + 211) (by omega) (by omega) ?_
      exact hk1976 _ h
    · rw [if_pos c132] at h
      refine v_aload_n C (pc := 790) (i := 3) dL_law_790 rfl ?_
      refine v_iconst C (pc := 791) (v := 0) dL_law_791 (by decide) ?_
      obtain ⟨x133, e133, h⟩ := h
      refine v_lald C (pc := 792) e133 dL_law_792 ?_
      refine v_iload C (pc := 793) (i := 6) dL_law_793 rfl ?_
      refine v_i2l C (pc := 795) dL_law_795 ?_
      refine v_lcmp C (pc := 796) dL_law_796 ?_
      refine v_if_eq C (pc := 797) (tgt := 802) dL_law_797 (by decide) (fun c134 => ?_) (fun c134 => ?_)
      · rw [if_pos c134] at h
        refine v_goto C (pc := 802) (tgt := 1976) dL_law_802 (by decide) ?_
        refine v_mask (lv' := [some (va_rf (some b)), some (va_rf (some a1)), some (va_rf (some a2)), some (va_rf (some a3)), some (.int a4), none, none]) [true, true, true, true, true, false, false] rfl rfl ?_
        refine v_widen (k := cells + 20) (n := slots + 211) (by omega) (by omega) ?_
        exact hk1976 _ h
      · rw [if_neg c134] at h
        refine v_iconst C (pc := 800) (v := 0) dL_law_800 (by decide) ?_
        exact h.elim
  · rw [if_neg c131] at h
    refine v_iconst C (pc := 783) (v := 0) dL_law_783 (by decide) ?_
    exact h.elim

def lw_9 (M : hM) (a1 a2 a3 : Nat) (p1 p2 p3 p4 p5 p6 : Int32) (k1976 : hM → Prop) : Prop :=
  wL_drop M (some a1) p1 p2 (fun M136 x135 =>
  ∃ y138, hC M136 5 (some a2) = some y138 ∧
  wX5_drop M136 a2 p1 p2 (fun M139 =>
  ∃ y141, hC M139 5 (some a2) = some y141 ∧
  ∃ x140, fX5_thrown M139 a2 = some x140 ∧
  if (x140 : Int32) = x135 then (
    k1976 M139
  ) else (
    False
  )))
set_option maxRecDepth 100000 in
set_option maxHeartbeats 4000000 in
theorem tlw_9 {κ : hKx} {sz b L : Nat} {xs : Nat → Int32} (F : Cw κ RL code lw_tbl (fun _ => none) sz) (hR : kR κ = room_1) (hX : va_X b L xs (ks κ) (ks κ).heap) (hb : b < sz) {M : hM} {a1 a2 a3 : Nat} {a4 p1 p2 p3 p4 p5 p6 : Int32} {k1976 : hM → Prop} {cells slots : Nat} (hp1 : vp_in (a4 + 1) L ∧ xs (a4 + 1).toNatClampNeg = p1) (hp2 : vp_in (a4 + 2) L ∧ xs (a4 + 2).toNatClampNeg = p2) (hp3 : vp_in (a4 + 3) L ∧ xs (a4 + 3).toNatClampNeg = p3) (hp4 : vp_in (a4 + 4) L ∧ xs (a4 + 4).toNatClampNeg = p4) (hp5 : vp_in (a4 + 5) L ∧ xs (a4 + 5).toNatClampNeg = p5) (hp6 : vp_in (a4 + 6) L ∧ xs (a4 + 6).toNatClampNeg = p6) (hce : cells + 20 ≤ 601024) (hse : slots + 211 ≤ 7293034) (hk1976 : ∀ M, k1976 M → VW κ (cells + 20) (slots + 211) M 1976 [some (va_rf (some b)), some (va_rf (some a1)), some (va_rf (some a2)), some (va_rf (some a3)), some (.int a4), none, none] []) (h : lw_9 M a1 a2 a3 p1 p2 p3 p4 p5 p6 k1976) : VW κ cells slots M 805 [some (va_rf (some b)), some (va_rf (some a1)), some (va_rf (some a2)), some (va_rf (some a3)), some (.int a4), none, none] [] := by
  unfold lw_9 at h
  have C := F.1
  refine v_aload_n C (pc := 805) (i := 1) dL_law_805 rfl ?_
  refine v_aload_n C (pc := 806) (i := 0) dL_law_806 rfl ?_
  refine v_iload C (pc := 807) (i := 4) dL_law_807 rfl ?_
  refine v_iconst C (pc := 809) (v := 1) dL_law_809 (by decide) ?_
  refine v_iadd C (pc := 810) dL_law_810 ?_
  refine v_sld F hX hb (pc := 811) hp1 dL_law_811 ?_
  refine v_aload_n C (pc := 812) (i := 0) dL_law_812 rfl ?_
  refine v_iload C (pc := 813) (i := 4) dL_law_813 rfl ?_
  refine v_iconst C (pc := 815) (v := 2) dL_law_815 (by decide) ?_
  refine v_iadd C (pc := 816) dL_law_816 ?_
  refine v_sld F hX hb (pc := 817) hp2 dL_law_817 ?_
  refine v_nS F (pc := 818) [va_rf (some a1), .int p1, .int p2] 3 (cL_drop_met (kl κ) F.2.2.2.1 (kG κ) _ h) (good_t3 gL_law_L_drop) rfl hdsL_drop rfl rfl rfl (by rw [hR]; exact ⟨Nat.le_of_ble_eq_true rfl, Nat.le_of_ble_eq_true rfl⟩) (by rw [hR]; exact ⟨by show _ ≤ 601024; omega, by show _ ≤ 7293034; omega⟩) (Nat.le_of_ble_eq_true rfl) rfl dL_law_818 (hk_i fun M136 x135 h => ?_)
  refine v_istore C (pc := 821) (i := 5) (lv' := [some (va_rf (some b)), some (va_rf (some a1)), some (va_rf (some a2)), some (va_rf (some a3)), some (.int a4), some (.int x135), none]) dL_law_821 rfl rfl ?_
  refine v_aload_n C (pc := 823) (i := 2) dL_law_823 rfl ?_
  refine v_aload_n C (pc := 824) (i := 0) dL_law_824 rfl ?_
  refine v_iload C (pc := 825) (i := 4) dL_law_825 rfl ?_
  refine v_iconst C (pc := 827) (v := 1) dL_law_827 (by decide) ?_
  refine v_iadd C (pc := 828) dL_law_828 ?_
  refine v_sld F hX hb (pc := 829) hp1 dL_law_829 ?_
  refine v_aload_n C (pc := 830) (i := 0) dL_law_830 rfl ?_
  refine v_iload C (pc := 831) (i := 4) dL_law_831 rfl ?_
  refine v_iconst C (pc := 833) (v := 2) dL_law_833 (by decide) ?_
  refine v_iadd C (pc := 834) dL_law_834 ?_
  refine v_sld F hX hb (pc := 835) hp2 dL_law_835 ?_
  obtain ⟨y138, hy138, h⟩ := h
  obtain ⟨fsy138, hfy138⟩ := hC_some hy138
  refine v_nV F (pc := 836) (ci := 5) [.int p1, .int p2] 2 (cX5_drop_met (kl κ) F.2.2.2.1 (kG κ) _ h) hfy138 rfl (good_t gL_law_X5_drop) rfl hdX5_drop rfl rfl rfl (by rw [hR]; exact ⟨Nat.le_of_ble_eq_true rfl, Nat.le_of_ble_eq_true rfl⟩) (by rw [hR]; exact ⟨by show _ ≤ 601024; omega, by show _ ≤ 7293034; omega⟩) (Nat.le_of_ble_eq_true rfl) rfl dL_law_836 (hk_v fun M139 h => ?_)
  refine v_aload_n C (pc := 839) (i := 2) dL_law_839 rfl ?_
  obtain ⟨y141, hy141, h⟩ := h
  obtain ⟨fsy141, hfy141⟩ := hC_some hy141
  obtain ⟨x140, e140, h⟩ := h
  refine v_pV C (pc := 840) (ci := 5) [] 0 (cX5_thrown_met (kl κ) (kG κ) _ e140) hfy141 rfl (good_t gL_law_X5_thrown) rfl hdX5_thrown rfl rfl rfl (by rw [hR]; exact ⟨Nat.le_of_ble_eq_true rfl, Nat.le_of_ble_eq_true rfl⟩) (by rw [hR]; exact ⟨by show _ ≤ 601024; omega, by show _ ≤ 7293034; omega⟩) (Nat.le_of_ble_eq_true rfl) rfl dL_law_840 ?_
  refine v_iload C (pc := 843) (i := 5) dL_law_843 rfl ?_
  refine v_icmp_eq C (pc := 845) (tgt := 850) dL_law_845 (by decide) (fun c142 => ?_) (fun c142 => ?_)
  · rw [if_pos c142] at h
    refine v_goto C (pc := 850) (tgt := 1976) dL_law_850 (by decide) ?_
    refine v_mask (lv' := [some (va_rf (some b)), some (va_rf (some a1)), some (va_rf (some a2)), some (va_rf (some a3)), some (.int a4), none, none]) [true, true, true, true, true, false, false] rfl rfl ?_
    refine v_widen (k := cells + 20) (n := slots + 211) (by omega) (by omega) ?_
    exact hk1976 _ h
  · rw [if_neg c142] at h
    refine v_iconst C (pc := 848) (v := 0) dL_law_848 (by decide) ?_
    exact h.elim

def lw_10 (M : hM) (a1 a2 a3 : Nat) (p1 p2 p3 p4 p5 p6 : Int32) (k1976 : hM → Prop) : Prop :=
  wL_review M (some a1) p1 p2 (some a3) (fun M144 x143 =>
  ∃ y146, hC M144 5 (some a2) = some y146 ∧
  wX5_review M144 a2 p1 p2 (fun M147 x145 =>
  ∃ y149, hC M147 5 (some a2) = some y149 ∧
  ∃ x148, fX5_thrown M147 a2 = some x148 ∧
  if (x148 : Int32) = x143 then (
    if (x143 : Int32) = 0 then (
      ∃ x152, aJ M147 2 (some a3) 0 = some x152 ∧
      if (x145 : Int32) = 0 then (
        if ((lg_cmp x152 0) : Int32) = 0 then (
          k1976 M147
        ) else (
          False
        )
      ) else (
        if ((lg_cmp x152 1) : Int32) = 0 then (
          k1976 M147
        ) else (
          False
        )
      )
    ) else (
      k1976 M147
    )
  ) else (
    False
  )))
set_option maxRecDepth 100000 in
set_option maxHeartbeats 4000000 in
theorem tlw_10 {κ : hKx} {sz b L : Nat} {xs : Nat → Int32} (F : Cw κ RL code lw_tbl (fun _ => none) sz) (hR : kR κ = room_1) (hX : va_X b L xs (ks κ) (ks κ).heap) (hb : b < sz) {M : hM} {a1 a2 a3 : Nat} {a4 p1 p2 p3 p4 p5 p6 : Int32} {k1976 : hM → Prop} {cells slots : Nat} (hp1 : vp_in (a4 + 1) L ∧ xs (a4 + 1).toNatClampNeg = p1) (hp2 : vp_in (a4 + 2) L ∧ xs (a4 + 2).toNatClampNeg = p2) (hp3 : vp_in (a4 + 3) L ∧ xs (a4 + 3).toNatClampNeg = p3) (hp4 : vp_in (a4 + 4) L ∧ xs (a4 + 4).toNatClampNeg = p4) (hp5 : vp_in (a4 + 5) L ∧ xs (a4 + 5).toNatClampNeg = p5) (hp6 : vp_in (a4 + 6) L ∧ xs (a4 + 6).toNatClampNeg = p6) (hce : cells + 20 ≤ 601024) (hse : slots + 211 ≤ 7293034) (hk1976 : ∀ M, k1976 M → VW κ (cells + 20) (slots + 211) M 1976 [some (va_rf (some b)), some (va_rf (some a1)), some (va_rf (some a2)), some (va_rf (some a3)), some (.int a4), none, none] []) (h : lw_10 M a1 a2 a3 p1 p2 p3 p4 p5 p6 k1976) : VW κ cells slots M 853 [some (va_rf (some b)), some (va_rf (some a1)), some (va_rf (some a2)), some (va_rf (some a3)), some (.int a4), none, none] [] := by
  unfold lw_10 at h
  have C := F.1
  refine v_aload_n C (pc := 853) (i := 1) dL_law_853 rfl ?_
  refine v_aload_n C (pc := 854) (i := 0) dL_law_854 rfl ?_
  refine v_iload C (pc := 855) (i := 4) dL_law_855 rfl ?_
  refine v_iconst C (pc := 857) (v := 1) dL_law_857 (by decide) ?_
  refine v_iadd C (pc := 858) dL_law_858 ?_
  refine v_sld F hX hb (pc := 859) hp1 dL_law_859 ?_
  refine v_aload_n C (pc := 860) (i := 0) dL_law_860 rfl ?_
  refine v_iload C (pc := 861) (i := 4) dL_law_861 rfl ?_
  refine v_iconst C (pc := 863) (v := 2) dL_law_863 (by decide) ?_
  refine v_iadd C (pc := 864) dL_law_864 ?_
  refine v_sld F hX hb (pc := 865) hp2 dL_law_865 ?_
  refine v_aload_n C (pc := 866) (i := 3) dL_law_866 rfl ?_
  refine v_nS F (pc := 867) [va_rf (some a1), .int p1, .int p2, va_rf (some a3)] 4 (cL_review_met (kl κ) F.2.2.2.1 (kG κ) _ h) (good_t3 gL_law_L_review) rfl hdsL_review rfl rfl rfl (by rw [hR]; exact ⟨Nat.le_of_ble_eq_true rfl, Nat.le_of_ble_eq_true rfl⟩) (by rw [hR]; exact ⟨by show _ ≤ 601024; omega, by show _ ≤ 7293034; omega⟩) (Nat.le_of_ble_eq_true rfl) rfl dL_law_867 (hk_i fun M144 x143 h => ?_)
  refine v_istore C (pc := 870) (i := 5) (lv' := [some (va_rf (some b)), some (va_rf (some a1)), some (va_rf (some a2)), some (va_rf (some a3)), some (.int a4), some (.int x143), none]) dL_law_870 rfl rfl ?_
  refine v_aload_n C (pc := 872) (i := 2) dL_law_872 rfl ?_
  refine v_aload_n C (pc := 873) (i := 0) dL_law_873 rfl ?_
  refine v_iload C (pc := 874) (i := 4) dL_law_874 rfl ?_
  refine v_iconst C (pc := 876) (v := 1) dL_law_876 (by decide) ?_
  refine v_iadd C (pc := 877) dL_law_877 ?_
  refine v_sld F hX hb (pc := 878) hp1 dL_law_878 ?_
  refine v_aload_n C (pc := 879) (i := 0) dL_law_879 rfl ?_
  refine v_iload C (pc := 880) (i := 4) dL_law_880 rfl ?_
  refine v_iconst C (pc := 882) (v := 2) dL_law_882 (by decide) ?_
  refine v_iadd C (pc := 883) dL_law_883 ?_
  refine v_sld F hX hb (pc := 884) hp2 dL_law_884 ?_
  obtain ⟨y146, hy146, h⟩ := h
  obtain ⟨fsy146, hfy146⟩ := hC_some hy146
  refine v_nV F (pc := 885) (ci := 5) [.int p1, .int p2] 2 (cX5_review_met (kl κ) F.2.2.2.1 (kG κ) _ h) hfy146 rfl (good_t gL_law_X5_review) rfl hdX5_review rfl rfl rfl (by rw [hR]; exact ⟨Nat.le_of_ble_eq_true rfl, Nat.le_of_ble_eq_true rfl⟩) (by rw [hR]; exact ⟨by show _ ≤ 601024; omega, by show _ ≤ 7293034; omega⟩) (Nat.le_of_ble_eq_true rfl) rfl dL_law_885 (hk_i fun M147 x145 h => ?_)
  refine v_istore C (pc := 888) (i := 6) (lv' := [some (va_rf (some b)), some (va_rf (some a1)), some (va_rf (some a2)), some (va_rf (some a3)), some (.int a4), some (.int x143), some (.int x145)]) dL_law_888 rfl rfl ?_
  refine v_aload_n C (pc := 890) (i := 2) dL_law_890 rfl ?_
  obtain ⟨y149, hy149, h⟩ := h
  obtain ⟨fsy149, hfy149⟩ := hC_some hy149
  obtain ⟨x148, e148, h⟩ := h
  refine v_pV C (pc := 891) (ci := 5) [] 0 (cX5_thrown_met (kl κ) (kG κ) _ e148) hfy149 rfl (good_t gL_law_X5_thrown) rfl hdX5_thrown rfl rfl rfl (by rw [hR]; exact ⟨Nat.le_of_ble_eq_true rfl, Nat.le_of_ble_eq_true rfl⟩) (by rw [hR]; exact ⟨by show _ ≤ 601024; omega, by show _ ≤ 7293034; omega⟩) (Nat.le_of_ble_eq_true rfl) rfl dL_law_891 ?_
  refine v_iload C (pc := 894) (i := 5) dL_law_894 rfl ?_
  refine v_icmp_eq C (pc := 896) (tgt := 901) dL_law_896 (by decide) (fun c150 => ?_) (fun c150 => ?_)
  · rw [if_pos c150] at h
    refine v_iload C (pc := 901) (i := 5) dL_law_901 rfl ?_
    refine v_if_ne C (pc := 903) (tgt := 925) dL_law_903 (by decide) (fun c151 => ?_) (fun c151 => ?_)
    · rw [if_neg c151] at h
      refine v_goto C (pc := 925) (tgt := 1976) dL_law_925 (by decide) ?_
      refine v_mask (lv' := [some (va_rf (some b)), some (va_rf (some a1)), some (va_rf (some a2)), some (va_rf (some a3)), some (.int a4), none, none]) [true, true, true, true, true, false, false] rfl rfl ?_
      refine v_widen (k := cells + 20) (n := slots + 211) (by omega) (by omega) ?_
      exact hk1976 _ h
    · rw [if_pos c151] at h
      refine v_aload_n C (pc := 906) (i := 3) dL_law_906 rfl ?_
      refine v_iconst C (pc := 907) (v := 0) dL_law_907 (by decide) ?_
      obtain ⟨x152, e152, h⟩ := h
      refine v_lald C (pc := 908) e152 dL_law_908 ?_
      refine v_iload C (pc := 909) (i := 6) dL_law_909 rfl ?_
      refine v_if_eq C (pc := 911) (tgt := 918) dL_law_911 (by decide) (fun c153 => ?_) (fun c153 => ?_)
      · rw [if_pos c153] at h
        refine v_lconst C (pc := 918) (v := 0) dL_law_918 (by decide) ?_
        refine v_lcmp C (pc := 919) dL_law_919 ?_
        refine v_if_eq C (pc := 920) (tgt := 925) dL_law_920 (by decide) (fun c154 => ?_) (fun c154 => ?_)
        · rw [if_pos c154] at h
          refine v_goto C (pc := 925) (tgt := 1976) dL_law_925 (by decide) ?_
          refine v_mask (lv' := [some (va_rf (some b)), some (va_rf (some a1)), some (va_rf (some a2)), some (va_rf (some a3)), some (.int a4), none, none]) [true, true, true, true, true, false, false] rfl rfl ?_
          refine v_widen (k := cells + 20) (n := slots + 211) (by omega) (by omega) ?_
          exact hk1976 _ h
        · rw [if_neg c154] at h
          refine v_iconst C (pc := 923) (v := 0) dL_law_923 (by decide) ?_
          exact h.elim
      · rw [if_neg c153] at h
        refine v_lconst C (pc := 914) (v := 1) dL_law_914 (by decide) ?_
        refine v_goto C (pc := 915) (tgt := 919) dL_law_915 (by decide) ?_
        refine v_lcmp C (pc := 919) dL_law_919 ?_
        refine v_if_eq C (pc := 920) (tgt := 925) dL_law_920 (by decide) (fun c155 => ?_) (fun c155 => ?_)
        · rw [if_pos c155] at h
          refine v_goto C (pc := 925) (tgt := 1976) dL_law_925 (by decide) ?_
          refine v_mask (lv' := [some (va_rf (some b)), some (va_rf (some a1)), some (va_rf (some a2)), some (va_rf (some a3)), some (.int a4), none, none]) [true, true, true, true, true, false, false] rfl rfl ?_
          refine v_widen (k := cells + 20) (n := slots + 211) (by omega) (by omega) ?_
          exact hk1976 _ h
        · rw [if_neg c155] at h
          refine v_iconst C (pc := 923) (v := 0) dL_law_923 (by decide) ?_
          exact h.elim
  · rw [if_neg c150] at h
    refine v_iconst C (pc := 899) (v := 0) dL_law_899 (by decide) ?_
    exact h.elim

def lw_11 (M : hM) (a1 a2 a3 : Nat) (p1 p2 p3 p4 p5 p6 : Int32) (k1976 : hM → Prop) : Prop :=
  wL_trial M (some a1) p1 p2 (some a3) (fun M157 x156 =>
  ∃ y159, hC M157 5 (some a2) = some y159 ∧
  wX5_trial M157 a2 p1 p2 (fun M160 x158 =>
  ∃ y162, hC M160 5 (some a2) = some y162 ∧
  ∃ x161, fX5_thrown M160 a2 = some x161 ∧
  if (x161 : Int32) = x156 then (
    if (x156 : Int32) = 0 then (
      ∃ x165, aJ M160 2 (some a3) 0 = some x165 ∧
      if ((lg_cmp x165 (Int32.toInt64 x158)) : Int32) = 0 then (
        k1976 M160
      ) else (
        False
      )
    ) else (
      k1976 M160
    )
  ) else (
    False
  )))
set_option maxRecDepth 100000 in
set_option maxHeartbeats 4000000 in
theorem tlw_11 {κ : hKx} {sz b L : Nat} {xs : Nat → Int32} (F : Cw κ RL code lw_tbl (fun _ => none) sz) (hR : kR κ = room_1) (hX : va_X b L xs (ks κ) (ks κ).heap) (hb : b < sz) {M : hM} {a1 a2 a3 : Nat} {a4 p1 p2 p3 p4 p5 p6 : Int32} {k1976 : hM → Prop} {cells slots : Nat} (hp1 : vp_in (a4 + 1) L ∧ xs (a4 + 1).toNatClampNeg = p1) (hp2 : vp_in (a4 + 2) L ∧ xs (a4 + 2).toNatClampNeg = p2) (hp3 : vp_in (a4 + 3) L ∧ xs (a4 + 3).toNatClampNeg = p3) (hp4 : vp_in (a4 + 4) L ∧ xs (a4 + 4).toNatClampNeg = p4) (hp5 : vp_in (a4 + 5) L ∧ xs (a4 + 5).toNatClampNeg = p5) (hp6 : vp_in (a4 + 6) L ∧ xs (a4 + 6).toNatClampNeg = p6) (hce : cells + 20 ≤ 601024) (hse : slots + 211 ≤ 7293034) (hk1976 : ∀ M, k1976 M → VW κ (cells + 20) (slots + 211) M 1976 [some (va_rf (some b)), some (va_rf (some a1)), some (va_rf (some a2)), some (va_rf (some a3)), some (.int a4), none, none] []) (h : lw_11 M a1 a2 a3 p1 p2 p3 p4 p5 p6 k1976) : VW κ cells slots M 928 [some (va_rf (some b)), some (va_rf (some a1)), some (va_rf (some a2)), some (va_rf (some a3)), some (.int a4), none, none] [] := by
  unfold lw_11 at h
  have C := F.1
  refine v_aload_n C (pc := 928) (i := 1) dL_law_928 rfl ?_
  refine v_aload_n C (pc := 929) (i := 0) dL_law_929 rfl ?_
  refine v_iload C (pc := 930) (i := 4) dL_law_930 rfl ?_
  refine v_iconst C (pc := 932) (v := 1) dL_law_932 (by decide) ?_
  refine v_iadd C (pc := 933) dL_law_933 ?_
  refine v_sld F hX hb (pc := 934) hp1 dL_law_934 ?_
  refine v_aload_n C (pc := 935) (i := 0) dL_law_935 rfl ?_
  refine v_iload C (pc := 936) (i := 4) dL_law_936 rfl ?_
  refine v_iconst C (pc := 938) (v := 2) dL_law_938 (by decide) ?_
  refine v_iadd C (pc := 939) dL_law_939 ?_
  refine v_sld F hX hb (pc := 940) hp2 dL_law_940 ?_
  refine v_aload_n C (pc := 941) (i := 3) dL_law_941 rfl ?_
  refine v_nS F (pc := 942) [va_rf (some a1), .int p1, .int p2, va_rf (some a3)] 4 (cL_trial_met (kl κ) F.2.2.2.1 (kG κ) _ h) (good_t3 gL_law_L_trial) rfl hdsL_trial rfl rfl rfl (by rw [hR]; exact ⟨Nat.le_of_ble_eq_true rfl, Nat.le_of_ble_eq_true rfl⟩) (by rw [hR]; exact ⟨by show _ ≤ 601024; omega, by show _ ≤ 7293034; omega⟩) (Nat.le_of_ble_eq_true rfl) rfl dL_law_942 (hk_i fun M157 x156 h => ?_)
  refine v_istore C (pc := 945) (i := 5) (lv' := [some (va_rf (some b)), some (va_rf (some a1)), some (va_rf (some a2)), some (va_rf (some a3)), some (.int a4), some (.int x156), none]) dL_law_945 rfl rfl ?_
  refine v_aload_n C (pc := 947) (i := 2) dL_law_947 rfl ?_
  refine v_aload_n C (pc := 948) (i := 0) dL_law_948 rfl ?_
  refine v_iload C (pc := 949) (i := 4) dL_law_949 rfl ?_
  refine v_iconst C (pc := 951) (v := 1) dL_law_951 (by decide) ?_
  refine v_iadd C (pc := 952) dL_law_952 ?_
  refine v_sld F hX hb (pc := 953) hp1 dL_law_953 ?_
  refine v_aload_n C (pc := 954) (i := 0) dL_law_954 rfl ?_
  refine v_iload C (pc := 955) (i := 4) dL_law_955 rfl ?_
  refine v_iconst C (pc := 957) (v := 2) dL_law_957 (by decide) ?_
  refine v_iadd C (pc := 958) dL_law_958 ?_
  refine v_sld F hX hb (pc := 959) hp2 dL_law_959 ?_
  obtain ⟨y159, hy159, h⟩ := h
  obtain ⟨fsy159, hfy159⟩ := hC_some hy159
  refine v_nV F (pc := 960) (ci := 5) [.int p1, .int p2] 2 (cX5_trial_met (kl κ) F.2.2.2.1 (kG κ) _ h) hfy159 rfl (good_t gL_law_X5_trial) rfl hdX5_trial rfl rfl rfl (by rw [hR]; exact ⟨Nat.le_of_ble_eq_true rfl, Nat.le_of_ble_eq_true rfl⟩) (by rw [hR]; exact ⟨by show _ ≤ 601024; omega, by show _ ≤ 7293034; omega⟩) (Nat.le_of_ble_eq_true rfl) rfl dL_law_960 (hk_i fun M160 x158 h => ?_)
  refine v_istore C (pc := 963) (i := 6) (lv' := [some (va_rf (some b)), some (va_rf (some a1)), some (va_rf (some a2)), some (va_rf (some a3)), some (.int a4), some (.int x156), some (.int x158)]) dL_law_963 rfl rfl ?_
  refine v_aload_n C (pc := 965) (i := 2) dL_law_965 rfl ?_
  obtain ⟨y162, hy162, h⟩ := h
  obtain ⟨fsy162, hfy162⟩ := hC_some hy162
  obtain ⟨x161, e161, h⟩ := h
  refine v_pV C (pc := 966) (ci := 5) [] 0 (cX5_thrown_met (kl κ) (kG κ) _ e161) hfy162 rfl (good_t gL_law_X5_thrown) rfl hdX5_thrown rfl rfl rfl (by rw [hR]; exact ⟨Nat.le_of_ble_eq_true rfl, Nat.le_of_ble_eq_true rfl⟩) (by rw [hR]; exact ⟨by show _ ≤ 601024; omega, by show _ ≤ 7293034; omega⟩) (Nat.le_of_ble_eq_true rfl) rfl dL_law_966 ?_
  refine v_iload C (pc := 969) (i := 5) dL_law_969 rfl ?_
  refine v_icmp_eq C (pc := 971) (tgt := 976) dL_law_971 (by decide) (fun c163 => ?_) (fun c163 => ?_)
  · rw [if_pos c163] at h
    refine v_iload C (pc := 976) (i := 5) dL_law_976 rfl ?_
    refine v_if_ne C (pc := 978) (tgt := 993) dL_law_978 (by decide) (fun c164 => ?_) (fun c164 => ?_)
    · rw [if_neg c164] at h
      refine v_goto C (pc := 993) (tgt := 1976) dL_law_993 (by decide) ?_
      refine v_mask (lv' := [some (va_rf (some b)), some (va_rf (some a1)), some (va_rf (some a2)), some (va_rf (some a3)), some (.int a4), none, none]) [true, true, true, true, true, false, false] rfl rfl ?_
      refine v_widen (k := cells + 20) (n := slots + 211) (by omega) (by omega) ?_
      exact hk1976 _ h
    · rw [if_pos c164] at h
      refine v_aload_n C (pc := 981) (i := 3) dL_law_981 rfl ?_
      refine v_iconst C (pc := 982) (v := 0) dL_law_982 (by decide) ?_
      obtain ⟨x165, e165, h⟩ := h
      refine v_lald C (pc := 983) e165 dL_law_983 ?_
      refine v_iload C (pc := 984) (i := 6) dL_law_984 rfl ?_
      refine v_i2l C (pc := 986) dL_law_986 ?_
      refine v_lcmp C (pc := 987) dL_law_987 ?_
      refine v_if_eq C (pc := 988) (tgt := 993) dL_law_988 (by decide) (fun c166 => ?_) (fun c166 => ?_)
      · rw [if_pos c166] at h
        refine v_goto C (pc := 993) (tgt := 1976) dL_law_993 (by decide) ?_
        refine v_mask (lv' := [some (va_rf (some b)), some (va_rf (some a1)), some (va_rf (some a2)), some (va_rf (some a3)), some (.int a4), none, none]) [true, true, true, true, true, false, false] rfl rfl ?_
        refine v_widen (k := cells + 20) (n := slots + 211) (by omega) (by omega) ?_
        exact hk1976 _ h
      · rw [if_neg c166] at h
        refine v_iconst C (pc := 991) (v := 0) dL_law_991 (by decide) ?_
        exact h.elim
  · rw [if_neg c163] at h
    refine v_iconst C (pc := 974) (v := 0) dL_law_974 (by decide) ?_
    exact h.elim

def lw_12 (M : hM) (a1 a2 a3 : Nat) (p1 p2 p3 p4 p5 p6 : Int32) (k1976 : hM → Prop) : Prop :=
  wL_plea M (some a1) p1 p2 p3 (some a3) (fun M168 x167 =>
  ∃ y170, hC M168 5 (some a2) = some y170 ∧
  wX5_plea M168 a2 p1 p2 p3 (fun M171 x169 =>
  ∃ y173, hC M171 5 (some a2) = some y173 ∧
  ∃ x172, fX5_thrown M171 a2 = some x172 ∧
  if (x172 : Int32) = x167 then (
    if (x167 : Int32) = 0 then (
      ∃ x176, aJ M171 2 (some a3) 0 = some x176 ∧
      if ((lg_cmp x176 (Int32.toInt64 x169)) : Int32) = 0 then (
        k1976 M171
      ) else (
        False
      )
    ) else (
      k1976 M171
    )
  ) else (
    False
  )))
set_option maxRecDepth 100000 in
set_option maxHeartbeats 4000000 in
theorem tlw_12 {κ : hKx} {sz b L : Nat} {xs : Nat → Int32} (F : Cw κ RL code lw_tbl (fun _ => none) sz) (hR : kR κ = room_1) (hX : va_X b L xs (ks κ) (ks κ).heap) (hb : b < sz) {M : hM} {a1 a2 a3 : Nat} {a4 p1 p2 p3 p4 p5 p6 : Int32} {k1976 : hM → Prop} {cells slots : Nat} (hp1 : vp_in (a4 + 1) L ∧ xs (a4 + 1).toNatClampNeg = p1) (hp2 : vp_in (a4 + 2) L ∧ xs (a4 + 2).toNatClampNeg = p2) (hp3 : vp_in (a4 + 3) L ∧ xs (a4 + 3).toNatClampNeg = p3) (hp4 : vp_in (a4 + 4) L ∧ xs (a4 + 4).toNatClampNeg = p4) (hp5 : vp_in (a4 + 5) L ∧ xs (a4 + 5).toNatClampNeg = p5) (hp6 : vp_in (a4 + 6) L ∧ xs (a4 + 6).toNatClampNeg = p6) (hce : cells + 20 ≤ 601024) (hse : slots + 211 ≤ 7293034) (hk1976 : ∀ M, k1976 M → VW κ (cells + 20) (slots + 211) M 1976 [some (va_rf (some b)), some (va_rf (some a1)), some (va_rf (some a2)), some (va_rf (some a3)), some (.int a4), none, none] []) (h : lw_12 M a1 a2 a3 p1 p2 p3 p4 p5 p6 k1976) : VW κ cells slots M 996 [some (va_rf (some b)), some (va_rf (some a1)), some (va_rf (some a2)), some (va_rf (some a3)), some (.int a4), none, none] [] := by
  unfold lw_12 at h
  have C := F.1
  refine v_aload_n C (pc := 996) (i := 1) dL_law_996 rfl ?_
  refine v_aload_n C (pc := 997) (i := 0) dL_law_997 rfl ?_
  refine v_iload C (pc := 998) (i := 4) dL_law_998 rfl ?_
  refine v_iconst C (pc := 1000) (v := 1) dL_law_1000 (by decide) ?_
  refine v_iadd C (pc := 1001) dL_law_1001 ?_
  refine v_sld F hX hb (pc := 1002) hp1 dL_law_1002 ?_
  refine v_aload_n C (pc := 1003) (i := 0) dL_law_1003 rfl ?_
  refine v_iload C (pc := 1004) (i := 4) dL_law_1004 rfl ?_
  refine v_iconst C (pc := 1006) (v := 2) dL_law_1006 (by decide) ?_
  refine v_iadd C (pc := 1007) dL_law_1007 ?_
  refine v_sld F hX hb (pc := 1008) hp2 dL_law_1008 ?_
  refine v_aload_n C (pc := 1009) (i := 0) dL_law_1009 rfl ?_
  refine v_iload C (pc := 1010) (i := 4) dL_law_1010 rfl ?_
  refine v_iconst C (pc := 1012) (v := 3) dL_law_1012 (by decide) ?_
  refine v_iadd C (pc := 1013) dL_law_1013 ?_
  refine v_sld F hX hb (pc := 1014) hp3 dL_law_1014 ?_
  refine v_aload_n C (pc := 1015) (i := 3) dL_law_1015 rfl ?_
  refine v_nS F (pc := 1016) [va_rf (some a1), .int p1, .int p2, .int p3, va_rf (some a3)] 5 (cL_plea_met (kl κ) F.2.2.2.1 (kG κ) _ h) (good_t3 gL_law_L_plea) rfl hdsL_plea rfl rfl rfl (by rw [hR]; exact ⟨Nat.le_of_ble_eq_true rfl, Nat.le_of_ble_eq_true rfl⟩) (by rw [hR]; exact ⟨by show _ ≤ 601024; omega, by show _ ≤ 7293034; omega⟩) (Nat.le_of_ble_eq_true rfl) rfl dL_law_1016 (hk_i fun M168 x167 h => ?_)
  refine v_istore C (pc := 1019) (i := 5) (lv' := [some (va_rf (some b)), some (va_rf (some a1)), some (va_rf (some a2)), some (va_rf (some a3)), some (.int a4), some (.int x167), none]) dL_law_1019 rfl rfl ?_
  refine v_aload_n C (pc := 1021) (i := 2) dL_law_1021 rfl ?_
  refine v_aload_n C (pc := 1022) (i := 0) dL_law_1022 rfl ?_
  refine v_iload C (pc := 1023) (i := 4) dL_law_1023 rfl ?_
  refine v_iconst C (pc := 1025) (v := 1) dL_law_1025 (by decide) ?_
  refine v_iadd C (pc := 1026) dL_law_1026 ?_
  refine v_sld F hX hb (pc := 1027) hp1 dL_law_1027 ?_
  refine v_aload_n C (pc := 1028) (i := 0) dL_law_1028 rfl ?_
  refine v_iload C (pc := 1029) (i := 4) dL_law_1029 rfl ?_
  refine v_iconst C (pc := 1031) (v := 2) dL_law_1031 (by decide) ?_
  refine v_iadd C (pc := 1032) dL_law_1032 ?_
  refine v_sld F hX hb (pc := 1033) hp2 dL_law_1033 ?_
  refine v_aload_n C (pc := 1034) (i := 0) dL_law_1034 rfl ?_
  refine v_iload C (pc := 1035) (i := 4) dL_law_1035 rfl ?_
  refine v_iconst C (pc := 1037) (v := 3) dL_law_1037 (by decide) ?_
  refine v_iadd C (pc := 1038) dL_law_1038 ?_
  refine v_sld F hX hb (pc := 1039) hp3 dL_law_1039 ?_
  obtain ⟨y170, hy170, h⟩ := h
  obtain ⟨fsy170, hfy170⟩ := hC_some hy170
  refine v_nV F (pc := 1040) (ci := 5) [.int p1, .int p2, .int p3] 3 (cX5_plea_met (kl κ) F.2.2.2.1 (kG κ) _ h) hfy170 rfl (good_t gL_law_X5_plea) rfl hdX5_plea rfl rfl rfl (by rw [hR]; exact ⟨Nat.le_of_ble_eq_true rfl, Nat.le_of_ble_eq_true rfl⟩) (by rw [hR]; exact ⟨by show _ ≤ 601024; omega, by show _ ≤ 7293034; omega⟩) (Nat.le_of_ble_eq_true rfl) rfl dL_law_1040 (hk_i fun M171 x169 h => ?_)
  refine v_istore C (pc := 1043) (i := 6) (lv' := [some (va_rf (some b)), some (va_rf (some a1)), some (va_rf (some a2)), some (va_rf (some a3)), some (.int a4), some (.int x167), some (.int x169)]) dL_law_1043 rfl rfl ?_
  refine v_aload_n C (pc := 1045) (i := 2) dL_law_1045 rfl ?_
  obtain ⟨y173, hy173, h⟩ := h
  obtain ⟨fsy173, hfy173⟩ := hC_some hy173
  obtain ⟨x172, e172, h⟩ := h
  refine v_pV C (pc := 1046) (ci := 5) [] 0 (cX5_thrown_met (kl κ) (kG κ) _ e172) hfy173 rfl (good_t gL_law_X5_thrown) rfl hdX5_thrown rfl rfl rfl (by rw [hR]; exact ⟨Nat.le_of_ble_eq_true rfl, Nat.le_of_ble_eq_true rfl⟩) (by rw [hR]; exact ⟨by show _ ≤ 601024; omega, by show _ ≤ 7293034; omega⟩) (Nat.le_of_ble_eq_true rfl) rfl dL_law_1046 ?_
  refine v_iload C (pc := 1049) (i := 5) dL_law_1049 rfl ?_
  refine v_icmp_eq C (pc := 1051) (tgt := 1056) dL_law_1051 (by decide) (fun c174 => ?_) (fun c174 => ?_)
  · rw [if_pos c174] at h
    refine v_iload C (pc := 1056) (i := 5) dL_law_1056 rfl ?_
    refine v_if_ne C (pc := 1058) (tgt := 1073) dL_law_1058 (by decide) (fun c175 => ?_) (fun c175 => ?_)
    · rw [if_neg c175] at h
      refine v_goto C (pc := 1073) (tgt := 1976) dL_law_1073 (by decide) ?_
      refine v_mask (lv' := [some (va_rf (some b)), some (va_rf (some a1)), some (va_rf (some a2)), some (va_rf (some a3)), some (.int a4), none, none]) [true, true, true, true, true, false, false] rfl rfl ?_
      refine v_widen (k := cells + 20) (n := slots + 211) (by omega) (by omega) ?_
      exact hk1976 _ h
    · rw [if_pos c175] at h
      refine v_aload_n C (pc := 1061) (i := 3) dL_law_1061 rfl ?_
      refine v_iconst C (pc := 1062) (v := 0) dL_law_1062 (by decide) ?_
      obtain ⟨x176, e176, h⟩ := h
      refine v_lald C (pc := 1063) e176 dL_law_1063 ?_
      refine v_iload C (pc := 1064) (i := 6) dL_law_1064 rfl ?_
      refine v_i2l C (pc := 1066) dL_law_1066 ?_
      refine v_lcmp C (pc := 1067) dL_law_1067 ?_
      refine v_if_eq C (pc := 1068) (tgt := 1073) dL_law_1068 (by decide) (fun c177 => ?_) (fun c177 => ?_)
      · rw [if_pos c177] at h
        refine v_goto C (pc := 1073) (tgt := 1976) dL_law_1073 (by decide) ?_
        refine v_mask (lv' := [some (va_rf (some b)), some (va_rf (some a1)), some (va_rf (some a2)), some (va_rf (some a3)), some (.int a4), none, none]) [true, true, true, true, true, false, false] rfl rfl ?_
        refine v_widen (k := cells + 20) (n := slots + 211) (by omega) (by omega) ?_
        exact hk1976 _ h
      · rw [if_neg c177] at h
        refine v_iconst C (pc := 1071) (v := 0) dL_law_1071 (by decide) ?_
        exact h.elim
  · rw [if_neg c174] at h
    refine v_iconst C (pc := 1054) (v := 0) dL_law_1054 (by decide) ?_
    exact h.elim

def lw_13 (M : hM) (a1 a2 a3 : Nat) (p1 p2 p3 p4 p5 p6 : Int32) (k1976 : hM → Prop) : Prop :=
  wL_arrest M (some a1) p1 p2 (some a3) (fun M179 x178 =>
  ∃ y181, hC M179 5 (some a2) = some y181 ∧
  wX5_arrest M179 a2 p1 p2 (fun M182 x180 =>
  ∃ y184, hC M182 5 (some a2) = some y184 ∧
  ∃ x183, fX5_thrown M182 a2 = some x183 ∧
  if (x183 : Int32) = x178 then (
    if (x178 : Int32) = 0 then (
      ∃ x187, aJ M182 2 (some a3) 0 = some x187 ∧
      if ((lg_cmp x187 (Int32.toInt64 x180)) : Int32) = 0 then (
        k1976 M182
      ) else (
        False
      )
    ) else (
      k1976 M182
    )
  ) else (
    False
  )))
set_option maxRecDepth 100000 in
set_option maxHeartbeats 4000000 in
theorem tlw_13 {κ : hKx} {sz b L : Nat} {xs : Nat → Int32} (F : Cw κ RL code lw_tbl (fun _ => none) sz) (hR : kR κ = room_1) (hX : va_X b L xs (ks κ) (ks κ).heap) (hb : b < sz) {M : hM} {a1 a2 a3 : Nat} {a4 p1 p2 p3 p4 p5 p6 : Int32} {k1976 : hM → Prop} {cells slots : Nat} (hp1 : vp_in (a4 + 1) L ∧ xs (a4 + 1).toNatClampNeg = p1) (hp2 : vp_in (a4 + 2) L ∧ xs (a4 + 2).toNatClampNeg = p2) (hp3 : vp_in (a4 + 3) L ∧ xs (a4 + 3).toNatClampNeg = p3) (hp4 : vp_in (a4 + 4) L ∧ xs (a4 + 4).toNatClampNeg = p4) (hp5 : vp_in (a4 + 5) L ∧ xs (a4 + 5).toNatClampNeg = p5) (hp6 : vp_in (a4 + 6) L ∧ xs (a4 + 6).toNatClampNeg = p6) (hce : cells + 20 ≤ 601024) (hse : slots + 211 ≤ 7293034) (hk1976 : ∀ M, k1976 M → VW κ (cells + 20) (slots + 211) M 1976 [some (va_rf (some b)), some (va_rf (some a1)), some (va_rf (some a2)), some (va_rf (some a3)), some (.int a4), none, none] []) (h : lw_13 M a1 a2 a3 p1 p2 p3 p4 p5 p6 k1976) : VW κ cells slots M 1076 [some (va_rf (some b)), some (va_rf (some a1)), some (va_rf (some a2)), some (va_rf (some a3)), some (.int a4), none, none] [] := by
  unfold lw_13 at h
  have C := F.1
  refine v_aload_n C (pc := 1076) (i := 1) dL_law_1076 rfl ?_
  refine v_aload_n C (pc := 1077) (i := 0) dL_law_1077 rfl ?_
  refine v_iload C (pc := 1078) (i := 4) dL_law_1078 rfl ?_
  refine v_iconst C (pc := 1080) (v := 1) dL_law_1080 (by decide) ?_
  refine v_iadd C (pc := 1081) dL_law_1081 ?_
  refine v_sld F hX hb (pc := 1082) hp1 dL_law_1082 ?_
  refine v_aload_n C (pc := 1083) (i := 0) dL_law_1083 rfl ?_
  refine v_iload C (pc := 1084) (i := 4) dL_law_1084 rfl ?_
  refine v_iconst C (pc := 1086) (v := 2) dL_law_1086 (by decide) ?_
  refine v_iadd C (pc := 1087) dL_law_1087 ?_
  refine v_sld F hX hb (pc := 1088) hp2 dL_law_1088 ?_
  refine v_aload_n C (pc := 1089) (i := 3) dL_law_1089 rfl ?_
  refine v_nS F (pc := 1090) [va_rf (some a1), .int p1, .int p2, va_rf (some a3)] 4 (cL_arrest_met (kl κ) F.2.2.2.1 (kG κ) _ h) (good_t3 gL_law_L_arrest) rfl hdsL_arrest rfl rfl rfl (by rw [hR]; exact ⟨Nat.le_of_ble_eq_true rfl, Nat.le_of_ble_eq_true rfl⟩) (by rw [hR]; exact ⟨by show _ ≤ 601024; omega, by show _ ≤ 7293034; omega⟩) (Nat.le_of_ble_eq_true rfl) rfl dL_law_1090 (hk_i fun M179 x178 h => ?_)
  refine v_istore C (pc := 1093) (i := 5) (lv' := [some (va_rf (some b)), some (va_rf (some a1)), some (va_rf (some a2)), some (va_rf (some a3)), some (.int a4), some (.int x178), none]) dL_law_1093 rfl rfl ?_
  refine v_aload_n C (pc := 1095) (i := 2) dL_law_1095 rfl ?_
  refine v_aload_n C (pc := 1096) (i := 0) dL_law_1096 rfl ?_
  refine v_iload C (pc := 1097) (i := 4) dL_law_1097 rfl ?_
  refine v_iconst C (pc := 1099) (v := 1) dL_law_1099 (by decide) ?_
  refine v_iadd C (pc := 1100) dL_law_1100 ?_
  refine v_sld F hX hb (pc := 1101) hp1 dL_law_1101 ?_
  refine v_aload_n C (pc := 1102) (i := 0) dL_law_1102 rfl ?_
  refine v_iload C (pc := 1103) (i := 4) dL_law_1103 rfl ?_
  refine v_iconst C (pc := 1105) (v := 2) dL_law_1105 (by decide) ?_
  refine v_iadd C (pc := 1106) dL_law_1106 ?_
  refine v_sld F hX hb (pc := 1107) hp2 dL_law_1107 ?_
  obtain ⟨y181, hy181, h⟩ := h
  obtain ⟨fsy181, hfy181⟩ := hC_some hy181
  refine v_nV F (pc := 1108) (ci := 5) [.int p1, .int p2] 2 (cX5_arrest_met (kl κ) F.2.2.2.1 (kG κ) _ h) hfy181 rfl (good_t gL_law_X5_arrest) rfl hdX5_arrest rfl rfl rfl (by rw [hR]; exact ⟨Nat.le_of_ble_eq_true rfl, Nat.le_of_ble_eq_true rfl⟩) (by rw [hR]; exact ⟨by show _ ≤ 601024; omega, by show _ ≤ 7293034; omega⟩) (Nat.le_of_ble_eq_true rfl) rfl dL_law_1108 (hk_i fun M182 x180 h => ?_)
  refine v_istore C (pc := 1111) (i := 6) (lv' := [some (va_rf (some b)), some (va_rf (some a1)), some (va_rf (some a2)), some (va_rf (some a3)), some (.int a4), some (.int x178), some (.int x180)]) dL_law_1111 rfl rfl ?_
  refine v_aload_n C (pc := 1113) (i := 2) dL_law_1113 rfl ?_
  obtain ⟨y184, hy184, h⟩ := h
  obtain ⟨fsy184, hfy184⟩ := hC_some hy184
  obtain ⟨x183, e183, h⟩ := h
  refine v_pV C (pc := 1114) (ci := 5) [] 0 (cX5_thrown_met (kl κ) (kG κ) _ e183) hfy184 rfl (good_t gL_law_X5_thrown) rfl hdX5_thrown rfl rfl rfl (by rw [hR]; exact ⟨Nat.le_of_ble_eq_true rfl, Nat.le_of_ble_eq_true rfl⟩) (by rw [hR]; exact ⟨by show _ ≤ 601024; omega, by show _ ≤ 7293034; omega⟩) (Nat.le_of_ble_eq_true rfl) rfl dL_law_1114 ?_
  refine v_iload C (pc := 1117) (i := 5) dL_law_1117 rfl ?_
  refine v_icmp_eq C (pc := 1119) (tgt := 1124) dL_law_1119 (by decide) (fun c185 => ?_) (fun c185 => ?_)
  · rw [if_pos c185] at h
    refine v_iload C (pc := 1124) (i := 5) dL_law_1124 rfl ?_
    refine v_if_ne C (pc := 1126) (tgt := 1141) dL_law_1126 (by decide) (fun c186 => ?_) (fun c186 => ?_)
    · rw [if_neg c186] at h
      refine v_goto C (pc := 1141) (tgt := 1976) dL_law_1141 (by decide) ?_
      refine v_mask (lv' := [some (va_rf (some b)), some (va_rf (some a1)), some (va_rf (some a2)), some (va_rf (some a3)), some (.int a4), none, none]) [true, true, true, true, true, false, false] rfl rfl ?_
      refine v_widen (k := cells + 20) (n := slots + 211) (by omega) (by omega) ?_
      exact hk1976 _ h
    · rw [if_pos c186] at h
      refine v_aload_n C (pc := 1129) (i := 3) dL_law_1129 rfl ?_
      refine v_iconst C (pc := 1130) (v := 0) dL_law_1130 (by decide) ?_
      obtain ⟨x187, e187, h⟩ := h
      refine v_lald C (pc := 1131) e187 dL_law_1131 ?_
      refine v_iload C (pc := 1132) (i := 6) dL_law_1132 rfl ?_
      refine v_i2l C (pc := 1134) dL_law_1134 ?_
      refine v_lcmp C (pc := 1135) dL_law_1135 ?_
      refine v_if_eq C (pc := 1136) (tgt := 1141) dL_law_1136 (by decide) (fun c188 => ?_) (fun c188 => ?_)
      · rw [if_pos c188] at h
        refine v_goto C (pc := 1141) (tgt := 1976) dL_law_1141 (by decide) ?_
        refine v_mask (lv' := [some (va_rf (some b)), some (va_rf (some a1)), some (va_rf (some a2)), some (va_rf (some a3)), some (.int a4), none, none]) [true, true, true, true, true, false, false] rfl rfl ?_
        refine v_widen (k := cells + 20) (n := slots + 211) (by omega) (by omega) ?_
        exact hk1976 _ h
      · rw [if_neg c188] at h
        refine v_iconst C (pc := 1139) (v := 0) dL_law_1139 (by decide) ?_
        exact h.elim
  · rw [if_neg c185] at h
    refine v_iconst C (pc := 1122) (v := 0) dL_law_1122 (by decide) ?_
    exact h.elim

def lw_14 (M : hM) (a1 a2 a3 : Nat) (p1 p2 p3 p4 p5 p6 : Int32) (k1976 : hM → Prop) : Prop :=
  wL_extend M (some a1) p1 p2 p3 (some a3) (fun M190 x189 =>
  ∃ y192, hC M190 5 (some a2) = some y192 ∧
  wX5_extend M190 a2 p1 p2 p3 (fun M193 x191 =>
  ∃ y195, hC M193 5 (some a2) = some y195 ∧
  ∃ x194, fX5_thrown M193 a2 = some x194 ∧
  if (x194 : Int32) = x189 then (
    if (x189 : Int32) = 0 then (
      ∃ x198, aJ M193 2 (some a3) 0 = some x198 ∧
      if ((lg_cmp x198 (Int32.toInt64 x191)) : Int32) = 0 then (
        k1976 M193
      ) else (
        False
      )
    ) else (
      k1976 M193
    )
  ) else (
    False
  )))
set_option maxRecDepth 100000 in
set_option maxHeartbeats 4000000 in
theorem tlw_14 {κ : hKx} {sz b L : Nat} {xs : Nat → Int32} (F : Cw κ RL code lw_tbl (fun _ => none) sz) (hR : kR κ = room_1) (hX : va_X b L xs (ks κ) (ks κ).heap) (hb : b < sz) {M : hM} {a1 a2 a3 : Nat} {a4 p1 p2 p3 p4 p5 p6 : Int32} {k1976 : hM → Prop} {cells slots : Nat} (hp1 : vp_in (a4 + 1) L ∧ xs (a4 + 1).toNatClampNeg = p1) (hp2 : vp_in (a4 + 2) L ∧ xs (a4 + 2).toNatClampNeg = p2) (hp3 : vp_in (a4 + 3) L ∧ xs (a4 + 3).toNatClampNeg = p3) (hp4 : vp_in (a4 + 4) L ∧ xs (a4 + 4).toNatClampNeg = p4) (hp5 : vp_in (a4 + 5) L ∧ xs (a4 + 5).toNatClampNeg = p5) (hp6 : vp_in (a4 + 6) L ∧ xs (a4 + 6).toNatClampNeg = p6) (hce : cells + 20 ≤ 601024) (hse : slots + 211 ≤ 7293034) (hk1976 : ∀ M, k1976 M → VW κ (cells + 20) (slots + 211) M 1976 [some (va_rf (some b)), some (va_rf (some a1)), some (va_rf (some a2)), some (va_rf (some a3)), some (.int a4), none, none] []) (h : lw_14 M a1 a2 a3 p1 p2 p3 p4 p5 p6 k1976) : VW κ cells slots M 1144 [some (va_rf (some b)), some (va_rf (some a1)), some (va_rf (some a2)), some (va_rf (some a3)), some (.int a4), none, none] [] := by
  unfold lw_14 at h
  have C := F.1
  refine v_aload_n C (pc := 1144) (i := 1) dL_law_1144 rfl ?_
  refine v_aload_n C (pc := 1145) (i := 0) dL_law_1145 rfl ?_
  refine v_iload C (pc := 1146) (i := 4) dL_law_1146 rfl ?_
  refine v_iconst C (pc := 1148) (v := 1) dL_law_1148 (by decide) ?_
  refine v_iadd C (pc := 1149) dL_law_1149 ?_
  refine v_sld F hX hb (pc := 1150) hp1 dL_law_1150 ?_
  refine v_aload_n C (pc := 1151) (i := 0) dL_law_1151 rfl ?_
  refine v_iload C (pc := 1152) (i := 4) dL_law_1152 rfl ?_
  refine v_iconst C (pc := 1154) (v := 2) dL_law_1154 (by decide) ?_
  refine v_iadd C (pc := 1155) dL_law_1155 ?_
  refine v_sld F hX hb (pc := 1156) hp2 dL_law_1156 ?_
  refine v_aload_n C (pc := 1157) (i := 0) dL_law_1157 rfl ?_
  refine v_iload C (pc := 1158) (i := 4) dL_law_1158 rfl ?_
  refine v_iconst C (pc := 1160) (v := 3) dL_law_1160 (by decide) ?_
  refine v_iadd C (pc := 1161) dL_law_1161 ?_
  refine v_sld F hX hb (pc := 1162) hp3 dL_law_1162 ?_
  refine v_aload_n C (pc := 1163) (i := 3) dL_law_1163 rfl ?_
  refine v_nS F (pc := 1164) [va_rf (some a1), .int p1, .int p2, .int p3, va_rf (some a3)] 5 (cL_extend_met (kl κ) F.2.2.2.1 (kG κ) _ h) (good_t3 gL_law_L_extend) rfl hdsL_extend rfl rfl rfl (by rw [hR]; exact ⟨Nat.le_of_ble_eq_true rfl, Nat.le_of_ble_eq_true rfl⟩) (by rw [hR]; exact ⟨by show _ ≤ 601024; omega, by show _ ≤ 7293034; omega⟩) (Nat.le_of_ble_eq_true rfl) rfl dL_law_1164 (hk_i fun M190 x189 h => ?_)
  refine v_istore C (pc := 1167) (i := 5) (lv' := [some (va_rf (some b)), some (va_rf (some a1)), some (va_rf (some a2)), some (va_rf (some a3)), some (.int a4), some (.int x189), none]) dL_law_1167 rfl rfl ?_
  refine v_aload_n C (pc := 1169) (i := 2) dL_law_1169 rfl ?_
  refine v_aload_n C (pc := 1170) (i := 0) dL_law_1170 rfl ?_
  refine v_iload C (pc := 1171) (i := 4) dL_law_1171 rfl ?_
  refine v_iconst C (pc := 1173) (v := 1) dL_law_1173 (by decide) ?_
  refine v_iadd C (pc := 1174) dL_law_1174 ?_
  refine v_sld F hX hb (pc := 1175) hp1 dL_law_1175 ?_
  refine v_aload_n C (pc := 1176) (i := 0) dL_law_1176 rfl ?_
  refine v_iload C (pc := 1177) (i := 4) dL_law_1177 rfl ?_
  refine v_iconst C (pc := 1179) (v := 2) dL_law_1179 (by decide) ?_
  refine v_iadd C (pc := 1180) dL_law_1180 ?_
  refine v_sld F hX hb (pc := 1181) hp2 dL_law_1181 ?_
  refine v_aload_n C (pc := 1182) (i := 0) dL_law_1182 rfl ?_
  refine v_iload C (pc := 1183) (i := 4) dL_law_1183 rfl ?_
  refine v_iconst C (pc := 1185) (v := 3) dL_law_1185 (by decide) ?_
  refine v_iadd C (pc := 1186) dL_law_1186 ?_
  refine v_sld F hX hb (pc := 1187) hp3 dL_law_1187 ?_
  obtain ⟨y192, hy192, h⟩ := h
  obtain ⟨fsy192, hfy192⟩ := hC_some hy192
  refine v_nV F (pc := 1188) (ci := 5) [.int p1, .int p2, .int p3] 3 (cX5_extend_met (kl κ) F.2.2.2.1 (kG κ) _ h) hfy192 rfl (good_t gL_law_X5_extend) rfl hdX5_extend rfl rfl rfl (by rw [hR]; exact ⟨Nat.le_of_ble_eq_true rfl, Nat.le_of_ble_eq_true rfl⟩) (by rw [hR]; exact ⟨by show _ ≤ 601024; omega, by show _ ≤ 7293034; omega⟩) (Nat.le_of_ble_eq_true rfl) rfl dL_law_1188 (hk_i fun M193 x191 h => ?_)
  refine v_istore C (pc := 1191) (i := 6) (lv' := [some (va_rf (some b)), some (va_rf (some a1)), some (va_rf (some a2)), some (va_rf (some a3)), some (.int a4), some (.int x189), some (.int x191)]) dL_law_1191 rfl rfl ?_
  refine v_aload_n C (pc := 1193) (i := 2) dL_law_1193 rfl ?_
  obtain ⟨y195, hy195, h⟩ := h
  obtain ⟨fsy195, hfy195⟩ := hC_some hy195
  obtain ⟨x194, e194, h⟩ := h
  refine v_pV C (pc := 1194) (ci := 5) [] 0 (cX5_thrown_met (kl κ) (kG κ) _ e194) hfy195 rfl (good_t gL_law_X5_thrown) rfl hdX5_thrown rfl rfl rfl (by rw [hR]; exact ⟨Nat.le_of_ble_eq_true rfl, Nat.le_of_ble_eq_true rfl⟩) (by rw [hR]; exact ⟨by show _ ≤ 601024; omega, by show _ ≤ 7293034; omega⟩) (Nat.le_of_ble_eq_true rfl) rfl dL_law_1194 ?_
  refine v_iload C (pc := 1197) (i := 5) dL_law_1197 rfl ?_
  refine v_icmp_eq C (pc := 1199) (tgt := 1204) dL_law_1199 (by decide) (fun c196 => ?_) (fun c196 => ?_)
  · rw [if_pos c196] at h
    refine v_iload C (pc := 1204) (i := 5) dL_law_1204 rfl ?_
    refine v_if_ne C (pc := 1206) (tgt := 1221) dL_law_1206 (by decide) (fun c197 => ?_) (fun c197 => ?_)
    · rw [if_neg c197] at h
      refine v_goto C (pc := 1221) (tgt := 1976) dL_law_1221 (by decide) ?_
      refine v_mask (lv' := [some (va_rf (some b)), some (va_rf (some a1)), some (va_rf (some a2)), some (va_rf (some a3)), some (.int a4), none, none]) [true, true, true, true, true, false, false] rfl rfl ?_
      refine v_widen (k := cells + 20) (n := slots + 211) (by omega) (by omega) ?_
      exact hk1976 _ h
    · rw [if_pos c197] at h
      refine v_aload_n C (pc := 1209) (i := 3) dL_law_1209 rfl ?_
      refine v_iconst C (pc := 1210) (v := 0) dL_law_1210 (by decide) ?_
      obtain ⟨x198, e198, h⟩ := h
      refine v_lald C (pc := 1211) e198 dL_law_1211 ?_
      refine v_iload C (pc := 1212) (i := 6) dL_law_1212 rfl ?_
      refine v_i2l C (pc := 1214) dL_law_1214 ?_
      refine v_lcmp C (pc := 1215) dL_law_1215 ?_
      refine v_if_eq C (pc := 1216) (tgt := 1221) dL_law_1216 (by decide) (fun c199 => ?_) (fun c199 => ?_)
      · rw [if_pos c199] at h
        refine v_goto C (pc := 1221) (tgt := 1976) dL_law_1221 (by decide) ?_
        refine v_mask (lv' := [some (va_rf (some b)), some (va_rf (some a1)), some (va_rf (some a2)), some (va_rf (some a3)), some (.int a4), none, none]) [true, true, true, true, true, false, false] rfl rfl ?_
        refine v_widen (k := cells + 20) (n := slots + 211) (by omega) (by omega) ?_
        exact hk1976 _ h
      · rw [if_neg c199] at h
        refine v_iconst C (pc := 1219) (v := 0) dL_law_1219 (by decide) ?_
        exact h.elim
  · rw [if_neg c196] at h
    refine v_iconst C (pc := 1202) (v := 0) dL_law_1202 (by decide) ?_
    exact h.elim

def lw_15 (M : hM) (a1 a2 a3 : Nat) (p1 p2 p3 p4 p5 p6 : Int32) (k1976 : hM → Prop) : Prop :=
  wL_release M (some a1) p1 p2 (fun M201 x200 =>
  ∃ y203, hC M201 5 (some a2) = some y203 ∧
  wX5_release M201 a2 p1 p2 (fun M204 =>
  ∃ y206, hC M204 5 (some a2) = some y206 ∧
  ∃ x205, fX5_thrown M204 a2 = some x205 ∧
  if (x205 : Int32) = x200 then (
    k1976 M204
  ) else (
    False
  )))
set_option maxRecDepth 100000 in
set_option maxHeartbeats 4000000 in
theorem tlw_15 {κ : hKx} {sz b L : Nat} {xs : Nat → Int32} (F : Cw κ RL code lw_tbl (fun _ => none) sz) (hR : kR κ = room_1) (hX : va_X b L xs (ks κ) (ks κ).heap) (hb : b < sz) {M : hM} {a1 a2 a3 : Nat} {a4 p1 p2 p3 p4 p5 p6 : Int32} {k1976 : hM → Prop} {cells slots : Nat} (hp1 : vp_in (a4 + 1) L ∧ xs (a4 + 1).toNatClampNeg = p1) (hp2 : vp_in (a4 + 2) L ∧ xs (a4 + 2).toNatClampNeg = p2) (hp3 : vp_in (a4 + 3) L ∧ xs (a4 + 3).toNatClampNeg = p3) (hp4 : vp_in (a4 + 4) L ∧ xs (a4 + 4).toNatClampNeg = p4) (hp5 : vp_in (a4 + 5) L ∧ xs (a4 + 5).toNatClampNeg = p5) (hp6 : vp_in (a4 + 6) L ∧ xs (a4 + 6).toNatClampNeg = p6) (hce : cells + 20 ≤ 601024) (hse : slots + 211 ≤ 7293034) (hk1976 : ∀ M, k1976 M → VW κ (cells + 20) (slots + 211) M 1976 [some (va_rf (some b)), some (va_rf (some a1)), some (va_rf (some a2)), some (va_rf (some a3)), some (.int a4), none, none] []) (h : lw_15 M a1 a2 a3 p1 p2 p3 p4 p5 p6 k1976) : VW κ cells slots M 1224 [some (va_rf (some b)), some (va_rf (some a1)), some (va_rf (some a2)), some (va_rf (some a3)), some (.int a4), none, none] [] := by
  unfold lw_15 at h
  have C := F.1
  refine v_aload_n C (pc := 1224) (i := 1) dL_law_1224 rfl ?_
  refine v_aload_n C (pc := 1225) (i := 0) dL_law_1225 rfl ?_
  refine v_iload C (pc := 1226) (i := 4) dL_law_1226 rfl ?_
  refine v_iconst C (pc := 1228) (v := 1) dL_law_1228 (by decide) ?_
  refine v_iadd C (pc := 1229) dL_law_1229 ?_
  refine v_sld F hX hb (pc := 1230) hp1 dL_law_1230 ?_
  refine v_aload_n C (pc := 1231) (i := 0) dL_law_1231 rfl ?_
  refine v_iload C (pc := 1232) (i := 4) dL_law_1232 rfl ?_
  refine v_iconst C (pc := 1234) (v := 2) dL_law_1234 (by decide) ?_
  refine v_iadd C (pc := 1235) dL_law_1235 ?_
  refine v_sld F hX hb (pc := 1236) hp2 dL_law_1236 ?_
  refine v_nS F (pc := 1237) [va_rf (some a1), .int p1, .int p2] 3 (cL_release_met (kl κ) F.2.2.2.1 (kG κ) _ h) (good_t3 gL_law_L_release) rfl hdsL_release rfl rfl rfl (by rw [hR]; exact ⟨Nat.le_of_ble_eq_true rfl, Nat.le_of_ble_eq_true rfl⟩) (by rw [hR]; exact ⟨by show _ ≤ 601024; omega, by show _ ≤ 7293034; omega⟩) (Nat.le_of_ble_eq_true rfl) rfl dL_law_1237 (hk_i fun M201 x200 h => ?_)
  refine v_istore C (pc := 1240) (i := 5) (lv' := [some (va_rf (some b)), some (va_rf (some a1)), some (va_rf (some a2)), some (va_rf (some a3)), some (.int a4), some (.int x200), none]) dL_law_1240 rfl rfl ?_
  refine v_aload_n C (pc := 1242) (i := 2) dL_law_1242 rfl ?_
  refine v_aload_n C (pc := 1243) (i := 0) dL_law_1243 rfl ?_
  refine v_iload C (pc := 1244) (i := 4) dL_law_1244 rfl ?_
  refine v_iconst C (pc := 1246) (v := 1) dL_law_1246 (by decide) ?_
  refine v_iadd C (pc := 1247) dL_law_1247 ?_
  refine v_sld F hX hb (pc := 1248) hp1 dL_law_1248 ?_
  refine v_aload_n C (pc := 1249) (i := 0) dL_law_1249 rfl ?_
  refine v_iload C (pc := 1250) (i := 4) dL_law_1250 rfl ?_
  refine v_iconst C (pc := 1252) (v := 2) dL_law_1252 (by decide) ?_
  refine v_iadd C (pc := 1253) dL_law_1253 ?_
  refine v_sld F hX hb (pc := 1254) hp2 dL_law_1254 ?_
  obtain ⟨y203, hy203, h⟩ := h
  obtain ⟨fsy203, hfy203⟩ := hC_some hy203
  refine v_nV F (pc := 1255) (ci := 5) [.int p1, .int p2] 2 (cX5_release_met (kl κ) F.2.2.2.1 (kG κ) _ h) hfy203 rfl (good_t gL_law_X5_release) rfl hdX5_release rfl rfl rfl (by rw [hR]; exact ⟨Nat.le_of_ble_eq_true rfl, Nat.le_of_ble_eq_true rfl⟩) (by rw [hR]; exact ⟨by show _ ≤ 601024; omega, by show _ ≤ 7293034; omega⟩) (Nat.le_of_ble_eq_true rfl) rfl dL_law_1255 (hk_v fun M204 h => ?_)
  refine v_aload_n C (pc := 1258) (i := 2) dL_law_1258 rfl ?_
  obtain ⟨y206, hy206, h⟩ := h
  obtain ⟨fsy206, hfy206⟩ := hC_some hy206
  obtain ⟨x205, e205, h⟩ := h
  refine v_pV C (pc := 1259) (ci := 5) [] 0 (cX5_thrown_met (kl κ) (kG κ) _ e205) hfy206 rfl (good_t gL_law_X5_thrown) rfl hdX5_thrown rfl rfl rfl (by rw [hR]; exact ⟨Nat.le_of_ble_eq_true rfl, Nat.le_of_ble_eq_true rfl⟩) (by rw [hR]; exact ⟨by show _ ≤ 601024; omega, by show _ ≤ 7293034; omega⟩) (Nat.le_of_ble_eq_true rfl) rfl dL_law_1259 ?_
  refine v_iload C (pc := 1262) (i := 5) dL_law_1262 rfl ?_
  refine v_icmp_eq C (pc := 1264) (tgt := 1269) dL_law_1264 (by decide) (fun c207 => ?_) (fun c207 => ?_)
  · rw [if_pos c207] at h
    refine v_goto C (pc := 1269) (tgt := 1976) dL_law_1269 (by decide) ?_
    refine v_mask (lv' := [some (va_rf (some b)), some (va_rf (some a1)), some (va_rf (some a2)), some (va_rf (some a3)), some (.int a4), none, none]) [true, true, true, true, true, false, false] rfl rfl ?_
    refine v_widen (k := cells + 20) (n := slots + 211) (by omega) (by omega) ?_
    exact hk1976 _ h
  · rw [if_neg c207] at h
    refine v_iconst C (pc := 1267) (v := 0) dL_law_1267 (by decide) ?_
    exact h.elim

def lw_16 (M : hM) (a1 a2 a3 : Nat) (p1 p2 p3 p4 p5 p6 : Int32) (k1976 : hM → Prop) : Prop :=
  ∃ y209, hC M 4 (some a1) = some y209 ∧
  ∃ x208, fX4_day M a1 = some x208 ∧
  ∃ y211, hC M 5 (some a2) = some y211 ∧
  wX5_day M a2 (fun M212 x210 =>
  if (x208 : Int32) = x210 then (
    k1976 M212
  ) else (
    False
  ))
set_option maxRecDepth 100000 in
set_option maxHeartbeats 4000000 in
theorem tlw_16 {κ : hKx} {sz b L : Nat} {xs : Nat → Int32} (F : Cw κ RL code lw_tbl (fun _ => none) sz) (hR : kR κ = room_1) (hX : va_X b L xs (ks κ) (ks κ).heap) (hb : b < sz) {M : hM} {a1 a2 a3 : Nat} {a4 p1 p2 p3 p4 p5 p6 : Int32} {k1976 : hM → Prop} {cells slots : Nat} (hp1 : vp_in (a4 + 1) L ∧ xs (a4 + 1).toNatClampNeg = p1) (hp2 : vp_in (a4 + 2) L ∧ xs (a4 + 2).toNatClampNeg = p2) (hp3 : vp_in (a4 + 3) L ∧ xs (a4 + 3).toNatClampNeg = p3) (hp4 : vp_in (a4 + 4) L ∧ xs (a4 + 4).toNatClampNeg = p4) (hp5 : vp_in (a4 + 5) L ∧ xs (a4 + 5).toNatClampNeg = p5) (hp6 : vp_in (a4 + 6) L ∧ xs (a4 + 6).toNatClampNeg = p6) (hce : cells + 20 ≤ 601024) (hse : slots + 211 ≤ 7293034) (hk1976 : ∀ M, k1976 M → VW κ (cells + 20) (slots + 211) M 1976 [some (va_rf (some b)), some (va_rf (some a1)), some (va_rf (some a2)), some (va_rf (some a3)), some (.int a4), none, none] []) (h : lw_16 M a1 a2 a3 p1 p2 p3 p4 p5 p6 k1976) : VW κ cells slots M 1272 [some (va_rf (some b)), some (va_rf (some a1)), some (va_rf (some a2)), some (va_rf (some a3)), some (.int a4), none, none] [] := by
  unfold lw_16 at h
  have C := F.1
  refine v_aload_n C (pc := 1272) (i := 1) dL_law_1272 rfl ?_
  obtain ⟨y209, hy209, h⟩ := h
  obtain ⟨fsy209, hfy209⟩ := hC_some hy209
  obtain ⟨x208, e208, h⟩ := h
  refine v_pV C (pc := 1273) (ci := 4) [] 0 (cX4_day_met (kl κ) (kG κ) _ e208) hfy209 rfl (good_t gL_law_X4_day) rfl hdX4_day rfl rfl rfl (by rw [hR]; exact ⟨Nat.le_of_ble_eq_true rfl, Nat.le_of_ble_eq_true rfl⟩) (by rw [hR]; exact ⟨by show _ ≤ 601024; omega, by show _ ≤ 7293034; omega⟩) (Nat.le_of_ble_eq_true rfl) rfl dL_law_1273 ?_
  refine v_aload_n C (pc := 1276) (i := 2) dL_law_1276 rfl ?_
  obtain ⟨y211, hy211, h⟩ := h
  obtain ⟨fsy211, hfy211⟩ := hC_some hy211
  refine v_nV F (pc := 1277) (ci := 5) [] 0 (cX5_day_met (kl κ) F.2.2.2.1 (kG κ) _ h) hfy211 rfl (good_t gL_law_X5_day) rfl hdX5_day rfl rfl rfl (by rw [hR]; exact ⟨Nat.le_of_ble_eq_true rfl, Nat.le_of_ble_eq_true rfl⟩) (by rw [hR]; exact ⟨by show _ ≤ 601024; omega, by show _ ≤ 7293034; omega⟩) (Nat.le_of_ble_eq_true rfl) rfl dL_law_1277 (hk_i fun M212 x210 h => ?_)
  refine v_icmp_eq C (pc := 1280) (tgt := 1976) dL_law_1280 (by decide) (fun c213 => ?_) (fun c213 => ?_)
  · rw [if_pos c213] at h
    refine v_widen (k := cells + 20) (n := slots + 211) (by omega) (by omega) ?_
    exact hk1976 _ h
  · rw [if_neg c213] at h
    refine v_iconst C (pc := 1283) (v := 0) dL_law_1283 (by decide) ?_
    exact h.elim

def lw_17 (M : hM) (a1 a2 a3 : Nat) (p1 p2 p3 p4 p5 p6 : Int32) (k1976 : hM → Prop) : Prop :=
  wL_nests M (some a1) p1 p2 (some a3) (fun M215 x214 =>
  ∃ y217, hC M215 5 (some a2) = some y217 ∧
  wX5_nests M215 a2 p1 p2 (fun M218 x216 =>
  ∃ y220, hC M218 5 (some a2) = some y220 ∧
  ∃ x219, fX5_thrown M218 a2 = some x219 ∧
  if (x219 : Int32) = x214 then (
    if (x214 : Int32) = 0 then (
      ∃ x223, aJ M218 2 (some a3) 0 = some x223 ∧
      if (x216 : Int32) = 0 then (
        if ((lg_cmp x223 0) : Int32) = 0 then (
          k1976 M218
        ) else (
          False
        )
      ) else (
        if ((lg_cmp x223 1) : Int32) = 0 then (
          k1976 M218
        ) else (
          False
        )
      )
    ) else (
      k1976 M218
    )
  ) else (
    False
  )))
set_option maxRecDepth 100000 in
set_option maxHeartbeats 4000000 in
theorem tlw_17 {κ : hKx} {sz b L : Nat} {xs : Nat → Int32} (F : Cw κ RL code lw_tbl (fun _ => none) sz) (hR : kR κ = room_1) (hX : va_X b L xs (ks κ) (ks κ).heap) (hb : b < sz) {M : hM} {a1 a2 a3 : Nat} {a4 p1 p2 p3 p4 p5 p6 : Int32} {k1976 : hM → Prop} {cells slots : Nat} (hp1 : vp_in (a4 + 1) L ∧ xs (a4 + 1).toNatClampNeg = p1) (hp2 : vp_in (a4 + 2) L ∧ xs (a4 + 2).toNatClampNeg = p2) (hp3 : vp_in (a4 + 3) L ∧ xs (a4 + 3).toNatClampNeg = p3) (hp4 : vp_in (a4 + 4) L ∧ xs (a4 + 4).toNatClampNeg = p4) (hp5 : vp_in (a4 + 5) L ∧ xs (a4 + 5).toNatClampNeg = p5) (hp6 : vp_in (a4 + 6) L ∧ xs (a4 + 6).toNatClampNeg = p6) (hce : cells + 20 ≤ 601024) (hse : slots + 211 ≤ 7293034) (hk1976 : ∀ M, k1976 M → VW κ (cells + 20) (slots + 211) M 1976 [some (va_rf (some b)), some (va_rf (some a1)), some (va_rf (some a2)), some (va_rf (some a3)), some (.int a4), none, none] []) (h : lw_17 M a1 a2 a3 p1 p2 p3 p4 p5 p6 k1976) : VW κ cells slots M 1285 [some (va_rf (some b)), some (va_rf (some a1)), some (va_rf (some a2)), some (va_rf (some a3)), some (.int a4), none, none] [] := by
  unfold lw_17 at h
  have C := F.1
  refine v_aload_n C (pc := 1285) (i := 1) dL_law_1285 rfl ?_
  refine v_aload_n C (pc := 1286) (i := 0) dL_law_1286 rfl ?_
  refine v_iload C (pc := 1287) (i := 4) dL_law_1287 rfl ?_
  refine v_iconst C (pc := 1289) (v := 1) dL_law_1289 (by decide) ?_
  refine v_iadd C (pc := 1290) dL_law_1290 ?_
  refine v_sld F hX hb (pc := 1291) hp1 dL_law_1291 ?_
  refine v_aload_n C (pc := 1292) (i := 0) dL_law_1292 rfl ?_
  refine v_iload C (pc := 1293) (i := 4) dL_law_1293 rfl ?_
  refine v_iconst C (pc := 1295) (v := 2) dL_law_1295 (by decide) ?_
  refine v_iadd C (pc := 1296) dL_law_1296 ?_
  refine v_sld F hX hb (pc := 1297) hp2 dL_law_1297 ?_
  refine v_aload_n C (pc := 1298) (i := 3) dL_law_1298 rfl ?_
  refine v_nS F (pc := 1299) [va_rf (some a1), .int p1, .int p2, va_rf (some a3)] 4 (cL_nests_met (kl κ) F.2.2.2.1 (kG κ) _ h) (good_t3 gL_law_L_nests) rfl hdsL_nests rfl rfl rfl (by rw [hR]; exact ⟨Nat.le_of_ble_eq_true rfl, Nat.le_of_ble_eq_true rfl⟩) (by rw [hR]; exact ⟨by show _ ≤ 601024; omega, by show _ ≤ 7293034; omega⟩) (Nat.le_of_ble_eq_true rfl) rfl dL_law_1299 (hk_i fun M215 x214 h => ?_)
  refine v_istore C (pc := 1302) (i := 5) (lv' := [some (va_rf (some b)), some (va_rf (some a1)), some (va_rf (some a2)), some (va_rf (some a3)), some (.int a4), some (.int x214), none]) dL_law_1302 rfl rfl ?_
  refine v_aload_n C (pc := 1304) (i := 2) dL_law_1304 rfl ?_
  refine v_aload_n C (pc := 1305) (i := 0) dL_law_1305 rfl ?_
  refine v_iload C (pc := 1306) (i := 4) dL_law_1306 rfl ?_
  refine v_iconst C (pc := 1308) (v := 1) dL_law_1308 (by decide) ?_
  refine v_iadd C (pc := 1309) dL_law_1309 ?_
  refine v_sld F hX hb (pc := 1310) hp1 dL_law_1310 ?_
  refine v_aload_n C (pc := 1311) (i := 0) dL_law_1311 rfl ?_
  refine v_iload C (pc := 1312) (i := 4) dL_law_1312 rfl ?_
  refine v_iconst C (pc := 1314) (v := 2) dL_law_1314 (by decide) ?_
  refine v_iadd C (pc := 1315) dL_law_1315 ?_
  refine v_sld F hX hb (pc := 1316) hp2 dL_law_1316 ?_
  obtain ⟨y217, hy217, h⟩ := h
  obtain ⟨fsy217, hfy217⟩ := hC_some hy217
  refine v_nV F (pc := 1317) (ci := 5) [.int p1, .int p2] 2 (cX5_nests_met (kl κ) F.2.2.2.1 (kG κ) _ h) hfy217 rfl (good_t gL_law_X5_nests) rfl hdX5_nests rfl rfl rfl (by rw [hR]; exact ⟨Nat.le_of_ble_eq_true rfl, Nat.le_of_ble_eq_true rfl⟩) (by rw [hR]; exact ⟨by show _ ≤ 601024; omega, by show _ ≤ 7293034; omega⟩) (Nat.le_of_ble_eq_true rfl) rfl dL_law_1317 (hk_i fun M218 x216 h => ?_)
  refine v_istore C (pc := 1320) (i := 6) (lv' := [some (va_rf (some b)), some (va_rf (some a1)), some (va_rf (some a2)), some (va_rf (some a3)), some (.int a4), some (.int x214), some (.int x216)]) dL_law_1320 rfl rfl ?_
  refine v_aload_n C (pc := 1322) (i := 2) dL_law_1322 rfl ?_
  obtain ⟨y220, hy220, h⟩ := h
  obtain ⟨fsy220, hfy220⟩ := hC_some hy220
  obtain ⟨x219, e219, h⟩ := h
  refine v_pV C (pc := 1323) (ci := 5) [] 0 (cX5_thrown_met (kl κ) (kG κ) _ e219) hfy220 rfl (good_t gL_law_X5_thrown) rfl hdX5_thrown rfl rfl rfl (by rw [hR]; exact ⟨Nat.le_of_ble_eq_true rfl, Nat.le_of_ble_eq_true rfl⟩) (by rw [hR]; exact ⟨by show _ ≤ 601024; omega, by show _ ≤ 7293034; omega⟩) (Nat.le_of_ble_eq_true rfl) rfl dL_law_1323 ?_
  refine v_iload C (pc := 1326) (i := 5) dL_law_1326 rfl ?_
  refine v_icmp_eq C (pc := 1328) (tgt := 1333) dL_law_1328 (by decide) (fun c221 => ?_) (fun c221 => ?_)
  · rw [if_pos c221] at h
    refine v_iload C (pc := 1333) (i := 5) dL_law_1333 rfl ?_
    refine v_if_ne C (pc := 1335) (tgt := 1357) dL_law_1335 (by decide) (fun c222 => ?_) (fun c222 => ?_)
    · rw [if_neg c222] at h
      refine v_goto C (pc := 1357) (tgt := 1976) dL_law_1357 (by decide) ?_
      refine v_mask (lv' := [some (va_rf (some b)), some (va_rf (some a1)), some (va_rf (some a2)), some (va_rf (some a3)), some (.int a4), none, none]) [true, true, true, true, true, false, false] rfl rfl ?_
      refine v_widen (k := cells + 20) (n := slots + 211) (by omega) (by omega) ?_
      exact hk1976 _ h
    · rw [if_pos c222] at h
      refine v_aload_n C (pc := 1338) (i := 3) dL_law_1338 rfl ?_
      refine v_iconst C (pc := 1339) (v := 0) dL_law_1339 (by decide) ?_
      obtain ⟨x223, e223, h⟩ := h
      refine v_lald C (pc := 1340) e223 dL_law_1340 ?_
      refine v_iload C (pc := 1341) (i := 6) dL_law_1341 rfl ?_
      refine v_if_eq C (pc := 1343) (tgt := 1350) dL_law_1343 (by decide) (fun c224 => ?_) (fun c224 => ?_)
      · rw [if_pos c224] at h
        refine v_lconst C (pc := 1350) (v := 0) dL_law_1350 (by decide) ?_
        refine v_lcmp C (pc := 1351) dL_law_1351 ?_
        refine v_if_eq C (pc := 1352) (tgt := 1357) dL_law_1352 (by decide) (fun c225 => ?_) (fun c225 => ?_)
        · rw [if_pos c225] at h
          refine v_goto C (pc := 1357) (tgt := 1976) dL_law_1357 (by decide) ?_
          refine v_mask (lv' := [some (va_rf (some b)), some (va_rf (some a1)), some (va_rf (some a2)), some (va_rf (some a3)), some (.int a4), none, none]) [true, true, true, true, true, false, false] rfl rfl ?_
          refine v_widen (k := cells + 20) (n := slots + 211) (by omega) (by omega) ?_
          exact hk1976 _ h
        · rw [if_neg c225] at h
          refine v_iconst C (pc := 1355) (v := 0) dL_law_1355 (by decide) ?_
          exact h.elim
      · rw [if_neg c224] at h
        refine v_lconst C (pc := 1346) (v := 1) dL_law_1346 (by decide) ?_
        refine v_goto C (pc := 1347) (tgt := 1351) dL_law_1347 (by decide) ?_
        refine v_lcmp C (pc := 1351) dL_law_1351 ?_
        refine v_if_eq C (pc := 1352) (tgt := 1357) dL_law_1352 (by decide) (fun c226 => ?_) (fun c226 => ?_)
        · rw [if_pos c226] at h
          refine v_goto C (pc := 1357) (tgt := 1976) dL_law_1357 (by decide) ?_
          refine v_mask (lv' := [some (va_rf (some b)), some (va_rf (some a1)), some (va_rf (some a2)), some (va_rf (some a3)), some (.int a4), none, none]) [true, true, true, true, true, false, false] rfl rfl ?_
          refine v_widen (k := cells + 20) (n := slots + 211) (by omega) (by omega) ?_
          exact hk1976 _ h
        · rw [if_neg c226] at h
          refine v_iconst C (pc := 1355) (v := 0) dL_law_1355 (by decide) ?_
          exact h.elim
  · rw [if_neg c221] at h
    refine v_iconst C (pc := 1331) (v := 0) dL_law_1331 (by decide) ?_
    exact h.elim

def lw_18 (M : hM) (a1 a2 a3 : Nat) (p1 p2 p3 p4 p5 p6 : Int32) (k1976 : hM → Prop) : Prop :=
  wL_strength M (some a1) p1 p2 p3 p4 (some a3) (fun M228 x227 =>
  ∃ y230, hC M228 5 (some a2) = some y230 ∧
  wX5_strength M228 a2 p1 p2 p3 p4 (fun M231 x229 =>
  ∃ y233, hC M231 5 (some a2) = some y233 ∧
  ∃ x232, fX5_thrown M231 a2 = some x232 ∧
  if (x232 : Int32) = x227 then (
    if (x227 : Int32) = 0 then (
      ∃ x236, aJ M231 2 (some a3) 0 = some x236 ∧
      if ((lg_cmp x236 (Int32.toInt64 x229)) : Int32) = 0 then (
        k1976 M231
      ) else (
        False
      )
    ) else (
      k1976 M231
    )
  ) else (
    False
  )))
set_option maxRecDepth 100000 in
set_option maxHeartbeats 4000000 in
theorem tlw_18 {κ : hKx} {sz b L : Nat} {xs : Nat → Int32} (F : Cw κ RL code lw_tbl (fun _ => none) sz) (hR : kR κ = room_1) (hX : va_X b L xs (ks κ) (ks κ).heap) (hb : b < sz) {M : hM} {a1 a2 a3 : Nat} {a4 p1 p2 p3 p4 p5 p6 : Int32} {k1976 : hM → Prop} {cells slots : Nat} (hp1 : vp_in (a4 + 1) L ∧ xs (a4 + 1).toNatClampNeg = p1) (hp2 : vp_in (a4 + 2) L ∧ xs (a4 + 2).toNatClampNeg = p2) (hp3 : vp_in (a4 + 3) L ∧ xs (a4 + 3).toNatClampNeg = p3) (hp4 : vp_in (a4 + 4) L ∧ xs (a4 + 4).toNatClampNeg = p4) (hp5 : vp_in (a4 + 5) L ∧ xs (a4 + 5).toNatClampNeg = p5) (hp6 : vp_in (a4 + 6) L ∧ xs (a4 + 6).toNatClampNeg = p6) (hce : cells + 20 ≤ 601024) (hse : slots + 211 ≤ 7293034) (hk1976 : ∀ M, k1976 M → VW κ (cells + 20) (slots + 211) M 1976 [some (va_rf (some b)), some (va_rf (some a1)), some (va_rf (some a2)), some (va_rf (some a3)), some (.int a4), none, none] []) (h : lw_18 M a1 a2 a3 p1 p2 p3 p4 p5 p6 k1976) : VW κ cells slots M 1360 [some (va_rf (some b)), some (va_rf (some a1)), some (va_rf (some a2)), some (va_rf (some a3)), some (.int a4), none, none] [] := by
  unfold lw_18 at h
  have C := F.1
  refine v_aload_n C (pc := 1360) (i := 1) dL_law_1360 rfl ?_
  refine v_aload_n C (pc := 1361) (i := 0) dL_law_1361 rfl ?_
  refine v_iload C (pc := 1362) (i := 4) dL_law_1362 rfl ?_
  refine v_iconst C (pc := 1364) (v := 1) dL_law_1364 (by decide) ?_
  refine v_iadd C (pc := 1365) dL_law_1365 ?_
  refine v_sld F hX hb (pc := 1366) hp1 dL_law_1366 ?_
  refine v_aload_n C (pc := 1367) (i := 0) dL_law_1367 rfl ?_
  refine v_iload C (pc := 1368) (i := 4) dL_law_1368 rfl ?_
  refine v_iconst C (pc := 1370) (v := 2) dL_law_1370 (by decide) ?_
  refine v_iadd C (pc := 1371) dL_law_1371 ?_
  refine v_sld F hX hb (pc := 1372) hp2 dL_law_1372 ?_
  refine v_aload_n C (pc := 1373) (i := 0) dL_law_1373 rfl ?_
  refine v_iload C (pc := 1374) (i := 4) dL_law_1374 rfl ?_
  refine v_iconst C (pc := 1376) (v := 3) dL_law_1376 (by decide) ?_
  refine v_iadd C (pc := 1377) dL_law_1377 ?_
  refine v_sld F hX hb (pc := 1378) hp3 dL_law_1378 ?_
  refine v_aload_n C (pc := 1379) (i := 0) dL_law_1379 rfl ?_
  refine v_iload C (pc := 1380) (i := 4) dL_law_1380 rfl ?_
  refine v_iconst C (pc := 1382) (v := 4) dL_law_1382 (by decide) ?_
  refine v_iadd C (pc := 1383) dL_law_1383 ?_
  refine v_sld F hX hb (pc := 1384) hp4 dL_law_1384 ?_
  refine v_aload_n C (pc := 1385) (i := 3) dL_law_1385 rfl ?_
  refine v_nS F (pc := 1386) [va_rf (some a1), .int p1, .int p2, .int p3, .int p4, va_rf (some a3)] 6 (cL_strength_met (kl κ) F.2.2.2.1 (kG κ) _ h) (good_t3 gL_law_L_strength) rfl hdsL_strength rfl rfl rfl (by rw [hR]; exact ⟨Nat.le_of_ble_eq_true rfl, Nat.le_of_ble_eq_true rfl⟩) (by rw [hR]; exact ⟨by show _ ≤ 601024; omega, by show _ ≤ 7293034; omega⟩) (Nat.le_of_ble_eq_true rfl) rfl dL_law_1386 (hk_i fun M228 x227 h => ?_)
  refine v_istore C (pc := 1389) (i := 5) (lv' := [some (va_rf (some b)), some (va_rf (some a1)), some (va_rf (some a2)), some (va_rf (some a3)), some (.int a4), some (.int x227), none]) dL_law_1389 rfl rfl ?_
  refine v_aload_n C (pc := 1391) (i := 2) dL_law_1391 rfl ?_
  refine v_aload_n C (pc := 1392) (i := 0) dL_law_1392 rfl ?_
  refine v_iload C (pc := 1393) (i := 4) dL_law_1393 rfl ?_
  refine v_iconst C (pc := 1395) (v := 1) dL_law_1395 (by decide) ?_
  refine v_iadd C (pc := 1396) dL_law_1396 ?_
  refine v_sld F hX hb (pc := 1397) hp1 dL_law_1397 ?_
  refine v_aload_n C (pc := 1398) (i := 0) dL_law_1398 rfl ?_
  refine v_iload C (pc := 1399) (i := 4) dL_law_1399 rfl ?_
  refine v_iconst C (pc := 1401) (v := 2) dL_law_1401 (by decide) ?_
  refine v_iadd C (pc := 1402) dL_law_1402 ?_
  refine v_sld F hX hb (pc := 1403) hp2 dL_law_1403 ?_
  refine v_aload_n C (pc := 1404) (i := 0) dL_law_1404 rfl ?_
  refine v_iload C (pc := 1405) (i := 4) dL_law_1405 rfl ?_
  refine v_iconst C (pc := 1407) (v := 3) dL_law_1407 (by decide) ?_
  refine v_iadd C (pc := 1408) dL_law_1408 ?_
  refine v_sld F hX hb (pc := 1409) hp3 dL_law_1409 ?_
  refine v_aload_n C (pc := 1410) (i := 0) dL_law_1410 rfl ?_
  refine v_iload C (pc := 1411) (i := 4) dL_law_1411 rfl ?_
  refine v_iconst C (pc := 1413) (v := 4) dL_law_1413 (by decide) ?_
  refine v_iadd C (pc := 1414) dL_law_1414 ?_
  refine v_sld F hX hb (pc := 1415) hp4 dL_law_1415 ?_
  obtain ⟨y230, hy230, h⟩ := h
  obtain ⟨fsy230, hfy230⟩ := hC_some hy230
  refine v_nV F (pc := 1416) (ci := 5) [.int p1, .int p2, .int p3, .int p4] 4 (cX5_strength_met (kl κ) F.2.2.2.1 (kG κ) _ h) hfy230 rfl (good_t gL_law_X5_strength) rfl hdX5_strength rfl rfl rfl (by rw [hR]; exact ⟨Nat.le_of_ble_eq_true rfl, Nat.le_of_ble_eq_true rfl⟩) (by rw [hR]; exact ⟨by show _ ≤ 601024; omega, by show _ ≤ 7293034; omega⟩) (Nat.le_of_ble_eq_true rfl) rfl dL_law_1416 (hk_i fun M231 x229 h => ?_)
  refine v_istore C (pc := 1419) (i := 6) (lv' := [some (va_rf (some b)), some (va_rf (some a1)), some (va_rf (some a2)), some (va_rf (some a3)), some (.int a4), some (.int x227), some (.int x229)]) dL_law_1419 rfl rfl ?_
  refine v_aload_n C (pc := 1421) (i := 2) dL_law_1421 rfl ?_
  obtain ⟨y233, hy233, h⟩ := h
  obtain ⟨fsy233, hfy233⟩ := hC_some hy233
  obtain ⟨x232, e232, h⟩ := h
  refine v_pV C (pc := 1422) (ci := 5) [] 0 (cX5_thrown_met (kl κ) (kG κ) _ e232) hfy233 rfl (good_t gL_law_X5_thrown) rfl hdX5_thrown rfl rfl rfl (by rw [hR]; exact ⟨Nat.le_of_ble_eq_true rfl, Nat.le_of_ble_eq_true rfl⟩) (by rw [hR]; exact ⟨by show _ ≤ 601024; omega, by show _ ≤ 7293034; omega⟩) (Nat.le_of_ble_eq_true rfl) rfl dL_law_1422 ?_
  refine v_iload C (pc := 1425) (i := 5) dL_law_1425 rfl ?_
  refine v_icmp_eq C (pc := 1427) (tgt := 1432) dL_law_1427 (by decide) (fun c234 => ?_) (fun c234 => ?_)
  · rw [if_pos c234] at h
    refine v_iload C (pc := 1432) (i := 5) dL_law_1432 rfl ?_
    refine v_if_ne C (pc := 1434) (tgt := 1449) dL_law_1434 (by decide) (fun c235 => ?_) (fun c235 => ?_)
    · rw [if_neg c235] at h
      refine v_goto C (pc := 1449) (tgt := 1976) dL_law_1449 (by decide) ?_
      refine v_mask (lv' := [some (va_rf (some b)), some (va_rf (some a1)), some (va_rf (some a2)), some (va_rf (some a3)), some (.int a4), none, none]) [true, true, true, true, true, false, false] rfl rfl ?_
      refine v_widen (k := cells + 20) (n := slots + 211) (by omega) (by omega) ?_
      exact hk1976 _ h
    · rw [if_pos c235] at h
      refine v_aload_n C (pc := 1437) (i := 3) dL_law_1437 rfl ?_
      refine v_iconst C (pc := 1438) (v := 0) dL_law_1438 (by decide) ?_
      obtain ⟨x236, e236, h⟩ := h
      refine v_lald C (pc := 1439) e236 dL_law_1439 ?_
      refine v_iload C (pc := 1440) (i := 6) dL_law_1440 rfl ?_
      refine v_i2l C (pc := 1442) dL_law_1442 ?_
      refine v_lcmp C (pc := 1443) dL_law_1443 ?_
      refine v_if_eq C (pc := 1444) (tgt := 1449) dL_law_1444 (by decide) (fun c237 => ?_) (fun c237 => ?_)
      · rw [if_pos c237] at h
        refine v_goto C (pc := 1449) (tgt := 1976) dL_law_1449 (by decide) ?_
        refine v_mask (lv' := [some (va_rf (some b)), some (va_rf (some a1)), some (va_rf (some a2)), some (va_rf (some a3)), some (.int a4), none, none]) [true, true, true, true, true, false, false] rfl rfl ?_
        refine v_widen (k := cells + 20) (n := slots + 211) (by omega) (by omega) ?_
        exact hk1976 _ h
      · rw [if_neg c237] at h
        refine v_iconst C (pc := 1447) (v := 0) dL_law_1447 (by decide) ?_
        exact h.elim
  · rw [if_neg c234] at h
    refine v_iconst C (pc := 1430) (v := 0) dL_law_1430 (by decide) ?_
    exact h.elim

def lw_19 (M : hM) (a1 a2 a3 : Nat) (p1 p2 p3 p4 p5 p6 : Int32) (k1976 : hM → Prop) : Prop :=
  wL_whyNot M (some a1) p1 p2 p3 p4 (some a3) (fun M239 x238 =>
  ∃ y241, hC M239 5 (some a2) = some y241 ∧
  wX5_whyNot M239 a2 p1 p2 p3 p4 (fun M242 x240 =>
  ∃ y244, hC M242 5 (some a2) = some y244 ∧
  ∃ x243, fX5_thrown M242 a2 = some x243 ∧
  if (x243 : Int32) = x238 then (
    if (x238 : Int32) = 0 then (
      ∃ x247, aJ M242 2 (some a3) 0 = some x247 ∧
      if ((lg_cmp x247 (Int32.toInt64 x240)) : Int32) = 0 then (
        k1976 M242
      ) else (
        False
      )
    ) else (
      k1976 M242
    )
  ) else (
    False
  )))
set_option maxRecDepth 100000 in
set_option maxHeartbeats 4000000 in
theorem tlw_19 {κ : hKx} {sz b L : Nat} {xs : Nat → Int32} (F : Cw κ RL code lw_tbl (fun _ => none) sz) (hR : kR κ = room_1) (hX : va_X b L xs (ks κ) (ks κ).heap) (hb : b < sz) {M : hM} {a1 a2 a3 : Nat} {a4 p1 p2 p3 p4 p5 p6 : Int32} {k1976 : hM → Prop} {cells slots : Nat} (hp1 : vp_in (a4 + 1) L ∧ xs (a4 + 1).toNatClampNeg = p1) (hp2 : vp_in (a4 + 2) L ∧ xs (a4 + 2).toNatClampNeg = p2) (hp3 : vp_in (a4 + 3) L ∧ xs (a4 + 3).toNatClampNeg = p3) (hp4 : vp_in (a4 + 4) L ∧ xs (a4 + 4).toNatClampNeg = p4) (hp5 : vp_in (a4 + 5) L ∧ xs (a4 + 5).toNatClampNeg = p5) (hp6 : vp_in (a4 + 6) L ∧ xs (a4 + 6).toNatClampNeg = p6) (hce : cells + 20 ≤ 601024) (hse : slots + 211 ≤ 7293034) (hk1976 : ∀ M, k1976 M → VW κ (cells + 20) (slots + 211) M 1976 [some (va_rf (some b)), some (va_rf (some a1)), some (va_rf (some a2)), some (va_rf (some a3)), some (.int a4), none, none] []) (h : lw_19 M a1 a2 a3 p1 p2 p3 p4 p5 p6 k1976) : VW κ cells slots M 1452 [some (va_rf (some b)), some (va_rf (some a1)), some (va_rf (some a2)), some (va_rf (some a3)), some (.int a4), none, none] [] := by
  unfold lw_19 at h
  have C := F.1
  refine v_aload_n C (pc := 1452) (i := 1) dL_law_1452 rfl ?_
  refine v_aload_n C (pc := 1453) (i := 0) dL_law_1453 rfl ?_
  refine v_iload C (pc := 1454) (i := 4) dL_law_1454 rfl ?_
  refine v_iconst C (pc := 1456) (v := 1) dL_law_1456 (by decide) ?_
  refine v_iadd C (pc := 1457) dL_law_1457 ?_
  refine v_sld F hX hb (pc := 1458) hp1 dL_law_1458 ?_
  refine v_aload_n C (pc := 1459) (i := 0) dL_law_1459 rfl ?_
  refine v_iload C (pc := 1460) (i := 4) dL_law_1460 rfl ?_
  refine v_iconst C (pc := 1462) (v := 2) dL_law_1462 (by decide) ?_
  refine v_iadd C (pc := 1463) dL_law_1463 ?_
  refine v_sld F hX hb (pc := 1464) hp2 dL_law_1464 ?_
  refine v_aload_n C (pc := 1465) (i := 0) dL_law_1465 rfl ?_
  refine v_iload C (pc := 1466) (i := 4) dL_law_1466 rfl ?_
  refine v_iconst C (pc := 1468) (v := 3) dL_law_1468 (by decide) ?_
  refine v_iadd C (pc := 1469) dL_law_1469 ?_
  refine v_sld F hX hb (pc := 1470) hp3 dL_law_1470 ?_
  refine v_aload_n C (pc := 1471) (i := 0) dL_law_1471 rfl ?_
  refine v_iload C (pc := 1472) (i := 4) dL_law_1472 rfl ?_
  refine v_iconst C (pc := 1474) (v := 4) dL_law_1474 (by decide) ?_
  refine v_iadd C (pc := 1475) dL_law_1475 ?_
  refine v_sld F hX hb (pc := 1476) hp4 dL_law_1476 ?_
  refine v_aload_n C (pc := 1477) (i := 3) dL_law_1477 rfl ?_
  refine v_nS F (pc := 1478) [va_rf (some a1), .int p1, .int p2, .int p3, .int p4, va_rf (some a3)] 6 (cL_whyNot_met (kl κ) F.2.2.2.1 (kG κ) _ h) (good_t3 gL_law_L_whyNot) rfl hdsL_whyNot rfl rfl rfl (by rw [hR]; exact ⟨Nat.le_of_ble_eq_true rfl, Nat.le_of_ble_eq_true rfl⟩) (by rw [hR]; exact ⟨by show _ ≤ 601024; omega, by show _ ≤ 7293034; omega⟩) (Nat.le_of_ble_eq_true rfl) rfl dL_law_1478 (hk_i fun M239 x238 h => ?_)
  refine v_istore C (pc := 1481) (i := 5) (lv' := [some (va_rf (some b)), some (va_rf (some a1)), some (va_rf (some a2)), some (va_rf (some a3)), some (.int a4), some (.int x238), none]) dL_law_1481 rfl rfl ?_
  refine v_aload_n C (pc := 1483) (i := 2) dL_law_1483 rfl ?_
  refine v_aload_n C (pc := 1484) (i := 0) dL_law_1484 rfl ?_
  refine v_iload C (pc := 1485) (i := 4) dL_law_1485 rfl ?_
  refine v_iconst C (pc := 1487) (v := 1) dL_law_1487 (by decide) ?_
  refine v_iadd C (pc := 1488) dL_law_1488 ?_
  refine v_sld F hX hb (pc := 1489) hp1 dL_law_1489 ?_
  refine v_aload_n C (pc := 1490) (i := 0) dL_law_1490 rfl ?_
  refine v_iload C (pc := 1491) (i := 4) dL_law_1491 rfl ?_
  refine v_iconst C (pc := 1493) (v := 2) dL_law_1493 (by decide) ?_
  refine v_iadd C (pc := 1494) dL_law_1494 ?_
  refine v_sld F hX hb (pc := 1495) hp2 dL_law_1495 ?_
  refine v_aload_n C (pc := 1496) (i := 0) dL_law_1496 rfl ?_
  refine v_iload C (pc := 1497) (i := 4) dL_law_1497 rfl ?_
  refine v_iconst C (pc := 1499) (v := 3) dL_law_1499 (by decide) ?_
  refine v_iadd C (pc := 1500) dL_law_1500 ?_
  refine v_sld F hX hb (pc := 1501) hp3 dL_law_1501 ?_
  refine v_aload_n C (pc := 1502) (i := 0) dL_law_1502 rfl ?_
  refine v_iload C (pc := 1503) (i := 4) dL_law_1503 rfl ?_
  refine v_iconst C (pc := 1505) (v := 4) dL_law_1505 (by decide) ?_
  refine v_iadd C (pc := 1506) dL_law_1506 ?_
  refine v_sld F hX hb (pc := 1507) hp4 dL_law_1507 ?_
  obtain ⟨y241, hy241, h⟩ := h
  obtain ⟨fsy241, hfy241⟩ := hC_some hy241
  refine v_nV F (pc := 1508) (ci := 5) [.int p1, .int p2, .int p3, .int p4] 4 (cX5_whyNot_met (kl κ) F.2.2.2.1 (kG κ) _ h) hfy241 rfl (good_t gL_law_X5_whyNot) rfl hdX5_whyNot rfl rfl rfl (by rw [hR]; exact ⟨Nat.le_of_ble_eq_true rfl, Nat.le_of_ble_eq_true rfl⟩) (by rw [hR]; exact ⟨by show _ ≤ 601024; omega, by show _ ≤ 7293034; omega⟩) (Nat.le_of_ble_eq_true rfl) rfl dL_law_1508 (hk_i fun M242 x240 h => ?_)
  refine v_istore C (pc := 1511) (i := 6) (lv' := [some (va_rf (some b)), some (va_rf (some a1)), some (va_rf (some a2)), some (va_rf (some a3)), some (.int a4), some (.int x238), some (.int x240)]) dL_law_1511 rfl rfl ?_
  refine v_aload_n C (pc := 1513) (i := 2) dL_law_1513 rfl ?_
  obtain ⟨y244, hy244, h⟩ := h
  obtain ⟨fsy244, hfy244⟩ := hC_some hy244
  obtain ⟨x243, e243, h⟩ := h
  refine v_pV C (pc := 1514) (ci := 5) [] 0 (cX5_thrown_met (kl κ) (kG κ) _ e243) hfy244 rfl (good_t gL_law_X5_thrown) rfl hdX5_thrown rfl rfl rfl (by rw [hR]; exact ⟨Nat.le_of_ble_eq_true rfl, Nat.le_of_ble_eq_true rfl⟩) (by rw [hR]; exact ⟨by show _ ≤ 601024; omega, by show _ ≤ 7293034; omega⟩) (Nat.le_of_ble_eq_true rfl) rfl dL_law_1514 ?_
  refine v_iload C (pc := 1517) (i := 5) dL_law_1517 rfl ?_
  refine v_icmp_eq C (pc := 1519) (tgt := 1524) dL_law_1519 (by decide) (fun c245 => ?_) (fun c245 => ?_)
  · rw [if_pos c245] at h
    refine v_iload C (pc := 1524) (i := 5) dL_law_1524 rfl ?_
    refine v_if_ne C (pc := 1526) (tgt := 1541) dL_law_1526 (by decide) (fun c246 => ?_) (fun c246 => ?_)
    · rw [if_neg c246] at h
      refine v_goto C (pc := 1541) (tgt := 1976) dL_law_1541 (by decide) ?_
      refine v_mask (lv' := [some (va_rf (some b)), some (va_rf (some a1)), some (va_rf (some a2)), some (va_rf (some a3)), some (.int a4), none, none]) [true, true, true, true, true, false, false] rfl rfl ?_
      refine v_widen (k := cells + 20) (n := slots + 211) (by omega) (by omega) ?_
      exact hk1976 _ h
    · rw [if_pos c246] at h
      refine v_aload_n C (pc := 1529) (i := 3) dL_law_1529 rfl ?_
      refine v_iconst C (pc := 1530) (v := 0) dL_law_1530 (by decide) ?_
      obtain ⟨x247, e247, h⟩ := h
      refine v_lald C (pc := 1531) e247 dL_law_1531 ?_
      refine v_iload C (pc := 1532) (i := 6) dL_law_1532 rfl ?_
      refine v_i2l C (pc := 1534) dL_law_1534 ?_
      refine v_lcmp C (pc := 1535) dL_law_1535 ?_
      refine v_if_eq C (pc := 1536) (tgt := 1541) dL_law_1536 (by decide) (fun c248 => ?_) (fun c248 => ?_)
      · rw [if_pos c248] at h
        refine v_goto C (pc := 1541) (tgt := 1976) dL_law_1541 (by decide) ?_
        refine v_mask (lv' := [some (va_rf (some b)), some (va_rf (some a1)), some (va_rf (some a2)), some (va_rf (some a3)), some (.int a4), none, none]) [true, true, true, true, true, false, false] rfl rfl ?_
        refine v_widen (k := cells + 20) (n := slots + 211) (by omega) (by omega) ?_
        exact hk1976 _ h
      · rw [if_neg c248] at h
        refine v_iconst C (pc := 1539) (v := 0) dL_law_1539 (by decide) ?_
        exact h.elim
  · rw [if_neg c245] at h
    refine v_iconst C (pc := 1522) (v := 0) dL_law_1522 (by decide) ?_
    exact h.elim

def lw_20 (M : hM) (a1 a2 a3 : Nat) (p1 p2 p3 p4 p5 p6 : Int32) (k1976 : hM → Prop) : Prop :=
  wL_best M (some a1) p1 p2 p3 (some a3) (fun M250 x249 =>
  ∃ y252, hC M250 5 (some a2) = some y252 ∧
  wX5_best M250 a2 p1 p2 p3 (fun M253 x251 =>
  ∃ y255, hC M253 5 (some a2) = some y255 ∧
  ∃ x254, fX5_thrown M253 a2 = some x254 ∧
  if (x254 : Int32) = x249 then (
    if (x249 : Int32) = 0 then (
      ∃ x258, aJ M253 2 (some a3) 0 = some x258 ∧
      if ((lg_cmp x258 (Int32.toInt64 x251)) : Int32) = 0 then (
        k1976 M253
      ) else (
        False
      )
    ) else (
      k1976 M253
    )
  ) else (
    False
  )))
set_option maxRecDepth 100000 in
set_option maxHeartbeats 4000000 in
theorem tlw_20 {κ : hKx} {sz b L : Nat} {xs : Nat → Int32} (F : Cw κ RL code lw_tbl (fun _ => none) sz) (hR : kR κ = room_1) (hX : va_X b L xs (ks κ) (ks κ).heap) (hb : b < sz) {M : hM} {a1 a2 a3 : Nat} {a4 p1 p2 p3 p4 p5 p6 : Int32} {k1976 : hM → Prop} {cells slots : Nat} (hp1 : vp_in (a4 + 1) L ∧ xs (a4 + 1).toNatClampNeg = p1) (hp2 : vp_in (a4 + 2) L ∧ xs (a4 + 2).toNatClampNeg = p2) (hp3 : vp_in (a4 + 3) L ∧ xs (a4 + 3).toNatClampNeg = p3) (hp4 : vp_in (a4 + 4) L ∧ xs (a4 + 4).toNatClampNeg = p4) (hp5 : vp_in (a4 + 5) L ∧ xs (a4 + 5).toNatClampNeg = p5) (hp6 : vp_in (a4 + 6) L ∧ xs (a4 + 6).toNatClampNeg = p6) (hce : cells + 20 ≤ 601024) (hse : slots + 211 ≤ 7293034) (hk1976 : ∀ M, k1976 M → VW κ (cells + 20) (slots + 211) M 1976 [some (va_rf (some b)), some (va_rf (some a1)), some (va_rf (some a2)), some (va_rf (some a3)), some (.int a4), none, none] []) (h : lw_20 M a1 a2 a3 p1 p2 p3 p4 p5 p6 k1976) : VW κ cells slots M 1544 [some (va_rf (some b)), some (va_rf (some a1)), some (va_rf (some a2)), some (va_rf (some a3)), some (.int a4), none, none] [] := by
  unfold lw_20 at h
  have C := F.1
  refine v_aload_n C (pc := 1544) (i := 1) dL_law_1544 rfl ?_
  refine v_aload_n C (pc := 1545) (i := 0) dL_law_1545 rfl ?_
  refine v_iload C (pc := 1546) (i := 4) dL_law_1546 rfl ?_
  refine v_iconst C (pc := 1548) (v := 1) dL_law_1548 (by decide) ?_
  refine v_iadd C (pc := 1549) dL_law_1549 ?_
  refine v_sld F hX hb (pc := 1550) hp1 dL_law_1550 ?_
  refine v_aload_n C (pc := 1551) (i := 0) dL_law_1551 rfl ?_
  refine v_iload C (pc := 1552) (i := 4) dL_law_1552 rfl ?_
  refine v_iconst C (pc := 1554) (v := 2) dL_law_1554 (by decide) ?_
  refine v_iadd C (pc := 1555) dL_law_1555 ?_
  refine v_sld F hX hb (pc := 1556) hp2 dL_law_1556 ?_
  refine v_aload_n C (pc := 1557) (i := 0) dL_law_1557 rfl ?_
  refine v_iload C (pc := 1558) (i := 4) dL_law_1558 rfl ?_
  refine v_iconst C (pc := 1560) (v := 3) dL_law_1560 (by decide) ?_
  refine v_iadd C (pc := 1561) dL_law_1561 ?_
  refine v_sld F hX hb (pc := 1562) hp3 dL_law_1562 ?_
  refine v_aload_n C (pc := 1563) (i := 3) dL_law_1563 rfl ?_
  refine v_nS F (pc := 1564) [va_rf (some a1), .int p1, .int p2, .int p3, va_rf (some a3)] 5 (cL_best_met (kl κ) F.2.2.2.1 (kG κ) _ h) (good_t3 gL_law_L_best) rfl hdsL_best rfl rfl rfl (by rw [hR]; exact ⟨Nat.le_of_ble_eq_true rfl, Nat.le_of_ble_eq_true rfl⟩) (by rw [hR]; exact ⟨by show _ ≤ 601024; omega, by show _ ≤ 7293034; omega⟩) (Nat.le_of_ble_eq_true rfl) rfl dL_law_1564 (hk_i fun M250 x249 h => ?_)
  refine v_istore C (pc := 1567) (i := 5) (lv' := [some (va_rf (some b)), some (va_rf (some a1)), some (va_rf (some a2)), some (va_rf (some a3)), some (.int a4), some (.int x249), none]) dL_law_1567 rfl rfl ?_
  refine v_aload_n C (pc := 1569) (i := 2) dL_law_1569 rfl ?_
  refine v_aload_n C (pc := 1570) (i := 0) dL_law_1570 rfl ?_
  refine v_iload C (pc := 1571) (i := 4) dL_law_1571 rfl ?_
  refine v_iconst C (pc := 1573) (v := 1) dL_law_1573 (by decide) ?_
  refine v_iadd C (pc := 1574) dL_law_1574 ?_
  refine v_sld F hX hb (pc := 1575) hp1 dL_law_1575 ?_
  refine v_aload_n C (pc := 1576) (i := 0) dL_law_1576 rfl ?_
  refine v_iload C (pc := 1577) (i := 4) dL_law_1577 rfl ?_
  refine v_iconst C (pc := 1579) (v := 2) dL_law_1579 (by decide) ?_
  refine v_iadd C (pc := 1580) dL_law_1580 ?_
  refine v_sld F hX hb (pc := 1581) hp2 dL_law_1581 ?_
  refine v_aload_n C (pc := 1582) (i := 0) dL_law_1582 rfl ?_
  refine v_iload C (pc := 1583) (i := 4) dL_law_1583 rfl ?_
  refine v_iconst C (pc := 1585) (v := 3) dL_law_1585 (by decide) ?_
  refine v_iadd C (pc := 1586) dL_law_1586 ?_
  refine v_sld F hX hb (pc := 1587) hp3 dL_law_1587 ?_
  obtain ⟨y252, hy252, h⟩ := h
  obtain ⟨fsy252, hfy252⟩ := hC_some hy252
  refine v_nV F (pc := 1588) (ci := 5) [.int p1, .int p2, .int p3] 3 (cX5_best_met (kl κ) F.2.2.2.1 (kG κ) _ h) hfy252 rfl (good_t gL_law_X5_best) rfl hdX5_best rfl rfl rfl (by rw [hR]; exact ⟨Nat.le_of_ble_eq_true rfl, Nat.le_of_ble_eq_true rfl⟩) (by rw [hR]; exact ⟨by show _ ≤ 601024; omega, by show _ ≤ 7293034; omega⟩) (Nat.le_of_ble_eq_true rfl) rfl dL_law_1588 (hk_i fun M253 x251 h => ?_)
  refine v_istore C (pc := 1591) (i := 6) (lv' := [some (va_rf (some b)), some (va_rf (some a1)), some (va_rf (some a2)), some (va_rf (some a3)), some (.int a4), some (.int x249), some (.int x251)]) dL_law_1591 rfl rfl ?_
  refine v_aload_n C (pc := 1593) (i := 2) dL_law_1593 rfl ?_
  obtain ⟨y255, hy255, h⟩ := h
  obtain ⟨fsy255, hfy255⟩ := hC_some hy255
  obtain ⟨x254, e254, h⟩ := h
  refine v_pV C (pc := 1594) (ci := 5) [] 0 (cX5_thrown_met (kl κ) (kG κ) _ e254) hfy255 rfl (good_t gL_law_X5_thrown) rfl hdX5_thrown rfl rfl rfl (by rw [hR]; exact ⟨Nat.le_of_ble_eq_true rfl, Nat.le_of_ble_eq_true rfl⟩) (by rw [hR]; exact ⟨by show _ ≤ 601024; omega, by show _ ≤ 7293034; omega⟩) (Nat.le_of_ble_eq_true rfl) rfl dL_law_1594 ?_
  refine v_iload C (pc := 1597) (i := 5) dL_law_1597 rfl ?_
  refine v_icmp_eq C (pc := 1599) (tgt := 1604) dL_law_1599 (by decide) (fun c256 => ?_) (fun c256 => ?_)
  · rw [if_pos c256] at h
    refine v_iload C (pc := 1604) (i := 5) dL_law_1604 rfl ?_
    refine v_if_ne C (pc := 1606) (tgt := 1621) dL_law_1606 (by decide) (fun c257 => ?_) (fun c257 => ?_)
    · rw [if_neg c257] at h
      refine v_goto C (pc := 1621) (tgt := 1976) dL_law_1621 (by decide) ?_
      refine v_mask (lv' := [some (va_rf (some b)), some (va_rf (some a1)), some (va_rf (some a2)), some (va_rf (some a3)), some (.int a4), none, none]) [true, true, true, true, true, false, false] rfl rfl ?_
      refine v_widen (k := cells + 20) (n := slots + 211) (by omega) (by omega) ?_
      exact hk1976 _ h
    · rw [if_pos c257] at h
      refine v_aload_n C (pc := 1609) (i := 3) dL_law_1609 rfl ?_
      refine v_iconst C (pc := 1610) (v := 0) dL_law_1610 (by decide) ?_
      obtain ⟨x258, e258, h⟩ := h
      refine v_lald C (pc := 1611) e258 dL_law_1611 ?_
      refine v_iload C (pc := 1612) (i := 6) dL_law_1612 rfl ?_
      refine v_i2l C (pc := 1614) dL_law_1614 ?_
      refine v_lcmp C (pc := 1615) dL_law_1615 ?_
      refine v_if_eq C (pc := 1616) (tgt := 1621) dL_law_1616 (by decide) (fun c259 => ?_) (fun c259 => ?_)
      · rw [if_pos c259] at h
        refine v_goto C (pc := 1621) (tgt := 1976) dL_law_1621 (by decide) ?_
        refine v_mask (lv' := [some (va_rf (some b)), some (va_rf (some a1)), some (va_rf (some a2)), some (va_rf (some a3)), some (.int a4), none, none]) [true, true, true, true, true, false, false] rfl rfl ?_
        refine v_widen (k := cells + 20) (n := slots + 211) (by omega) (by omega) ?_
        exact hk1976 _ h
      · rw [if_neg c259] at h
        refine v_iconst C (pc := 1619) (v := 0) dL_law_1619 (by decide) ?_
        exact h.elim
  · rw [if_neg c256] at h
    refine v_iconst C (pc := 1602) (v := 0) dL_law_1602 (by decide) ?_
    exact h.elim

def lw_21 (M : hM) (a1 a2 a3 : Nat) (p1 p2 p3 p4 p5 p6 : Int32) (k1976 : hM → Prop) : Prop :=
  wL_bestAnew M (some a1) p1 p2 p3 (some a3) (fun M261 x260 =>
  ∃ y263, hC M261 5 (some a2) = some y263 ∧
  wX5_bestAnew M261 a2 p1 p2 p3 (fun M264 x262 =>
  ∃ y266, hC M264 5 (some a2) = some y266 ∧
  ∃ x265, fX5_thrown M264 a2 = some x265 ∧
  if (x265 : Int32) = x260 then (
    if (x260 : Int32) = 0 then (
      ∃ x269, aJ M264 2 (some a3) 0 = some x269 ∧
      if ((lg_cmp x269 (Int32.toInt64 x262)) : Int32) = 0 then (
        k1976 M264
      ) else (
        False
      )
    ) else (
      k1976 M264
    )
  ) else (
    False
  )))
set_option maxRecDepth 100000 in
set_option maxHeartbeats 4000000 in
theorem tlw_21 {κ : hKx} {sz b L : Nat} {xs : Nat → Int32} (F : Cw κ RL code lw_tbl (fun _ => none) sz) (hR : kR κ = room_1) (hX : va_X b L xs (ks κ) (ks κ).heap) (hb : b < sz) {M : hM} {a1 a2 a3 : Nat} {a4 p1 p2 p3 p4 p5 p6 : Int32} {k1976 : hM → Prop} {cells slots : Nat} (hp1 : vp_in (a4 + 1) L ∧ xs (a4 + 1).toNatClampNeg = p1) (hp2 : vp_in (a4 + 2) L ∧ xs (a4 + 2).toNatClampNeg = p2) (hp3 : vp_in (a4 + 3) L ∧ xs (a4 + 3).toNatClampNeg = p3) (hp4 : vp_in (a4 + 4) L ∧ xs (a4 + 4).toNatClampNeg = p4) (hp5 : vp_in (a4 + 5) L ∧ xs (a4 + 5).toNatClampNeg = p5) (hp6 : vp_in (a4 + 6) L ∧ xs (a4 + 6).toNatClampNeg = p6) (hce : cells + 20 ≤ 601024) (hse : slots + 211 ≤ 7293034) (hk1976 : ∀ M, k1976 M → VW κ (cells + 20) (slots + 211) M 1976 [some (va_rf (some b)), some (va_rf (some a1)), some (va_rf (some a2)), some (va_rf (some a3)), some (.int a4), none, none] []) (h : lw_21 M a1 a2 a3 p1 p2 p3 p4 p5 p6 k1976) : VW κ cells slots M 1624 [some (va_rf (some b)), some (va_rf (some a1)), some (va_rf (some a2)), some (va_rf (some a3)), some (.int a4), none, none] [] := by
  unfold lw_21 at h
  have C := F.1
  refine v_aload_n C (pc := 1624) (i := 1) dL_law_1624 rfl ?_
  refine v_aload_n C (pc := 1625) (i := 0) dL_law_1625 rfl ?_
  refine v_iload C (pc := 1626) (i := 4) dL_law_1626 rfl ?_
  refine v_iconst C (pc := 1628) (v := 1) dL_law_1628 (by decide) ?_
  refine v_iadd C (pc := 1629) dL_law_1629 ?_
  refine v_sld F hX hb (pc := 1630) hp1 dL_law_1630 ?_
  refine v_aload_n C (pc := 1631) (i := 0) dL_law_1631 rfl ?_
  refine v_iload C (pc := 1632) (i := 4) dL_law_1632 rfl ?_
  refine v_iconst C (pc := 1634) (v := 2) dL_law_1634 (by decide) ?_
  refine v_iadd C (pc := 1635) dL_law_1635 ?_
  refine v_sld F hX hb (pc := 1636) hp2 dL_law_1636 ?_
  refine v_aload_n C (pc := 1637) (i := 0) dL_law_1637 rfl ?_
  refine v_iload C (pc := 1638) (i := 4) dL_law_1638 rfl ?_
  refine v_iconst C (pc := 1640) (v := 3) dL_law_1640 (by decide) ?_
  refine v_iadd C (pc := 1641) dL_law_1641 ?_
  refine v_sld F hX hb (pc := 1642) hp3 dL_law_1642 ?_
  refine v_aload_n C (pc := 1643) (i := 3) dL_law_1643 rfl ?_
  refine v_nS F (pc := 1644) [va_rf (some a1), .int p1, .int p2, .int p3, va_rf (some a3)] 5 (cL_bestAnew_met (kl κ) F.2.2.2.1 (kG κ) _ h) (good_t3 gL_law_L_bestAnew) rfl hdsL_bestAnew rfl rfl rfl (by rw [hR]; exact ⟨Nat.le_of_ble_eq_true rfl, Nat.le_of_ble_eq_true rfl⟩) (by rw [hR]; exact ⟨by show _ ≤ 601024; omega, by show _ ≤ 7293034; omega⟩) (Nat.le_of_ble_eq_true rfl) rfl dL_law_1644 (hk_i fun M261 x260 h => ?_)
  refine v_istore C (pc := 1647) (i := 5) (lv' := [some (va_rf (some b)), some (va_rf (some a1)), some (va_rf (some a2)), some (va_rf (some a3)), some (.int a4), some (.int x260), none]) dL_law_1647 rfl rfl ?_
  refine v_aload_n C (pc := 1649) (i := 2) dL_law_1649 rfl ?_
  refine v_aload_n C (pc := 1650) (i := 0) dL_law_1650 rfl ?_
  refine v_iload C (pc := 1651) (i := 4) dL_law_1651 rfl ?_
  refine v_iconst C (pc := 1653) (v := 1) dL_law_1653 (by decide) ?_
  refine v_iadd C (pc := 1654) dL_law_1654 ?_
  refine v_sld F hX hb (pc := 1655) hp1 dL_law_1655 ?_
  refine v_aload_n C (pc := 1656) (i := 0) dL_law_1656 rfl ?_
  refine v_iload C (pc := 1657) (i := 4) dL_law_1657 rfl ?_
  refine v_iconst C (pc := 1659) (v := 2) dL_law_1659 (by decide) ?_
  refine v_iadd C (pc := 1660) dL_law_1660 ?_
  refine v_sld F hX hb (pc := 1661) hp2 dL_law_1661 ?_
  refine v_aload_n C (pc := 1662) (i := 0) dL_law_1662 rfl ?_
  refine v_iload C (pc := 1663) (i := 4) dL_law_1663 rfl ?_
  refine v_iconst C (pc := 1665) (v := 3) dL_law_1665 (by decide) ?_
  refine v_iadd C (pc := 1666) dL_law_1666 ?_
  refine v_sld F hX hb (pc := 1667) hp3 dL_law_1667 ?_
  obtain ⟨y263, hy263, h⟩ := h
  obtain ⟨fsy263, hfy263⟩ := hC_some hy263
  refine v_nV F (pc := 1668) (ci := 5) [.int p1, .int p2, .int p3] 3 (cX5_bestAnew_met (kl κ) F.2.2.2.1 (kG κ) _ h) hfy263 rfl (good_t gL_law_X5_bestAnew) rfl hdX5_bestAnew rfl rfl rfl (by rw [hR]; exact ⟨Nat.le_of_ble_eq_true rfl, Nat.le_of_ble_eq_true rfl⟩) (by rw [hR]; exact ⟨by show _ ≤ 601024; omega, by show _ ≤ 7293034; omega⟩) (Nat.le_of_ble_eq_true rfl) rfl dL_law_1668 (hk_i fun M264 x262 h => ?_)
  refine v_istore C (pc := 1671) (i := 6) (lv' := [some (va_rf (some b)), some (va_rf (some a1)), some (va_rf (some a2)), some (va_rf (some a3)), some (.int a4), some (.int x260), some (.int x262)]) dL_law_1671 rfl rfl ?_
  refine v_aload_n C (pc := 1673) (i := 2) dL_law_1673 rfl ?_
  obtain ⟨y266, hy266, h⟩ := h
  obtain ⟨fsy266, hfy266⟩ := hC_some hy266
  obtain ⟨x265, e265, h⟩ := h
  refine v_pV C (pc := 1674) (ci := 5) [] 0 (cX5_thrown_met (kl κ) (kG κ) _ e265) hfy266 rfl (good_t gL_law_X5_thrown) rfl hdX5_thrown rfl rfl rfl (by rw [hR]; exact ⟨Nat.le_of_ble_eq_true rfl, Nat.le_of_ble_eq_true rfl⟩) (by rw [hR]; exact ⟨by show _ ≤ 601024; omega, by show _ ≤ 7293034; omega⟩) (Nat.le_of_ble_eq_true rfl) rfl dL_law_1674 ?_
  refine v_iload C (pc := 1677) (i := 5) dL_law_1677 rfl ?_
  refine v_icmp_eq C (pc := 1679) (tgt := 1684) dL_law_1679 (by decide) (fun c267 => ?_) (fun c267 => ?_)
  · rw [if_pos c267] at h
    refine v_iload C (pc := 1684) (i := 5) dL_law_1684 rfl ?_
    refine v_if_ne C (pc := 1686) (tgt := 1701) dL_law_1686 (by decide) (fun c268 => ?_) (fun c268 => ?_)
    · rw [if_neg c268] at h
      refine v_goto C (pc := 1701) (tgt := 1976) dL_law_1701 (by decide) ?_
      refine v_mask (lv' := [some (va_rf (some b)), some (va_rf (some a1)), some (va_rf (some a2)), some (va_rf (some a3)), some (.int a4), none, none]) [true, true, true, true, true, false, false] rfl rfl ?_
      refine v_widen (k := cells + 20) (n := slots + 211) (by omega) (by omega) ?_
      exact hk1976 _ h
    · rw [if_pos c268] at h
      refine v_aload_n C (pc := 1689) (i := 3) dL_law_1689 rfl ?_
      refine v_iconst C (pc := 1690) (v := 0) dL_law_1690 (by decide) ?_
      obtain ⟨x269, e269, h⟩ := h
      refine v_lald C (pc := 1691) e269 dL_law_1691 ?_
      refine v_iload C (pc := 1692) (i := 6) dL_law_1692 rfl ?_
      refine v_i2l C (pc := 1694) dL_law_1694 ?_
      refine v_lcmp C (pc := 1695) dL_law_1695 ?_
      refine v_if_eq C (pc := 1696) (tgt := 1701) dL_law_1696 (by decide) (fun c270 => ?_) (fun c270 => ?_)
      · rw [if_pos c270] at h
        refine v_goto C (pc := 1701) (tgt := 1976) dL_law_1701 (by decide) ?_
        refine v_mask (lv' := [some (va_rf (some b)), some (va_rf (some a1)), some (va_rf (some a2)), some (va_rf (some a3)), some (.int a4), none, none]) [true, true, true, true, true, false, false] rfl rfl ?_
        refine v_widen (k := cells + 20) (n := slots + 211) (by omega) (by omega) ?_
        exact hk1976 _ h
      · rw [if_neg c270] at h
        refine v_iconst C (pc := 1699) (v := 0) dL_law_1699 (by decide) ?_
        exact h.elim
  · rw [if_neg c267] at h
    refine v_iconst C (pc := 1682) (v := 0) dL_law_1682 (by decide) ?_
    exact h.elim

def lw_22 (M : hM) (a1 a2 a3 : Nat) (p1 p2 p3 p4 p5 p6 : Int32) (k1976 : hM → Prop) : Prop :=
  wL_lacks M (some a1) p1 p2 (some a3) (fun M272 x271 =>
  ∃ y274, hC M272 5 (some a2) = some y274 ∧
  wX5_lacks M272 a2 p1 p2 (fun M275 x273 =>
  ∃ y277, hC M275 5 (some a2) = some y277 ∧
  ∃ x276, fX5_thrown M275 a2 = some x276 ∧
  if (x276 : Int32) = x271 then (
    if (x271 : Int32) = 0 then (
      ∃ x280, aJ M275 2 (some a3) 0 = some x280 ∧
      if ((lg_cmp x280 (Int32.toInt64 x273)) : Int32) = 0 then (
        k1976 M275
      ) else (
        False
      )
    ) else (
      k1976 M275
    )
  ) else (
    False
  )))
set_option maxRecDepth 100000 in
set_option maxHeartbeats 4000000 in
theorem tlw_22 {κ : hKx} {sz b L : Nat} {xs : Nat → Int32} (F : Cw κ RL code lw_tbl (fun _ => none) sz) (hR : kR κ = room_1) (hX : va_X b L xs (ks κ) (ks κ).heap) (hb : b < sz) {M : hM} {a1 a2 a3 : Nat} {a4 p1 p2 p3 p4 p5 p6 : Int32} {k1976 : hM → Prop} {cells slots : Nat} (hp1 : vp_in (a4 + 1) L ∧ xs (a4 + 1).toNatClampNeg = p1) (hp2 : vp_in (a4 + 2) L ∧ xs (a4 + 2).toNatClampNeg = p2) (hp3 : vp_in (a4 + 3) L ∧ xs (a4 + 3).toNatClampNeg = p3) (hp4 : vp_in (a4 + 4) L ∧ xs (a4 + 4).toNatClampNeg = p4) (hp5 : vp_in (a4 + 5) L ∧ xs (a4 + 5).toNatClampNeg = p5) (hp6 : vp_in (a4 + 6) L ∧ xs (a4 + 6).toNatClampNeg = p6) (hce : cells + 20 ≤ 601024) (hse : slots + 211 ≤ 7293034) (hk1976 : ∀ M, k1976 M → VW κ (cells + 20) (slots + 211) M 1976 [some (va_rf (some b)), some (va_rf (some a1)), some (va_rf (some a2)), some (va_rf (some a3)), some (.int a4), none, none] []) (h : lw_22 M a1 a2 a3 p1 p2 p3 p4 p5 p6 k1976) : VW κ cells slots M 1704 [some (va_rf (some b)), some (va_rf (some a1)), some (va_rf (some a2)), some (va_rf (some a3)), some (.int a4), none, none] [] := by
  unfold lw_22 at h
  have C := F.1
  refine v_aload_n C (pc := 1704) (i := 1) dL_law_1704 rfl ?_
  refine v_aload_n C (pc := 1705) (i := 0) dL_law_1705 rfl ?_
  refine v_iload C (pc := 1706) (i := 4) dL_law_1706 rfl ?_
  refine v_iconst C (pc := 1708) (v := 1) dL_law_1708 (by decide) ?_
  refine v_iadd C (pc := 1709) dL_law_1709 ?_
  refine v_sld F hX hb (pc := 1710) hp1 dL_law_1710 ?_
  refine v_aload_n C (pc := 1711) (i := 0) dL_law_1711 rfl ?_
  refine v_iload C (pc := 1712) (i := 4) dL_law_1712 rfl ?_
  refine v_iconst C (pc := 1714) (v := 2) dL_law_1714 (by decide) ?_
  refine v_iadd C (pc := 1715) dL_law_1715 ?_
  refine v_sld F hX hb (pc := 1716) hp2 dL_law_1716 ?_
  refine v_aload_n C (pc := 1717) (i := 3) dL_law_1717 rfl ?_
  refine v_nS F (pc := 1718) [va_rf (some a1), .int p1, .int p2, va_rf (some a3)] 4 (cL_lacks_met (kl κ) F.2.2.2.1 (kG κ) _ h) (good_t3 gL_law_L_lacks) rfl hdsL_lacks rfl rfl rfl (by rw [hR]; exact ⟨Nat.le_of_ble_eq_true rfl, Nat.le_of_ble_eq_true rfl⟩) (by rw [hR]; exact ⟨by show _ ≤ 601024; omega, by show _ ≤ 7293034; omega⟩) (Nat.le_of_ble_eq_true rfl) rfl dL_law_1718 (hk_i fun M272 x271 h => ?_)
  refine v_istore C (pc := 1721) (i := 5) (lv' := [some (va_rf (some b)), some (va_rf (some a1)), some (va_rf (some a2)), some (va_rf (some a3)), some (.int a4), some (.int x271), none]) dL_law_1721 rfl rfl ?_
  refine v_aload_n C (pc := 1723) (i := 2) dL_law_1723 rfl ?_
  refine v_aload_n C (pc := 1724) (i := 0) dL_law_1724 rfl ?_
  refine v_iload C (pc := 1725) (i := 4) dL_law_1725 rfl ?_
  refine v_iconst C (pc := 1727) (v := 1) dL_law_1727 (by decide) ?_
  refine v_iadd C (pc := 1728) dL_law_1728 ?_
  refine v_sld F hX hb (pc := 1729) hp1 dL_law_1729 ?_
  refine v_aload_n C (pc := 1730) (i := 0) dL_law_1730 rfl ?_
  refine v_iload C (pc := 1731) (i := 4) dL_law_1731 rfl ?_
  refine v_iconst C (pc := 1733) (v := 2) dL_law_1733 (by decide) ?_
  refine v_iadd C (pc := 1734) dL_law_1734 ?_
  refine v_sld F hX hb (pc := 1735) hp2 dL_law_1735 ?_
  obtain ⟨y274, hy274, h⟩ := h
  obtain ⟨fsy274, hfy274⟩ := hC_some hy274
  refine v_nV F (pc := 1736) (ci := 5) [.int p1, .int p2] 2 (cX5_lacks_met (kl κ) F.2.2.2.1 (kG κ) _ h) hfy274 rfl (good_t gL_law_X5_lacks) rfl hdX5_lacks rfl rfl rfl (by rw [hR]; exact ⟨Nat.le_of_ble_eq_true rfl, Nat.le_of_ble_eq_true rfl⟩) (by rw [hR]; exact ⟨by show _ ≤ 601024; omega, by show _ ≤ 7293034; omega⟩) (Nat.le_of_ble_eq_true rfl) rfl dL_law_1736 (hk_i fun M275 x273 h => ?_)
  refine v_istore C (pc := 1739) (i := 6) (lv' := [some (va_rf (some b)), some (va_rf (some a1)), some (va_rf (some a2)), some (va_rf (some a3)), some (.int a4), some (.int x271), some (.int x273)]) dL_law_1739 rfl rfl ?_
  refine v_aload_n C (pc := 1741) (i := 2) dL_law_1741 rfl ?_
  obtain ⟨y277, hy277, h⟩ := h
  obtain ⟨fsy277, hfy277⟩ := hC_some hy277
  obtain ⟨x276, e276, h⟩ := h
  refine v_pV C (pc := 1742) (ci := 5) [] 0 (cX5_thrown_met (kl κ) (kG κ) _ e276) hfy277 rfl (good_t gL_law_X5_thrown) rfl hdX5_thrown rfl rfl rfl (by rw [hR]; exact ⟨Nat.le_of_ble_eq_true rfl, Nat.le_of_ble_eq_true rfl⟩) (by rw [hR]; exact ⟨by show _ ≤ 601024; omega, by show _ ≤ 7293034; omega⟩) (Nat.le_of_ble_eq_true rfl) rfl dL_law_1742 ?_
  refine v_iload C (pc := 1745) (i := 5) dL_law_1745 rfl ?_
  refine v_icmp_eq C (pc := 1747) (tgt := 1752) dL_law_1747 (by decide) (fun c278 => ?_) (fun c278 => ?_)
  · rw [if_pos c278] at h
    refine v_iload C (pc := 1752) (i := 5) dL_law_1752 rfl ?_
    refine v_if_ne C (pc := 1754) (tgt := 1769) dL_law_1754 (by decide) (fun c279 => ?_) (fun c279 => ?_)
    · rw [if_neg c279] at h
      refine v_goto C (pc := 1769) (tgt := 1976) dL_law_1769 (by decide) ?_
      refine v_mask (lv' := [some (va_rf (some b)), some (va_rf (some a1)), some (va_rf (some a2)), some (va_rf (some a3)), some (.int a4), none, none]) [true, true, true, true, true, false, false] rfl rfl ?_
      refine v_widen (k := cells + 20) (n := slots + 211) (by omega) (by omega) ?_
      exact hk1976 _ h
    · rw [if_pos c279] at h
      refine v_aload_n C (pc := 1757) (i := 3) dL_law_1757 rfl ?_
      refine v_iconst C (pc := 1758) (v := 0) dL_law_1758 (by decide) ?_
      obtain ⟨x280, e280, h⟩ := h
      refine v_lald C (pc := 1759) e280 dL_law_1759 ?_
      refine v_iload C (pc := 1760) (i := 6) dL_law_1760 rfl ?_
      refine v_i2l C (pc := 1762) dL_law_1762 ?_
      refine v_lcmp C (pc := 1763) dL_law_1763 ?_
      refine v_if_eq C (pc := 1764) (tgt := 1769) dL_law_1764 (by decide) (fun c281 => ?_) (fun c281 => ?_)
      · rw [if_pos c281] at h
        refine v_goto C (pc := 1769) (tgt := 1976) dL_law_1769 (by decide) ?_
        refine v_mask (lv' := [some (va_rf (some b)), some (va_rf (some a1)), some (va_rf (some a2)), some (va_rf (some a3)), some (.int a4), none, none]) [true, true, true, true, true, false, false] rfl rfl ?_
        refine v_widen (k := cells + 20) (n := slots + 211) (by omega) (by omega) ?_
        exact hk1976 _ h
      · rw [if_neg c281] at h
        refine v_iconst C (pc := 1767) (v := 0) dL_law_1767 (by decide) ?_
        exact h.elim
  · rw [if_neg c278] at h
    refine v_iconst C (pc := 1750) (v := 0) dL_law_1750 (by decide) ?_
    exact h.elim

def lw_23 (M : hM) (a1 a2 a3 : Nat) (p1 p2 p3 p4 p5 p6 : Int32) (k1976 : hM → Prop) : Prop :=
  wL_ofItem M (some a1) p1 p2 (some a3) (fun M283 x282 =>
  ∃ y285, hC M283 5 (some a2) = some y285 ∧
  wX5_ofItem M283 a2 p1 p2 (fun M286 x284 =>
  ∃ y288, hC M286 5 (some a2) = some y288 ∧
  ∃ x287, fX5_thrown M286 a2 = some x287 ∧
  if (x287 : Int32) = x282 then (
    if (x282 : Int32) = 0 then (
      ∃ x291, aJ M286 2 (some a3) 0 = some x291 ∧
      if ((lg_cmp x291 (Int32.toInt64 x284)) : Int32) = 0 then (
        k1976 M286
      ) else (
        False
      )
    ) else (
      k1976 M286
    )
  ) else (
    False
  )))
set_option maxRecDepth 100000 in
set_option maxHeartbeats 4000000 in
theorem tlw_23 {κ : hKx} {sz b L : Nat} {xs : Nat → Int32} (F : Cw κ RL code lw_tbl (fun _ => none) sz) (hR : kR κ = room_1) (hX : va_X b L xs (ks κ) (ks κ).heap) (hb : b < sz) {M : hM} {a1 a2 a3 : Nat} {a4 p1 p2 p3 p4 p5 p6 : Int32} {k1976 : hM → Prop} {cells slots : Nat} (hp1 : vp_in (a4 + 1) L ∧ xs (a4 + 1).toNatClampNeg = p1) (hp2 : vp_in (a4 + 2) L ∧ xs (a4 + 2).toNatClampNeg = p2) (hp3 : vp_in (a4 + 3) L ∧ xs (a4 + 3).toNatClampNeg = p3) (hp4 : vp_in (a4 + 4) L ∧ xs (a4 + 4).toNatClampNeg = p4) (hp5 : vp_in (a4 + 5) L ∧ xs (a4 + 5).toNatClampNeg = p5) (hp6 : vp_in (a4 + 6) L ∧ xs (a4 + 6).toNatClampNeg = p6) (hce : cells + 20 ≤ 601024) (hse : slots + 211 ≤ 7293034) (hk1976 : ∀ M, k1976 M → VW κ (cells + 20) (slots + 211) M 1976 [some (va_rf (some b)), some (va_rf (some a1)), some (va_rf (some a2)), some (va_rf (some a3)), some (.int a4), none, none] []) (h : lw_23 M a1 a2 a3 p1 p2 p3 p4 p5 p6 k1976) : VW κ cells slots M 1772 [some (va_rf (some b)), some (va_rf (some a1)), some (va_rf (some a2)), some (va_rf (some a3)), some (.int a4), none, none] [] := by
  unfold lw_23 at h
  have C := F.1
  refine v_aload_n C (pc := 1772) (i := 1) dL_law_1772 rfl ?_
  refine v_aload_n C (pc := 1773) (i := 0) dL_law_1773 rfl ?_
  refine v_iload C (pc := 1774) (i := 4) dL_law_1774 rfl ?_
  refine v_iconst C (pc := 1776) (v := 1) dL_law_1776 (by decide) ?_
  refine v_iadd C (pc := 1777) dL_law_1777 ?_
  refine v_sld F hX hb (pc := 1778) hp1 dL_law_1778 ?_
  refine v_aload_n C (pc := 1779) (i := 0) dL_law_1779 rfl ?_
  refine v_iload C (pc := 1780) (i := 4) dL_law_1780 rfl ?_
  refine v_iconst C (pc := 1782) (v := 2) dL_law_1782 (by decide) ?_
  refine v_iadd C (pc := 1783) dL_law_1783 ?_
  refine v_sld F hX hb (pc := 1784) hp2 dL_law_1784 ?_
  refine v_aload_n C (pc := 1785) (i := 3) dL_law_1785 rfl ?_
  refine v_nS F (pc := 1786) [va_rf (some a1), .int p1, .int p2, va_rf (some a3)] 4 (cL_ofItem_met (kl κ) F.2.2.2.1 (kG κ) _ h) (good_t3 gL_law_L_ofItem) rfl hdsL_ofItem rfl rfl rfl (by rw [hR]; exact ⟨Nat.le_of_ble_eq_true rfl, Nat.le_of_ble_eq_true rfl⟩) (by rw [hR]; exact ⟨by show _ ≤ 601024; omega, by show _ ≤ 7293034; omega⟩) (Nat.le_of_ble_eq_true rfl) rfl dL_law_1786 (hk_i fun M283 x282 h => ?_)
  refine v_istore C (pc := 1789) (i := 5) (lv' := [some (va_rf (some b)), some (va_rf (some a1)), some (va_rf (some a2)), some (va_rf (some a3)), some (.int a4), some (.int x282), none]) dL_law_1789 rfl rfl ?_
  refine v_aload_n C (pc := 1791) (i := 2) dL_law_1791 rfl ?_
  refine v_aload_n C (pc := 1792) (i := 0) dL_law_1792 rfl ?_
  refine v_iload C (pc := 1793) (i := 4) dL_law_1793 rfl ?_
  refine v_iconst C (pc := 1795) (v := 1) dL_law_1795 (by decide) ?_
  refine v_iadd C (pc := 1796) dL_law_1796 ?_
  refine v_sld F hX hb (pc := 1797) hp1 dL_law_1797 ?_
  refine v_aload_n C (pc := 1798) (i := 0) dL_law_1798 rfl ?_
  refine v_iload C (pc := 1799) (i := 4) dL_law_1799 rfl ?_
  refine v_iconst C (pc := 1801) (v := 2) dL_law_1801 (by decide) ?_
  refine v_iadd C (pc := 1802) dL_law_1802 ?_
  refine v_sld F hX hb (pc := 1803) hp2 dL_law_1803 ?_
  obtain ⟨y285, hy285, h⟩ := h
  obtain ⟨fsy285, hfy285⟩ := hC_some hy285
  refine v_nV F (pc := 1804) (ci := 5) [.int p1, .int p2] 2 (cX5_ofItem_met (kl κ) F.2.2.2.1 (kG κ) _ h) hfy285 rfl (good_t gL_law_X5_ofItem) rfl hdX5_ofItem rfl rfl rfl (by rw [hR]; exact ⟨Nat.le_of_ble_eq_true rfl, Nat.le_of_ble_eq_true rfl⟩) (by rw [hR]; exact ⟨by show _ ≤ 601024; omega, by show _ ≤ 7293034; omega⟩) (Nat.le_of_ble_eq_true rfl) rfl dL_law_1804 (hk_i fun M286 x284 h => ?_)
  refine v_istore C (pc := 1807) (i := 6) (lv' := [some (va_rf (some b)), some (va_rf (some a1)), some (va_rf (some a2)), some (va_rf (some a3)), some (.int a4), some (.int x282), some (.int x284)]) dL_law_1807 rfl rfl ?_
  refine v_aload_n C (pc := 1809) (i := 2) dL_law_1809 rfl ?_
  obtain ⟨y288, hy288, h⟩ := h
  obtain ⟨fsy288, hfy288⟩ := hC_some hy288
  obtain ⟨x287, e287, h⟩ := h
  refine v_pV C (pc := 1810) (ci := 5) [] 0 (cX5_thrown_met (kl κ) (kG κ) _ e287) hfy288 rfl (good_t gL_law_X5_thrown) rfl hdX5_thrown rfl rfl rfl (by rw [hR]; exact ⟨Nat.le_of_ble_eq_true rfl, Nat.le_of_ble_eq_true rfl⟩) (by rw [hR]; exact ⟨by show _ ≤ 601024; omega, by show _ ≤ 7293034; omega⟩) (Nat.le_of_ble_eq_true rfl) rfl dL_law_1810 ?_
  refine v_iload C (pc := 1813) (i := 5) dL_law_1813 rfl ?_
  refine v_icmp_eq C (pc := 1815) (tgt := 1820) dL_law_1815 (by decide) (fun c289 => ?_) (fun c289 => ?_)
  · rw [if_pos c289] at h
    refine v_iload C (pc := 1820) (i := 5) dL_law_1820 rfl ?_
    refine v_if_ne C (pc := 1822) (tgt := 1837) dL_law_1822 (by decide) (fun c290 => ?_) (fun c290 => ?_)
    · rw [if_neg c290] at h
      refine v_goto C (pc := 1837) (tgt := 1976) dL_law_1837 (by decide) ?_
      refine v_mask (lv' := [some (va_rf (some b)), some (va_rf (some a1)), some (va_rf (some a2)), some (va_rf (some a3)), some (.int a4), none, none]) [true, true, true, true, true, false, false] rfl rfl ?_
      refine v_widen (k := cells + 20) (n := slots + 211) (by omega) (by omega) ?_
      exact hk1976 _ h
    · rw [if_pos c290] at h
      refine v_aload_n C (pc := 1825) (i := 3) dL_law_1825 rfl ?_
      refine v_iconst C (pc := 1826) (v := 0) dL_law_1826 (by decide) ?_
      obtain ⟨x291, e291, h⟩ := h
      refine v_lald C (pc := 1827) e291 dL_law_1827 ?_
      refine v_iload C (pc := 1828) (i := 6) dL_law_1828 rfl ?_
      refine v_i2l C (pc := 1830) dL_law_1830 ?_
      refine v_lcmp C (pc := 1831) dL_law_1831 ?_
      refine v_if_eq C (pc := 1832) (tgt := 1837) dL_law_1832 (by decide) (fun c292 => ?_) (fun c292 => ?_)
      · rw [if_pos c292] at h
        refine v_goto C (pc := 1837) (tgt := 1976) dL_law_1837 (by decide) ?_
        refine v_mask (lv' := [some (va_rf (some b)), some (va_rf (some a1)), some (va_rf (some a2)), some (va_rf (some a3)), some (.int a4), none, none]) [true, true, true, true, true, false, false] rfl rfl ?_
        refine v_widen (k := cells + 20) (n := slots + 211) (by omega) (by omega) ?_
        exact hk1976 _ h
      · rw [if_neg c292] at h
        refine v_iconst C (pc := 1835) (v := 0) dL_law_1835 (by decide) ?_
        exact h.elim
  · rw [if_neg c289] at h
    refine v_iconst C (pc := 1818) (v := 0) dL_law_1818 (by decide) ?_
    exact h.elim

def lw_24 (M : hM) (a1 a2 a3 : Nat) (p1 p2 p3 p4 p5 p6 : Int32) (k1976 : hM → Prop) : Prop :=
  wL_ofAccused M (some a1) p1 p2 p3 (some a3) (fun M294 x293 =>
  ∃ y296, hC M294 5 (some a2) = some y296 ∧
  wX5_ofAccused M294 a2 p1 p2 p3 (fun M297 x295 =>
  ∃ y299, hC M297 5 (some a2) = some y299 ∧
  ∃ x298, fX5_thrown M297 a2 = some x298 ∧
  if (x298 : Int32) = x293 then (
    if (x293 : Int32) = 0 then (
      ∃ x302, aJ M297 2 (some a3) 0 = some x302 ∧
      if ((lg_cmp x302 (Int32.toInt64 x295)) : Int32) = 0 then (
        k1976 M297
      ) else (
        False
      )
    ) else (
      k1976 M297
    )
  ) else (
    False
  )))
set_option maxRecDepth 100000 in
set_option maxHeartbeats 4000000 in
theorem tlw_24 {κ : hKx} {sz b L : Nat} {xs : Nat → Int32} (F : Cw κ RL code lw_tbl (fun _ => none) sz) (hR : kR κ = room_1) (hX : va_X b L xs (ks κ) (ks κ).heap) (hb : b < sz) {M : hM} {a1 a2 a3 : Nat} {a4 p1 p2 p3 p4 p5 p6 : Int32} {k1976 : hM → Prop} {cells slots : Nat} (hp1 : vp_in (a4 + 1) L ∧ xs (a4 + 1).toNatClampNeg = p1) (hp2 : vp_in (a4 + 2) L ∧ xs (a4 + 2).toNatClampNeg = p2) (hp3 : vp_in (a4 + 3) L ∧ xs (a4 + 3).toNatClampNeg = p3) (hp4 : vp_in (a4 + 4) L ∧ xs (a4 + 4).toNatClampNeg = p4) (hp5 : vp_in (a4 + 5) L ∧ xs (a4 + 5).toNatClampNeg = p5) (hp6 : vp_in (a4 + 6) L ∧ xs (a4 + 6).toNatClampNeg = p6) (hce : cells + 20 ≤ 601024) (hse : slots + 211 ≤ 7293034) (hk1976 : ∀ M, k1976 M → VW κ (cells + 20) (slots + 211) M 1976 [some (va_rf (some b)), some (va_rf (some a1)), some (va_rf (some a2)), some (va_rf (some a3)), some (.int a4), none, none] []) (h : lw_24 M a1 a2 a3 p1 p2 p3 p4 p5 p6 k1976) : VW κ cells slots M 1840 [some (va_rf (some b)), some (va_rf (some a1)), some (va_rf (some a2)), some (va_rf (some a3)), some (.int a4), none, none] [] := by
  unfold lw_24 at h
  have C := F.1
  refine v_aload_n C (pc := 1840) (i := 1) dL_law_1840 rfl ?_
  refine v_aload_n C (pc := 1841) (i := 0) dL_law_1841 rfl ?_
  refine v_iload C (pc := 1842) (i := 4) dL_law_1842 rfl ?_
  refine v_iconst C (pc := 1844) (v := 1) dL_law_1844 (by decide) ?_
  refine v_iadd C (pc := 1845) dL_law_1845 ?_
  refine v_sld F hX hb (pc := 1846) hp1 dL_law_1846 ?_
  refine v_aload_n C (pc := 1847) (i := 0) dL_law_1847 rfl ?_
  refine v_iload C (pc := 1848) (i := 4) dL_law_1848 rfl ?_
  refine v_iconst C (pc := 1850) (v := 2) dL_law_1850 (by decide) ?_
  refine v_iadd C (pc := 1851) dL_law_1851 ?_
  refine v_sld F hX hb (pc := 1852) hp2 dL_law_1852 ?_
  refine v_aload_n C (pc := 1853) (i := 0) dL_law_1853 rfl ?_
  refine v_iload C (pc := 1854) (i := 4) dL_law_1854 rfl ?_
  refine v_iconst C (pc := 1856) (v := 3) dL_law_1856 (by decide) ?_
  refine v_iadd C (pc := 1857) dL_law_1857 ?_
  refine v_sld F hX hb (pc := 1858) hp3 dL_law_1858 ?_
  refine v_aload_n C (pc := 1859) (i := 3) dL_law_1859 rfl ?_
  refine v_nS F (pc := 1860) [va_rf (some a1), .int p1, .int p2, .int p3, va_rf (some a3)] 5 (cL_ofAccused_met (kl κ) F.2.2.2.1 (kG κ) _ h) (good_t3 gL_law_L_ofAccused) rfl hdsL_ofAccused rfl rfl rfl (by rw [hR]; exact ⟨Nat.le_of_ble_eq_true rfl, Nat.le_of_ble_eq_true rfl⟩) (by rw [hR]; exact ⟨by show _ ≤ 601024; omega, by show _ ≤ 7293034; omega⟩) (Nat.le_of_ble_eq_true rfl) rfl dL_law_1860 (hk_i fun M294 x293 h => ?_)
  refine v_istore C (pc := 1863) (i := 5) (lv' := [some (va_rf (some b)), some (va_rf (some a1)), some (va_rf (some a2)), some (va_rf (some a3)), some (.int a4), some (.int x293), none]) dL_law_1863 rfl rfl ?_
  refine v_aload_n C (pc := 1865) (i := 2) dL_law_1865 rfl ?_
  refine v_aload_n C (pc := 1866) (i := 0) dL_law_1866 rfl ?_
  refine v_iload C (pc := 1867) (i := 4) dL_law_1867 rfl ?_
  refine v_iconst C (pc := 1869) (v := 1) dL_law_1869 (by decide) ?_
  refine v_iadd C (pc := 1870) dL_law_1870 ?_
  refine v_sld F hX hb (pc := 1871) hp1 dL_law_1871 ?_
  refine v_aload_n C (pc := 1872) (i := 0) dL_law_1872 rfl ?_
  refine v_iload C (pc := 1873) (i := 4) dL_law_1873 rfl ?_
  refine v_iconst C (pc := 1875) (v := 2) dL_law_1875 (by decide) ?_
  refine v_iadd C (pc := 1876) dL_law_1876 ?_
  refine v_sld F hX hb (pc := 1877) hp2 dL_law_1877 ?_
  refine v_aload_n C (pc := 1878) (i := 0) dL_law_1878 rfl ?_
  refine v_iload C (pc := 1879) (i := 4) dL_law_1879 rfl ?_
  refine v_iconst C (pc := 1881) (v := 3) dL_law_1881 (by decide) ?_
  refine v_iadd C (pc := 1882) dL_law_1882 ?_
  refine v_sld F hX hb (pc := 1883) hp3 dL_law_1883 ?_
  obtain ⟨y296, hy296, h⟩ := h
  obtain ⟨fsy296, hfy296⟩ := hC_some hy296
  refine v_nV F (pc := 1884) (ci := 5) [.int p1, .int p2, .int p3] 3 (cX5_ofAccused_met (kl κ) F.2.2.2.1 (kG κ) _ h) hfy296 rfl (good_t gL_law_X5_ofAccused) rfl hdX5_ofAccused rfl rfl rfl (by rw [hR]; exact ⟨Nat.le_of_ble_eq_true rfl, Nat.le_of_ble_eq_true rfl⟩) (by rw [hR]; exact ⟨by show _ ≤ 601024; omega, by show _ ≤ 7293034; omega⟩) (Nat.le_of_ble_eq_true rfl) rfl dL_law_1884 (hk_i fun M297 x295 h => ?_)
  refine v_istore C (pc := 1887) (i := 6) (lv' := [some (va_rf (some b)), some (va_rf (some a1)), some (va_rf (some a2)), some (va_rf (some a3)), some (.int a4), some (.int x293), some (.int x295)]) dL_law_1887 rfl rfl ?_
  refine v_aload_n C (pc := 1889) (i := 2) dL_law_1889 rfl ?_
  obtain ⟨y299, hy299, h⟩ := h
  obtain ⟨fsy299, hfy299⟩ := hC_some hy299
  obtain ⟨x298, e298, h⟩ := h
  refine v_pV C (pc := 1890) (ci := 5) [] 0 (cX5_thrown_met (kl κ) (kG κ) _ e298) hfy299 rfl (good_t gL_law_X5_thrown) rfl hdX5_thrown rfl rfl rfl (by rw [hR]; exact ⟨Nat.le_of_ble_eq_true rfl, Nat.le_of_ble_eq_true rfl⟩) (by rw [hR]; exact ⟨by show _ ≤ 601024; omega, by show _ ≤ 7293034; omega⟩) (Nat.le_of_ble_eq_true rfl) rfl dL_law_1890 ?_
  refine v_iload C (pc := 1893) (i := 5) dL_law_1893 rfl ?_
  refine v_icmp_eq C (pc := 1895) (tgt := 1900) dL_law_1895 (by decide) (fun c300 => ?_) (fun c300 => ?_)
  · rw [if_pos c300] at h
    refine v_iload C (pc := 1900) (i := 5) dL_law_1900 rfl ?_
    refine v_if_ne C (pc := 1902) (tgt := 1917) dL_law_1902 (by decide) (fun c301 => ?_) (fun c301 => ?_)
    · rw [if_neg c301] at h
      refine v_goto C (pc := 1917) (tgt := 1976) dL_law_1917 (by decide) ?_
      refine v_mask (lv' := [some (va_rf (some b)), some (va_rf (some a1)), some (va_rf (some a2)), some (va_rf (some a3)), some (.int a4), none, none]) [true, true, true, true, true, false, false] rfl rfl ?_
      refine v_widen (k := cells + 20) (n := slots + 211) (by omega) (by omega) ?_
      exact hk1976 _ h
    · rw [if_pos c301] at h
      refine v_aload_n C (pc := 1905) (i := 3) dL_law_1905 rfl ?_
      refine v_iconst C (pc := 1906) (v := 0) dL_law_1906 (by decide) ?_
      obtain ⟨x302, e302, h⟩ := h
      refine v_lald C (pc := 1907) e302 dL_law_1907 ?_
      refine v_iload C (pc := 1908) (i := 6) dL_law_1908 rfl ?_
      refine v_i2l C (pc := 1910) dL_law_1910 ?_
      refine v_lcmp C (pc := 1911) dL_law_1911 ?_
      refine v_if_eq C (pc := 1912) (tgt := 1917) dL_law_1912 (by decide) (fun c303 => ?_) (fun c303 => ?_)
      · rw [if_pos c303] at h
        refine v_goto C (pc := 1917) (tgt := 1976) dL_law_1917 (by decide) ?_
        refine v_mask (lv' := [some (va_rf (some b)), some (va_rf (some a1)), some (va_rf (some a2)), some (va_rf (some a3)), some (.int a4), none, none]) [true, true, true, true, true, false, false] rfl rfl ?_
        refine v_widen (k := cells + 20) (n := slots + 211) (by omega) (by omega) ?_
        exact hk1976 _ h
      · rw [if_neg c303] at h
        refine v_iconst C (pc := 1915) (v := 0) dL_law_1915 (by decide) ?_
        exact h.elim
  · rw [if_neg c300] at h
    refine v_iconst C (pc := 1898) (v := 0) dL_law_1898 (by decide) ?_
    exact h.elim

def lw_25 (M : hM) (a1 a2 a3 : Nat) (p1 p2 p3 p4 p5 p6 : Int32) (k1976 : hM → Prop) : Prop :=
  wL_count M (some a1) p1 (some a3) (fun M305 x304 =>
  ∃ y307, hC M305 5 (some a2) = some y307 ∧
  wX5_count M305 a2 p1 (fun M308 x306 =>
  ∃ y310, hC M308 5 (some a2) = some y310 ∧
  ∃ x309, fX5_thrown M308 a2 = some x309 ∧
  if (x309 : Int32) = x304 then (
    if (x304 : Int32) = 0 then (
      ∃ x313, aJ M308 2 (some a3) 0 = some x313 ∧
      if ((lg_cmp x313 (Int32.toInt64 x306)) : Int32) = 0 then (
        k1976 M308
      ) else (
        False
      )
    ) else (
      k1976 M308
    )
  ) else (
    False
  )))
set_option maxRecDepth 100000 in
set_option maxHeartbeats 4000000 in
theorem tlw_25 {κ : hKx} {sz b L : Nat} {xs : Nat → Int32} (F : Cw κ RL code lw_tbl (fun _ => none) sz) (hR : kR κ = room_1) (hX : va_X b L xs (ks κ) (ks κ).heap) (hb : b < sz) {M : hM} {a1 a2 a3 : Nat} {a4 p1 p2 p3 p4 p5 p6 : Int32} {k1976 : hM → Prop} {cells slots : Nat} (hp1 : vp_in (a4 + 1) L ∧ xs (a4 + 1).toNatClampNeg = p1) (hp2 : vp_in (a4 + 2) L ∧ xs (a4 + 2).toNatClampNeg = p2) (hp3 : vp_in (a4 + 3) L ∧ xs (a4 + 3).toNatClampNeg = p3) (hp4 : vp_in (a4 + 4) L ∧ xs (a4 + 4).toNatClampNeg = p4) (hp5 : vp_in (a4 + 5) L ∧ xs (a4 + 5).toNatClampNeg = p5) (hp6 : vp_in (a4 + 6) L ∧ xs (a4 + 6).toNatClampNeg = p6) (hce : cells + 20 ≤ 601024) (hse : slots + 211 ≤ 7293034) (hk1976 : ∀ M, k1976 M → VW κ (cells + 20) (slots + 211) M 1976 [some (va_rf (some b)), some (va_rf (some a1)), some (va_rf (some a2)), some (va_rf (some a3)), some (.int a4), none, none] []) (h : lw_25 M a1 a2 a3 p1 p2 p3 p4 p5 p6 k1976) : VW κ cells slots M 1920 [some (va_rf (some b)), some (va_rf (some a1)), some (va_rf (some a2)), some (va_rf (some a3)), some (.int a4), none, none] [] := by
  unfold lw_25 at h
  have C := F.1
  refine v_aload_n C (pc := 1920) (i := 1) dL_law_1920 rfl ?_
  refine v_aload_n C (pc := 1921) (i := 0) dL_law_1921 rfl ?_
  refine v_iload C (pc := 1922) (i := 4) dL_law_1922 rfl ?_
  refine v_iconst C (pc := 1924) (v := 1) dL_law_1924 (by decide) ?_
  refine v_iadd C (pc := 1925) dL_law_1925 ?_
  refine v_sld F hX hb (pc := 1926) hp1 dL_law_1926 ?_
  refine v_aload_n C (pc := 1927) (i := 3) dL_law_1927 rfl ?_
  refine v_nS F (pc := 1928) [va_rf (some a1), .int p1, va_rf (some a3)] 3 (cL_count_met (kl κ) F.2.2.2.1 (kG κ) _ h) (good_t3 gL_law_L_count) rfl hdsL_count rfl rfl rfl (by rw [hR]; exact ⟨Nat.le_of_ble_eq_true rfl, Nat.le_of_ble_eq_true rfl⟩) (by rw [hR]; exact ⟨by show _ ≤ 601024; omega, by show _ ≤ 7293034; omega⟩) (Nat.le_of_ble_eq_true rfl) rfl dL_law_1928 (hk_i fun M305 x304 h => ?_)
  refine v_istore C (pc := 1931) (i := 5) (lv' := [some (va_rf (some b)), some (va_rf (some a1)), some (va_rf (some a2)), some (va_rf (some a3)), some (.int a4), some (.int x304), none]) dL_law_1931 rfl rfl ?_
  refine v_aload_n C (pc := 1933) (i := 2) dL_law_1933 rfl ?_
  refine v_aload_n C (pc := 1934) (i := 0) dL_law_1934 rfl ?_
  refine v_iload C (pc := 1935) (i := 4) dL_law_1935 rfl ?_
  refine v_iconst C (pc := 1937) (v := 1) dL_law_1937 (by decide) ?_
  refine v_iadd C (pc := 1938) dL_law_1938 ?_
  refine v_sld F hX hb (pc := 1939) hp1 dL_law_1939 ?_
  obtain ⟨y307, hy307, h⟩ := h
  obtain ⟨fsy307, hfy307⟩ := hC_some hy307
  refine v_nV F (pc := 1940) (ci := 5) [.int p1] 1 (cX5_count_met (kl κ) F.2.2.2.1 (kG κ) _ h) hfy307 rfl (good_t gL_law_X5_count) rfl hdX5_count rfl rfl rfl (by rw [hR]; exact ⟨Nat.le_of_ble_eq_true rfl, Nat.le_of_ble_eq_true rfl⟩) (by rw [hR]; exact ⟨by show _ ≤ 601024; omega, by show _ ≤ 7293034; omega⟩) (Nat.le_of_ble_eq_true rfl) rfl dL_law_1940 (hk_i fun M308 x306 h => ?_)
  refine v_istore C (pc := 1943) (i := 6) (lv' := [some (va_rf (some b)), some (va_rf (some a1)), some (va_rf (some a2)), some (va_rf (some a3)), some (.int a4), some (.int x304), some (.int x306)]) dL_law_1943 rfl rfl ?_
  refine v_aload_n C (pc := 1945) (i := 2) dL_law_1945 rfl ?_
  obtain ⟨y310, hy310, h⟩ := h
  obtain ⟨fsy310, hfy310⟩ := hC_some hy310
  obtain ⟨x309, e309, h⟩ := h
  refine v_pV C (pc := 1946) (ci := 5) [] 0 (cX5_thrown_met (kl κ) (kG κ) _ e309) hfy310 rfl (good_t gL_law_X5_thrown) rfl hdX5_thrown rfl rfl rfl (by rw [hR]; exact ⟨Nat.le_of_ble_eq_true rfl, Nat.le_of_ble_eq_true rfl⟩) (by rw [hR]; exact ⟨by show _ ≤ 601024; omega, by show _ ≤ 7293034; omega⟩) (Nat.le_of_ble_eq_true rfl) rfl dL_law_1946 ?_
  refine v_iload C (pc := 1949) (i := 5) dL_law_1949 rfl ?_
  refine v_icmp_eq C (pc := 1951) (tgt := 1956) dL_law_1951 (by decide) (fun c311 => ?_) (fun c311 => ?_)
  · rw [if_pos c311] at h
    refine v_iload C (pc := 1956) (i := 5) dL_law_1956 rfl ?_
    refine v_if_ne C (pc := 1958) (tgt := 1973) dL_law_1958 (by decide) (fun c312 => ?_) (fun c312 => ?_)
    · rw [if_neg c312] at h
      refine v_goto C (pc := 1973) (tgt := 1976) dL_law_1973 (by decide) ?_
      refine v_mask (lv' := [some (va_rf (some b)), some (va_rf (some a1)), some (va_rf (some a2)), some (va_rf (some a3)), some (.int a4), none, none]) [true, true, true, true, true, false, false] rfl rfl ?_
      refine v_widen (k := cells + 20) (n := slots + 211) (by omega) (by omega) ?_
      exact hk1976 _ h
    · rw [if_pos c312] at h
      refine v_aload_n C (pc := 1961) (i := 3) dL_law_1961 rfl ?_
      refine v_iconst C (pc := 1962) (v := 0) dL_law_1962 (by decide) ?_
      obtain ⟨x313, e313, h⟩ := h
      refine v_lald C (pc := 1963) e313 dL_law_1963 ?_
      refine v_iload C (pc := 1964) (i := 6) dL_law_1964 rfl ?_
      refine v_i2l C (pc := 1966) dL_law_1966 ?_
      refine v_lcmp C (pc := 1967) dL_law_1967 ?_
      refine v_if_eq C (pc := 1968) (tgt := 1973) dL_law_1968 (by decide) (fun c314 => ?_) (fun c314 => ?_)
      · rw [if_pos c314] at h
        refine v_goto C (pc := 1973) (tgt := 1976) dL_law_1973 (by decide) ?_
        refine v_mask (lv' := [some (va_rf (some b)), some (va_rf (some a1)), some (va_rf (some a2)), some (va_rf (some a3)), some (.int a4), none, none]) [true, true, true, true, true, false, false] rfl rfl ?_
        refine v_widen (k := cells + 20) (n := slots + 211) (by omega) (by omega) ?_
        exact hk1976 _ h
      · rw [if_neg c314] at h
        refine v_iconst C (pc := 1971) (v := 0) dL_law_1971 (by decide) ?_
        exact h.elim
  · rw [if_neg c311] at h
    refine v_iconst C (pc := 1954) (v := 0) dL_law_1954 (by decide) ?_
    exact h.elim

def lw_step (M : hM) (a1 a2 a3 : Nat) (p0 p1 p2 p3 p4 p5 p6 : Int32) (k1976 : hM → Prop) : Prop :=
  if ((p0 &&& 31) : Int32) = 0 then (
    lw_0 M a1 a2 a3 p1 p2 p3 p4 p5 p6 k1976
  ) else (
    if ((p0 &&& 31) : Int32) = 1 then (
      lw_1 M a1 a2 a3 p1 p2 p3 p4 p5 p6 k1976
    ) else (
      if ((p0 &&& 31) : Int32) = 2 then (
        lw_2 M a1 a2 a3 p1 p2 p3 p4 p5 p6 k1976
      ) else (
        if ((p0 &&& 31) : Int32) = 3 then (
          lw_3 M a1 a2 a3 p1 p2 p3 p4 p5 p6 k1976
        ) else (
          if ((p0 &&& 31) : Int32) = 4 then (
            lw_4 M a1 a2 a3 p1 p2 p3 p4 p5 p6 k1976
          ) else (
            if ((p0 &&& 31) : Int32) = 5 then (
              lw_5 M a1 a2 a3 p1 p2 p3 p4 p5 p6 k1976
            ) else (
              if ((p0 &&& 31) : Int32) = 6 then (
                lw_6 M a1 a2 a3 p1 p2 p3 p4 p5 p6 k1976
              ) else (
                if ((p0 &&& 31) : Int32) = 7 then (
                  lw_7 M a1 a2 a3 p1 p2 p3 p4 p5 p6 k1976
                ) else (
                  if ((p0 &&& 31) : Int32) = 8 then (
                    lw_8 M a1 a2 a3 p1 p2 p3 p4 p5 p6 k1976
                  ) else (
                    if ((p0 &&& 31) : Int32) = 9 then (
                      lw_9 M a1 a2 a3 p1 p2 p3 p4 p5 p6 k1976
                    ) else (
                      if ((p0 &&& 31) : Int32) = 10 then (
                        lw_10 M a1 a2 a3 p1 p2 p3 p4 p5 p6 k1976
                      ) else (
                        if ((p0 &&& 31) : Int32) = 11 then (
                          lw_11 M a1 a2 a3 p1 p2 p3 p4 p5 p6 k1976
                        ) else (
                          if ((p0 &&& 31) : Int32) = 12 then (
                            lw_12 M a1 a2 a3 p1 p2 p3 p4 p5 p6 k1976
                          ) else (
                            if ((p0 &&& 31) : Int32) = 13 then (
                              lw_13 M a1 a2 a3 p1 p2 p3 p4 p5 p6 k1976
                            ) else (
                              if ((p0 &&& 31) : Int32) = 14 then (
                                lw_14 M a1 a2 a3 p1 p2 p3 p4 p5 p6 k1976
                              ) else (
                                if ((p0 &&& 31) : Int32) = 15 then (
                                  lw_15 M a1 a2 a3 p1 p2 p3 p4 p5 p6 k1976
                                ) else (
                                  if ((p0 &&& 31) : Int32) = 16 then (
                                    lw_16 M a1 a2 a3 p1 p2 p3 p4 p5 p6 k1976
                                  ) else (
                                    if ((p0 &&& 31) : Int32) = 17 then (
                                      lw_17 M a1 a2 a3 p1 p2 p3 p4 p5 p6 k1976
                                    ) else (
                                      if ((p0 &&& 31) : Int32) = 18 then (
                                        lw_18 M a1 a2 a3 p1 p2 p3 p4 p5 p6 k1976
                                      ) else (
                                        if ((p0 &&& 31) : Int32) = 19 then (
                                          lw_19 M a1 a2 a3 p1 p2 p3 p4 p5 p6 k1976
                                        ) else (
                                          if ((p0 &&& 31) : Int32) = 20 then (
                                            lw_20 M a1 a2 a3 p1 p2 p3 p4 p5 p6 k1976
                                          ) else (
                                            if ((p0 &&& 31) : Int32) = 21 then (
                                              lw_21 M a1 a2 a3 p1 p2 p3 p4 p5 p6 k1976
                                            ) else (
                                              if ((p0 &&& 31) : Int32) = 22 then (
                                                lw_22 M a1 a2 a3 p1 p2 p3 p4 p5 p6 k1976
                                              ) else (
                                                if ((p0 &&& 31) : Int32) = 23 then (
                                                  lw_23 M a1 a2 a3 p1 p2 p3 p4 p5 p6 k1976
                                                ) else (
                                                  if ((p0 &&& 31) : Int32) = 24 then (
                                                    lw_24 M a1 a2 a3 p1 p2 p3 p4 p5 p6 k1976
                                                  ) else (
                                                    if ((p0 &&& 31) : Int32) = 25 then (
                                                      lw_25 M a1 a2 a3 p1 p2 p3 p4 p5 p6 k1976
                                                    ) else (
                                                        k1976 M
                                                    )
                                                  )
                                                )
                                              )
                                            )
                                          )
                                        )
                                      )
                                    )
                                  )
                                )
                              )
                            )
                          )
                        )
                      )
                    )
                  )
                )
              )
            )
          )
        )
      )
    )
  )
set_option maxRecDepth 100000 in
set_option maxHeartbeats 4000000 in
theorem tlw_step {κ : hKx} {sz b L : Nat} {xs : Nat → Int32} (F : Cw κ RL code lw_tbl (fun _ => none) sz) (hR : kR κ = room_1) (hX : va_X b L xs (ks κ) (ks κ).heap) (hb : b < sz) {M : hM} {a1 a2 a3 : Nat} {a4 p0 p1 p2 p3 p4 p5 p6 : Int32} {k1976 : hM → Prop} {cells slots : Nat} (hp0 : vp_in a4 L ∧ xs a4.toNatClampNeg = p0) (hp1 : vp_in (a4 + 1) L ∧ xs (a4 + 1).toNatClampNeg = p1) (hp2 : vp_in (a4 + 2) L ∧ xs (a4 + 2).toNatClampNeg = p2) (hp3 : vp_in (a4 + 3) L ∧ xs (a4 + 3).toNatClampNeg = p3) (hp4 : vp_in (a4 + 4) L ∧ xs (a4 + 4).toNatClampNeg = p4) (hp5 : vp_in (a4 + 5) L ∧ xs (a4 + 5).toNatClampNeg = p5) (hp6 : vp_in (a4 + 6) L ∧ xs (a4 + 6).toNatClampNeg = p6) (hce : cells + 20 ≤ 601024) (hse : slots + 211 ≤ 7293034) (hk1976 : ∀ M, k1976 M → VW κ (cells + 20) (slots + 211) M 1976 [some (va_rf (some b)), some (va_rf (some a1)), some (va_rf (some a2)), some (va_rf (some a3)), some (.int a4), none, none] []) (h : lw_step M a1 a2 a3 p0 p1 p2 p3 p4 p5 p6 k1976) : VW κ cells slots M 33 [some (va_rf (some b)), some (va_rf (some a1)), some (va_rf (some a2)), some (va_rf (some a3)), some (.int a4), none, none] [] := by
  unfold lw_step at h
  have C := F.1
  refine v_aload_n C (pc := 33) (i := 0) dL_law_33 rfl ?_
  refine v_iload C (pc := 34) (i := 4) dL_law_34 rfl ?_
  refine v_sld F hX hb (pc := 36) hp0 dL_law_36 ?_
  refine v_bipush C (pc := 37) (v := 31) dL_law_37 (by decide) ?_
  refine v_iand C (pc := 39) dL_law_39 ?_
  by_cases c315 : ((p0 &&& 31) : Int32) = 0
  · rw [if_pos c315] at h
    refine v_tabIn C (pc := 40) (tgt := 160) dL_law_40 c315 (by decide) (by decide) rfl (by decide) ?_
    exact tlw_0 F hR hX hb hp1 hp2 hp3 hp4 hp5 hp6 hce hse hk1976 h
  · rw [if_neg c315] at h
    by_cases c316 : ((p0 &&& 31) : Int32) = 1
    · rw [if_pos c316] at h
      refine v_tabIn C (pc := 40) (tgt := 240) dL_law_40 c316 (by decide) (by decide) rfl (by decide) ?_
      exact tlw_1 F hR hX hb hp1 hp2 hp3 hp4 hp5 hp6 hce hse hk1976 h
    · rw [if_neg c316] at h
      by_cases c317 : ((p0 &&& 31) : Int32) = 2
      · rw [if_pos c317] at h
        refine v_tabIn C (pc := 40) (tgt := 315) dL_law_40 c317 (by decide) (by decide) rfl (by decide) ?_
        exact tlw_2 F hR hX hb hp1 hp2 hp3 hp4 hp5 hp6 hce hse hk1976 h
      · rw [if_neg c317] at h
        by_cases c318 : ((p0 &&& 31) : Int32) = 3
        · rw [if_pos c318] at h
          refine v_tabIn C (pc := 40) (tgt := 371) dL_law_40 c318 (by decide) (by decide) rfl (by decide) ?_
          exact tlw_3 F hR hX hb hp1 hp2 hp3 hp4 hp5 hp6 hce hse hk1976 h
        · rw [if_neg c318] at h
          by_cases c319 : ((p0 &&& 31) : Int32) = 4
          · rw [if_pos c319] at h
            refine v_tabIn C (pc := 40) (tgt := 451) dL_law_40 c319 (by decide) (by decide) rfl (by decide) ?_
            exact tlw_4 F hR hX hb hp1 hp2 hp3 hp4 hp5 hp6 hce hse hk1976 h
          · rw [if_neg c319] at h
            by_cases c320 : ((p0 &&& 31) : Int32) = 5
            · rw [if_pos c320] at h
              refine v_tabIn C (pc := 40) (tgt := 585) dL_law_40 c320 (by decide) (by decide) rfl (by decide) ?_
              exact tlw_5 F hR hX hb hp1 hp2 hp3 hp4 hp5 hp6 hce hse hk1976 h
            · rw [if_neg c320] at h
              by_cases c321 : ((p0 &&& 31) : Int32) = 6
              · rw [if_pos c321] at h
                refine v_tabIn C (pc := 40) (tgt := 621) dL_law_40 c321 (by decide) (by decide) rfl (by decide) ?_
                exact tlw_6 F hR hX hb hp1 hp2 hp3 hp4 hp5 hp6 hce hse hk1976 h
              · rw [if_neg c321] at h
                by_cases c322 : ((p0 &&& 31) : Int32) = 7
                · rw [if_pos c322] at h
                  refine v_tabIn C (pc := 40) (tgt := 689) dL_law_40 c322 (by decide) (by decide) rfl (by decide) ?_
                  exact tlw_7 F hR hX hb hp1 hp2 hp3 hp4 hp5 hp6 hce hse hk1976 h
                · rw [if_neg c322] at h
                  by_cases c323 : ((p0 &&& 31) : Int32) = 8
                  · rw [if_pos c323] at h
                    refine v_tabIn C (pc := 40) (tgt := 725) dL_law_40 c323 (by decide) (by decide) rfl (by decide) ?_
                    exact tlw_8 F hR hX hb hp1 hp2 hp3 hp4 hp5 hp6 hce hse hk1976 h
                  · rw [if_neg c323] at h
                    by_cases c324 : ((p0 &&& 31) : Int32) = 9
                    · rw [if_pos c324] at h
                      refine v_tabIn C (pc := 40) (tgt := 805) dL_law_40 c324 (by decide) (by decide) rfl (by decide) ?_
                      exact tlw_9 F hR hX hb hp1 hp2 hp3 hp4 hp5 hp6 hce hse hk1976 h
                    · rw [if_neg c324] at h
                      by_cases c325 : ((p0 &&& 31) : Int32) = 10
                      · rw [if_pos c325] at h
                        refine v_tabIn C (pc := 40) (tgt := 853) dL_law_40 c325 (by decide) (by decide) rfl (by decide) ?_
                        exact tlw_10 F hR hX hb hp1 hp2 hp3 hp4 hp5 hp6 hce hse hk1976 h
                      · rw [if_neg c325] at h
                        by_cases c326 : ((p0 &&& 31) : Int32) = 11
                        · rw [if_pos c326] at h
                          refine v_tabIn C (pc := 40) (tgt := 928) dL_law_40 c326 (by decide) (by decide) rfl (by decide) ?_
                          exact tlw_11 F hR hX hb hp1 hp2 hp3 hp4 hp5 hp6 hce hse hk1976 h
                        · rw [if_neg c326] at h
                          by_cases c327 : ((p0 &&& 31) : Int32) = 12
                          · rw [if_pos c327] at h
                            refine v_tabIn C (pc := 40) (tgt := 996) dL_law_40 c327 (by decide) (by decide) rfl (by decide) ?_
                            exact tlw_12 F hR hX hb hp1 hp2 hp3 hp4 hp5 hp6 hce hse hk1976 h
                          · rw [if_neg c327] at h
                            by_cases c328 : ((p0 &&& 31) : Int32) = 13
                            · rw [if_pos c328] at h
                              refine v_tabIn C (pc := 40) (tgt := 1076) dL_law_40 c328 (by decide) (by decide) rfl (by decide) ?_
                              exact tlw_13 F hR hX hb hp1 hp2 hp3 hp4 hp5 hp6 hce hse hk1976 h
                            · rw [if_neg c328] at h
                              by_cases c329 : ((p0 &&& 31) : Int32) = 14
                              · rw [if_pos c329] at h
                                refine v_tabIn C (pc := 40) (tgt := 1144) dL_law_40 c329 (by decide) (by decide) rfl (by decide) ?_
                                exact tlw_14 F hR hX hb hp1 hp2 hp3 hp4 hp5 hp6 hce hse hk1976 h
                              · rw [if_neg c329] at h
                                by_cases c330 : ((p0 &&& 31) : Int32) = 15
                                · rw [if_pos c330] at h
                                  refine v_tabIn C (pc := 40) (tgt := 1224) dL_law_40 c330 (by decide) (by decide) rfl (by decide) ?_
                                  exact tlw_15 F hR hX hb hp1 hp2 hp3 hp4 hp5 hp6 hce hse hk1976 h
                                · rw [if_neg c330] at h
                                  by_cases c331 : ((p0 &&& 31) : Int32) = 16
                                  · rw [if_pos c331] at h
                                    refine v_tabIn C (pc := 40) (tgt := 1272) dL_law_40 c331 (by decide) (by decide) rfl (by decide) ?_
                                    exact tlw_16 F hR hX hb hp1 hp2 hp3 hp4 hp5 hp6 hce hse hk1976 h
                                  · rw [if_neg c331] at h
                                    by_cases c332 : ((p0 &&& 31) : Int32) = 17
                                    · rw [if_pos c332] at h
                                      refine v_tabIn C (pc := 40) (tgt := 1285) dL_law_40 c332 (by decide) (by decide) rfl (by decide) ?_
                                      exact tlw_17 F hR hX hb hp1 hp2 hp3 hp4 hp5 hp6 hce hse hk1976 h
                                    · rw [if_neg c332] at h
                                      by_cases c333 : ((p0 &&& 31) : Int32) = 18
                                      · rw [if_pos c333] at h
                                        refine v_tabIn C (pc := 40) (tgt := 1360) dL_law_40 c333 (by decide) (by decide) rfl (by decide) ?_
                                        exact tlw_18 F hR hX hb hp1 hp2 hp3 hp4 hp5 hp6 hce hse hk1976 h
                                      · rw [if_neg c333] at h
                                        by_cases c334 : ((p0 &&& 31) : Int32) = 19
                                        · rw [if_pos c334] at h
                                          refine v_tabIn C (pc := 40) (tgt := 1452) dL_law_40 c334 (by decide) (by decide) rfl (by decide) ?_
                                          exact tlw_19 F hR hX hb hp1 hp2 hp3 hp4 hp5 hp6 hce hse hk1976 h
                                        · rw [if_neg c334] at h
                                          by_cases c335 : ((p0 &&& 31) : Int32) = 20
                                          · rw [if_pos c335] at h
                                            refine v_tabIn C (pc := 40) (tgt := 1544) dL_law_40 c335 (by decide) (by decide) rfl (by decide) ?_
                                            exact tlw_20 F hR hX hb hp1 hp2 hp3 hp4 hp5 hp6 hce hse hk1976 h
                                          · rw [if_neg c335] at h
                                            by_cases c336 : ((p0 &&& 31) : Int32) = 21
                                            · rw [if_pos c336] at h
                                              refine v_tabIn C (pc := 40) (tgt := 1624) dL_law_40 c336 (by decide) (by decide) rfl (by decide) ?_
                                              exact tlw_21 F hR hX hb hp1 hp2 hp3 hp4 hp5 hp6 hce hse hk1976 h
                                            · rw [if_neg c336] at h
                                              by_cases c337 : ((p0 &&& 31) : Int32) = 22
                                              · rw [if_pos c337] at h
                                                refine v_tabIn C (pc := 40) (tgt := 1704) dL_law_40 c337 (by decide) (by decide) rfl (by decide) ?_
                                                exact tlw_22 F hR hX hb hp1 hp2 hp3 hp4 hp5 hp6 hce hse hk1976 h
                                              · rw [if_neg c337] at h
                                                by_cases c338 : ((p0 &&& 31) : Int32) = 23
                                                · rw [if_pos c338] at h
                                                  refine v_tabIn C (pc := 40) (tgt := 1772) dL_law_40 c338 (by decide) (by decide) rfl (by decide) ?_
                                                  exact tlw_23 F hR hX hb hp1 hp2 hp3 hp4 hp5 hp6 hce hse hk1976 h
                                                · rw [if_neg c338] at h
                                                  by_cases c339 : ((p0 &&& 31) : Int32) = 24
                                                  · rw [if_pos c339] at h
                                                    refine v_tabIn C (pc := 40) (tgt := 1840) dL_law_40 c339 (by decide) (by decide) rfl (by decide) ?_
                                                    exact tlw_24 F hR hX hb hp1 hp2 hp3 hp4 hp5 hp6 hce hse hk1976 h
                                                  · rw [if_neg c339] at h
                                                    by_cases c340 : ((p0 &&& 31) : Int32) = 25
                                                    · rw [if_pos c340] at h
                                                      refine v_tabIn C (pc := 40) (tgt := 1920) dL_law_40 c340 (by decide) (by decide) rfl (by decide) ?_
                                                      exact tlw_25 F hR hX hb hp1 hp2 hp3 hp4 hp5 hp6 hce hse hk1976 h
                                                    · rw [if_neg c340] at h
                                                      refine v_tabOut C (pc := 40) (n := 26) (tgt := 1976) dL_law_40 (fun k hk => ?_) rfl (by decide) (by decide) ?_
                                                      · rcases (show k = 0 ∨ k = 1 ∨ k = 2 ∨ k = 3 ∨ k = 4 ∨ k = 5 ∨ k = 6 ∨ k = 7 ∨ k = 8 ∨ k = 9 ∨ k = 10 ∨ k = 11 ∨ k = 12 ∨ k = 13 ∨ k = 14 ∨ k = 15 ∨ k = 16 ∨ k = 17 ∨ k = 18 ∨ k = 19 ∨ k = 20 ∨ k = 21 ∨ k = 22 ∨ k = 23 ∨ k = 24 ∨ k = 25 by omega) with rfl | rfl | rfl | rfl | rfl | rfl | rfl | rfl | rfl | rfl | rfl | rfl | rfl | rfl | rfl | rfl | rfl | rfl | rfl | rfl | rfl | rfl | rfl | rfl | rfl | rfl <;> assumption
                                                      · refine v_widen (k := cells + 20) (n := slots + 211) (by omega) (by omega) ?_
                                                        exact hk1976 _ h

