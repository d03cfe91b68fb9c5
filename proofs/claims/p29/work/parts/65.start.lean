/-! ===== the start of a run ===== -/
def cU (C : Nat → Nat → Option hE) (i j : Nat) (y : hE) : Nat → Nat → Option hE := fun i' j' => if i' = i ∧ j' = j then some y else C i' j'
theorem cU_eq (C : Nat → Nat → Option hE) (i j : Nat) (y : hE) : cU C i j y i j = some y := if_pos ⟨rfl, rfl⟩
theorem cU_off {C : Nat → Nat → Option hE} {i j i' j' : Nat} {y : hE} (h : ¬ (i' = i ∧ j' = j)) : cU C i j y i' j' = C i' j' := if_neg h
theorem RepC.newU {M : hM} {A : hAd} {C : Nat → Nat → Option hE} {q : Nat} (h : RepC M A C) (hq : M q = none) (i j : Nat) (y : hE) : RepC (hst M q y) (aU A i j q) (cU C i j y) := RepC.new h hq (cU_eq _ _ _ _) (fun _ _ e => cU_off e)
theorem RepC.putU {M : hM} {A : hAd} {C : Nat → Nat → Option hE} {i j : Nat} {x : hE} (h : RepC M A C) (hc : C i j = some x) (y : hE) : RepC (hst M (A i j) y) A (cU C i j y) := RepC.put h hc (cU_eq _ _ _ _) (fun _ _ e => cU_off e)
theorem ini1 {M : hM} {A : hAd} {C : Nat → Nat → Option hE} {io c : Nat} {fs : List Value} {o : Nat} (R : RepC M A (cU C io 0 (.inr (c, fs)))) (ho : A io 0 = o) (i j k : Nat) (arr : hE) (gs : Nat → List Value) (hg : ∀ q, fs.set k (.ref q) = gs q) (hne : io ≠ i) (hk : k < fs.length) (Q : hM → Prop) (kk : ∀ (q : Nat) (M' : hM), RepC M' (aU A i j q) (cU (cU C i j arr) io 0 (.inr (c, gs q))) → aU A i j q io 0 = o → Q M') : ∀ q : Nat, M q = none → ∃ M', pV (hst M q arr) c k (some o) (va_rf (some q)) = some M' ∧ Q M' := by
  intro q hq
  have R1 := R.newU hq i j arr
  have hA : aU A i j q io 0 = o := (aU_off (fun z => hne z.1)).trans ho
  have hc1 : cU (cU C io 0 (.inr (c, fs))) i j arr io 0 = some (.inr (c, fs)) := (cU_off (fun z => hne z.1)).trans (cU_eq _ _ _ _)
  have R2 := R1.putU hc1 (.inr (c, fs.set k (.ref q)))
  rw [hg q] at R2
  have e1 := R1.1 io 0 _ hc1
  rw [hA] at R2 e1
  refine ⟨_, (pV_at e1 hk).trans (by rw [va_rf, hg q]), kk q _ (R2.cong fun i' j' => ?_) hA⟩
  by_cases e : i' = io ∧ j' = 0
  · obtain ⟨rfl, rfl⟩ := e
    rw [cU_eq, cU_eq]
  · rw [cU_off e, cU_off e]
    by_cases e2 : i' = i ∧ j' = j
    · obtain ⟨rfl, rfl⟩ := e2
      rw [cU_eq, cU_eq]
    · rw [cU_off e2, cU_off e2, cU_off e]
def s00 : hσ := fun _ _ => 0
theorem n01 : ¬ (0 : Int32) = 1 := by decide
def sig0 : hσ := sU s00 120 0 1
theorem sig0_x (f i : Nat) (h : f ≠ 120) : sig0 f i = 0 := by
  unfold sig0
  rw [sU_ne h]
  rfl
theorem accS_0 (s : hσ) (t : Nat) : accS s 0 t = false := by
  unfold accS
  rw [decide_eq_false (Nat.not_lt_zero _), Bool.false_and]
theorem Inv_0 : Inv 0 0 0 sig0 := by
  refine ⟨⟨sig0_x 2 0 (by decide), by omega, sig0_x 7 0 (by decide), by omega, sig0_x 11 0 (by decide), by omega, 0, by omega, sig0_x 1 0 (by decide)⟩, ⟨fun k => ?_, fun k => ?_, fun k => ?_, fun k => ?_, fun k => ?_, fun k => ?_, fun k => ?_, fun t => ?_, fun t => ?_, fun f p => ?_, ?_⟩, ⟨fun k hk => absurd hk (Nat.not_lt_zero _), fun a b ha _ => absurd ha (Nat.not_lt_zero _), fun a b ha _ _ => absurd ha (Nat.not_lt_zero _)⟩, fun t ht => ⟨fun _ => ?_, fun ha => ?_⟩⟩
  · rw [sig0_x 110 k (by decide), bI_df (Nat.not_lt_zero _)]
  · rw [sig0_x 114 k (by decide), bI_df (Nat.not_lt_zero _)]
  · rw [sig0_x 111 k (by decide), bI_df (Nat.not_lt_zero _)]
  · rw [sig0_x 115 k (by decide), bI_df (Nat.not_lt_zero _)]
  · rw [sig0_x 118 k (by decide), bI_df (Nat.not_lt_zero _)]
  · rw [sig0_x 113 k (by decide), bI_df (Nat.not_lt_zero _)]
  · rw [sig0_x 116 k (by decide), bI_df (Nat.not_lt_zero _)]
  · rw [sig0_x 112 t (by decide), accS_0]
    rfl
  · rw [sig0_x 119 t (by decide), accS_0]
    rfl
  · rw [sig0_x (1000 + 2 * f) p (by omega), accS_0, Bool.and_false]
    rfl
  · unfold sig0
    exact sU_eq _ _ _ _
  · exact ⟨sig0_x 22 t (by decide), sig0_x 23 t (by decide), sig0_x 25 t (by decide), sig0_x 26 t (by decide), sig0_x 27 t (by decide), sig0_x 28 t (by decide), sig0_x 30 t (by decide), sig0_x 31 t (by decide), sig0_x 32 t (by decide), sig0_x 50 t (by decide), sig0_x 51 t (by decide)⟩
  · rw [accS_0] at ha
    cases ha
def tab4 (qa qb qc : Nat) : Nat → Nat → Option hE := cU (cU (cU (cU (fun _ _ => none) 1 0 (.inl (3, 8, .inr (.inr (.inr (.inr (fun _ => none))))))) 2 0 (.inl (4, 6, .inr (.inr (.inr (.inr (fun _ => none))))))) 3 0 (.inl (5, 40, .inr (.inr (.inr (.inr (fun _ => none))))))) 0 0 (.inr (4, [.ref qa, .ref qb, .ref qc, .int 0, .int 0, .int 0, .int 0, .int 0, .int 0, .int 0, .int 0, .int 0, .int 0]))
theorem ini_class {M : hM} {Q : Nat → hM → Prop} (k : ∀ (M' : hM) (A : hAd) (qa qb qc : Nat), RepC M' A (tab4 qa qb qc) → A 1 0 = qa → A 2 0 = qb → A 3 0 = qc → Q (A 0 0) M') : ∀ q : Nat, M q = none → wX4_init (hst M q (.inr (4, [.null, .null, .null, .int 0, .int 0, .int 0, .int 0, .int 0, .int 0, .int 0, .int 0, .int 0, .int 0]))) q (Q q) := by
  intro q hq
  have R0 : RepC M (fun _ _ => 0) (fun _ _ => none) := ⟨fun i j x h => (by cases h), fun i j i' j' n => absurd rfl n⟩
  have R1 := R0.newU (q := q) hq 0 0 (.inr (4, [.null, .null, .null, .int 0, .int 0, .int 0, .int 0, .int 0, .int 0, .int 0, .int 0, .int 0, .int 0]))
  unfold wX4_init
  refine ini1 R1 (aU_eq _ _ _ _) 1 0 0 _ (fun qa => [.ref qa, .null, .null, .int 0, .int 0, .int 0, .int 0, .int 0, .int 0, .int 0, .int 0, .int 0, .int 0]) (fun _ => rfl) (by decide) (by decide) _ (fun qa M1 R2 h2 => ?_)
  refine ini1 R2 h2 2 0 1 _ (fun qb => [.ref qa, .ref qb, .null, .int 0, .int 0, .int 0, .int 0, .int 0, .int 0, .int 0, .int 0, .int 0, .int 0]) (fun _ => rfl) (by decide) (by simp) _ (fun qb M2 R3 h3 => ?_)
  refine ini1 R3 h3 3 0 2 _ (fun qc => [.ref qa, .ref qb, .ref qc, .int 0, .int 0, .int 0, .int 0, .int 0, .int 0, .int 0, .int 0, .int 0, .int 0]) (fun _ => rfl) (by decide) (by simp) _ (fun qc M3 R4 h4 => ?_)
  have q := k M3 _ qa qb qc R4 ((aU_off (by decide)).trans ((aU_off (by decide)).trans (aU_eq _ _ _ _))) ((aU_off (by decide)).trans (aU_eq _ _ _ _)) (aU_eq _ _ _ _)
  rw [h4] at q
  exact q
def tabL (C : Nat → Nat → Option hE) : Nat → Nat → Option hE := cU (cU (cU (cU C 11 12 (.inl (0, 3, .inl (fun _ => 0)))) 11 13 (.inl (0, 6, .inl (fun _ => 0)))) 11 14 (.inl (0, 48, .inl (fun _ => 0)))) 11 15 (.inl (0, 6, .inl (fun _ => 0)))
set_option maxRecDepth 100000 in
set_option maxHeartbeats 2000000 in
theorem tab_ok {A : hAd} {qa qb qc : Nat} (h1 : A 1 0 = qa) (h2 : A 2 0 = qb) (h3 : A 3 0 = qc) : ∀ i j, cc A sig0 s00 i j = tabL (tab4 qa qb qc) i j := by
  subst h1 h2 h3
  intro i j
  have hn : ∀ f : Nat, f ≠ 11 → tabL (tab4 (A 1 0) (A 2 0) (A 3 0)) f j = tab4 (A 1 0) (A 2 0) (A 3 0) f j := fun f n1 => by
    unfold tabL
    simp only [cU, n1, false_and, ↓reduceIte]
  have z : ∀ f, f ≠ 120 → ¬ sig0 f j = 1 := fun f hf => by
    rw [sig0_x f j hf]
    exact n01
  match i with
  | 0 =>
    rw [hn 0 (by decide)]
    by_cases e : j = 0
    · subst e
      rw [cc0p]
      rfl
    · unfold tab4
      show (if j = 0 then some (c0 A sig0) else none) = _
      simp [cU, e]
  | 1 =>
    rw [hn 1 (by decide)]
    by_cases e : j = 0
    · subst e
      rw [cc1p]
      unfold c1
      rw [show (fun k => if sig0 114 k = 1 then some (A 4 k) else none) = fun _ => none from funext fun k => if_neg (by rw [sig0_x 114 k (by decide)]; exact n01)]
      rfl
    · unfold tab4
      show (if j = 0 then some (c1 A sig0) else none) = _
      simp [cU, e]
  | 2 =>
    rw [hn 2 (by decide)]
    by_cases e : j = 0
    · subst e
      rw [cc2p]
      unfold c2
      rw [show (fun k => if sig0 115 k = 1 then some (A 5 k) else none) = fun _ => none from funext fun k => if_neg (by rw [sig0_x 115 k (by decide)]; exact n01)]
      rfl
    · unfold tab4
      show (if j = 0 then some (c2 A sig0) else none) = _
      simp [cU, e]
  | 3 =>
    rw [hn 3 (by decide)]
    by_cases e : j = 0
    · subst e
      rw [cc3p]
      unfold c3
      rw [show (fun k => if sig0 116 k = 1 then some (A 9 k) else none) = fun _ => none from funext fun k => if_neg (by rw [sig0_x 116 k (by decide)]; exact n01)]
      rfl
    · unfold tab4
      show (if j = 0 then some (c3 A sig0) else none) = _
      simp [cU, e]
  | 4 =>
    rw [hn 4 (by decide), cc4n (z 110 (by decide))]
    rfl
  | 5 =>
    rw [hn 5 (by decide), cc5n (z 111 (by decide))]
    rfl
  | 6 =>
    rw [hn 6 (by decide), cc6n (z 118 (by decide))]
    rfl
  | 7 =>
    rw [hn 7 (by decide), cc7n (z 112 (by decide))]
    rfl
  | 8 =>
    rw [hn 8 (by decide), cc8n (z 119 (by decide))]
    rfl
  | 9 =>
    rw [hn 9 (by decide), cc9n (z 113 (by decide))]
    rfl
  | 10 =>
    rw [hn 10 (by decide)]
    rfl
  | 11 =>
    show (mA j).map (fun p => (.inl (p.1, p.2, .inl (s00 j)) : hE)) = _
    unfold mA
    split
    · rfl
    · rfl
    · rfl
    · rfl
    · clear hn z
      simp only [imp_false] at *
      unfold tabL tab4
      simp [cU, *]
  | n + 12 =>
    rw [hn (n + 12) (by omega)]
    show none = _
    unfold tab4
    simp [cU]
theorem start_t {M : hM} {K : Nat → Nat → Nat → Nat → Nat → hM → Prop} (h : ∀ (M' : hM) (t p f d e : Nat), INVL 0 M' t p f d e → K t p f d e M') : ∀ q3 : Nat, M q3 = none →
      wX4_init (hst M q3 (.inr (4, [.null, .null, .null, .int 0, .int 0, .int 0, .int 0, .int 0, .int 0, .int 0, .int 0, .int 0, .int 0]))) q3 (fun M5 =>
      ∀ q6 : Nat, M5 q6 = none →
      ∀ q7 : Nat, (hst M5 q6 (.inl (0, 3, .inl (fun _ => 0)))) q7 = none →
      ∀ q8 : Nat, (hst (hst M5 q6 (.inl (0, 3, .inl (fun _ => 0)))) q7 (.inl (0, 6, .inl (fun _ => 0)))) q8 = none →
      ∀ q9 : Nat, (hst (hst (hst M5 q6 (.inl (0, 3, .inl (fun _ => 0)))) q7 (.inl (0, 6, .inl (fun _ => 0)))) q8 (.inl (0, 48, .inl (fun _ => 0)))) q9 = none →
      K q3 q6 q7 q8 q9 (hst (hst (hst (hst M5 q6 (.inl (0, 3, .inl (fun _ => 0)))) q7 (.inl (0, 6, .inl (fun _ => 0)))) q8 (.inl (0, 48, .inl (fun _ => 0)))) q9 (.inl (0, 6, .inl (fun _ => 0))))) := by
  refine ini_class (Q := fun q3 M5 => ∀ q6 : Nat, M5 q6 = none →
      ∀ q7 : Nat, (hst M5 q6 (.inl (0, 3, .inl (fun _ => 0)))) q7 = none →
      ∀ q8 : Nat, (hst (hst M5 q6 (.inl (0, 3, .inl (fun _ => 0)))) q7 (.inl (0, 6, .inl (fun _ => 0)))) q8 = none →
      ∀ q9 : Nat, (hst (hst (hst M5 q6 (.inl (0, 3, .inl (fun _ => 0)))) q7 (.inl (0, 6, .inl (fun _ => 0)))) q8 (.inl (0, 48, .inl (fun _ => 0)))) q9 = none →
      K q3 q6 q7 q8 q9 (hst (hst (hst (hst M5 q6 (.inl (0, 3, .inl (fun _ => 0)))) q7 (.inl (0, 6, .inl (fun _ => 0)))) q8 (.inl (0, 48, .inl (fun _ => 0)))) q9 (.inl (0, 6, .inl (fun _ => 0))))) (fun M5 A qa qb qc R5 h1 h2 h3 => ?_)
  intro q6 hq6 q7 hq7 q8 hq8 q9 hq9
  have R9 := (((R5.newU hq6 11 12 _).newU hq7 11 13 _).newU hq8 11 14 _).newU hq9 11 15 (.inl (0, 6, .inl (fun _ => 0)))
  refine h _ _ _ _ _ _ ⟨aU (aU (aU (aU A 11 12 q6) 11 13 q7) 11 14 q8) 11 15 q9, sig0, s00, 0, 0, 0, ⟨?_, ?_, ?_, ?_, ?_⟩, RepC.cong R9 (tab_ok ?_ ?_ ?_), Inv_0, ⟨nI_0.symm, nI_0.symm, nI_0.symm, fun k hk => absurd hk (Nat.not_lt_zero _)⟩, fun k hk => ⟨(sig0_x 37 k (by decide)).symm, 0, by omega, (sig0_x 37 k (by decide)).trans nI_0.symm⟩, fun k hk => ⟨fun ha => ?_, fun _ => ⟨rfl, rfl, rfl, rfl⟩⟩⟩
  · exact (aU_off (by decide)).trans ((aU_off (by decide)).trans ((aU_off (by decide)).trans (aU_off (by decide))))
  · exact (aU_off (by decide)).trans ((aU_off (by decide)).trans ((aU_off (by decide)).trans (aU_eq _ _ _ _)))
  · exact (aU_off (by decide)).trans ((aU_off (by decide)).trans (aU_eq _ _ _ _))
  · exact (aU_off (by decide)).trans (aU_eq _ _ _ _)
  · exact aU_eq _ _ _ _
  · exact ((aU_off (by decide)).trans ((aU_off (by decide)).trans ((aU_off (by decide)).trans (aU_off (by decide))))).trans h1
  · exact ((aU_off (by decide)).trans ((aU_off (by decide)).trans ((aU_off (by decide)).trans (aU_off (by decide))))).trans h2
  · exact ((aU_off (by decide)).trans ((aU_off (by decide)).trans ((aU_off (by decide)).trans (aU_off (by decide))))).trans h3
  · rw [accS_0] at ha
    cases ha
/-! ===== the loops ===== -/
section LOOPS
variable {κ : hKx} {sz b L : Nat} {xs : Nat → Int32}
theorem loop_in (F : Cw κ RL code lw_tbl (fun _ => none) sz) (hR : kR κ = room_1) (hX : va_X b L xs (ks κ) (ks κ).heap) (hb : b < sz) {r : Nat} (hr : r < 3) {t p f d e : Nat} : ∀ (m n cells slots : Nat) (M : hM), n + m = 56 → INVL n M t p f d e → cells + 20 * m + 20 ≤ 600074 → slots + 211 * m + 211 ≤ 7301549 → (∀ M : hM, VW κ (cells + 20 * m) (slots + 211 * m) M 4 [some (va_rf (some b)), some (.int 1), some (.int (nI (r + 1))), none, none, none, none, none, none, none, none, none, none, none, none, none, none, none, none] []) → VW κ cells slots M 47 [some (va_rf (some b)), some (.int 1), some (.int (nI r)), some (va_rf (some t)), some (va_rf (some p)), some (va_rf (some f)), some (va_rf (some d)), some (va_rf (some e)), some (.int (nI n)), none, none, none, none, none, none, none, none, none, none] [] := by
  intro m
  induction m with
  | zero =>
    intro n cells slots M hn J hc hs hk
    have : n = 56 := by omega
    subst this
    refine tlw_c F hR hX hb (k4 := fun _ a1 a2 => a1 = 1 ∧ a2 = nI (r + 1)) (k47 := fun _ _ _ => False) (by omega) (by omega) (fun M' a1 a2 q => ?_) (fun _ _ _ q => q.elim) ?_
    · obtain ⟨rfl, rfl⟩ := q
      exact hk M'
    · unfold lw_c
      rw [if_pos (by decide)]
      exact ⟨rfl, nI_1 r⟩
  | succ m ih =>
    intro n cells slots M hn J hc hs hk
    refine tlw_c F hR hX hb (k4 := fun _ _ _ => False) (k47 := fun M' a1 a8 => a1 = 1 ∧ a8 = nI (n + 1) ∧ INVL (n + 1) M' t p f d e) (by omega) (by omega) (fun _ _ _ q => q.elim) (fun M' a1 a8 q => ?_) (st_c (by omega) hr J (fun M' J' => ⟨rfl, rfl, J'⟩))
    obtain ⟨rfl, rfl, J'⟩ := q
    refine ih (n + 1) (cells + 20) (slots + 211) M' (by omega) J' (by omega) (by omega) (fun M2 => ?_)
    rw [show cells + 20 + 20 * m = cells + 20 * (m + 1) by omega, show slots + 211 + 211 * m = slots + 211 * (m + 1) by omega]
    exact hk M2
set_option maxRecDepth 100000 in
theorem loop_out (F : Cw κ RL code lw_tbl (fun _ => none) sz) (hR : kR κ = room_1) (hX : va_X b L xs (ks κ) (ks κ).heap) (hb : b < sz) (hend : ∀ (cells slots : Nat) (M : hM) (lv : List (Option Value)), cells ≤ 600074 → slots ≤ 7301549 → VW κ cells slots M 346 lv [.int 1]) : ∀ (m r cells slots : Nat) (M : hM), r + m = 3 → cells + 1128 * m + 40 ≤ 600074 → slots + 11946 * m + 500 ≤ 7301549 → VW κ cells slots M 4 [some (va_rf (some b)), some (.int 1), some (.int (nI r)), none, none, none, none, none, none, none, none, none, none, none, none, none, none, none, none] [] := by
  intro m
  induction m with
  | zero =>
    intro r cells slots M hr hc hs
    have : r = 3 := by omega
    subst this
    refine tlw_b F hR hX hb (k47 := fun _ _ _ _ _ _ _ _ _ => False) (k345 := fun _ a1 => a1 = 1) (by omega) (by omega) (fun _ _ _ _ _ _ _ _ _ q => q.elim) (fun M' a1 q => ?_) ?_
    · subst q
      exact v_iload_n F.1 (pc := 345) (i := 1) dL_law_345 rfl (hend _ _ _ _ (by omega) (by omega))
    · unfold lw_b
      rw [if_pos (by decide)]
  | succ m ih =>
    intro r cells slots M hr hc hs
    refine tlw_b F hR hX hb (k47 := fun M' a1 a2 t p f d e a8 => a1 = 1 ∧ a2 = nI r ∧ a8 = nI 0 ∧ INVL 0 M' t p f d e) (k345 := fun _ _ => False) (by omega) (by omega) (fun M' a1 a2 t p f d e a8 q => ?_) (fun _ _ q => q.elim) ?_
    · obtain ⟨rfl, rfl, rfl, J⟩ := q
      obtain ⟨w, hw⟩ : ∃ w : Nat, w = 56 := ⟨_, rfl⟩
      refine loop_in F hR hX hb (by omega) w 0 (cells + 8) (slots + 130) M' (by omega) J (by omega) (by omega) (fun M2 => ?_)
      exact ih (r + 1) _ _ M2 (by omega) (by omega) (by omega)
    · unfold lw_b
      rw [if_neg (fun z => by have := (nI_leI (a := 3) (by decide) (by omega)).mp z; omega), if_neg (by decide)]
      exact start_t (K := fun t p f d e M' => (1 : Int32) = 1 ∧ nI r = nI r ∧ (0 : Int32) = nI 0 ∧ INVL 0 M' t p f d e) (fun M' t p f d e J => ⟨rfl, rfl, nI_0.symm, J⟩)
theorem law_all (F : Cw κ RL code lw_tbl (fun _ => none) sz) (hR : kR κ = room_1) (hX : va_X b L xs (ks κ) (ks κ).heap) (hb : b < sz) (hend : ∀ (cells slots : Nat) (M : hM) (lv : List (Option Value)), cells ≤ 600074 → slots ≤ 7301549 → VW κ cells slots M 346 lv [.int 1]) (M : hM) : VW κ 0 0 M 0 [some (va_rf (some b)), none, none, none, none, none, none, none, none, none, none, none, none, none, none, none, none, none, none] [] := by
  refine tlw_a F hR hX hb (k4 := fun _ a1 a2 => a1 = 1 ∧ a2 = nI 0) (by omega) (by omega) (fun M' a1 a2 q => ?_) ⟨rfl, nI_0.symm⟩
  obtain ⟨rfl, rfl⟩ := q
  exact loop_out F hR hX hb hend 3 0 0 0 M' (by omega) (by omega) (by omega)
end LOOPS
