/-! ===== the start ===== -/
def cU (C : Nat → Nat → Option hE) (i j : Nat) (y : hE) : Nat → Nat → Option hE := fun i' j' => if i' = i ∧ j' = j then some y else C i' j'
theorem cU_eq (C : Nat → Nat → Option hE) (i j : Nat) (y : hE) : cU C i j y i j = some y := if_pos ⟨rfl, rfl⟩
theorem cU_off {C : Nat → Nat → Option hE} {i j i' j' : Nat} {y : hE} (h : ¬ (i' = i ∧ j' = j)) : cU C i j y i' j' = C i' j' := if_neg h
theorem RepC.newU {M : hM} {A : hAd} {C : Nat → Nat → Option hE} {q : Nat} (h : RepC M A C) (hq : M q = none) (i j : Nat) (y : hE) : RepC (hst M q y) (aU A i j q) (cU C i j y) := RepC.new h hq (cU_eq _ _ _ _) (fun _ _ e => cU_off e)
theorem RepC.putU {M : hM} {A : hAd} {C : Nat → Nat → Option hE} {i j : Nat} {x : hE} (h : RepC M A C) (hc : C i j = some x) (y : hE) : RepC (hst M (A i j) y) A (cU C i j y) := RepC.put h hc (cU_eq _ _ _ _) (fun _ _ e => cU_off e)
theorem ini1 {M : hM} {A : hAd} {C : Nat → Nat → Option hE} {io c : Nat} {fs : List Value} {o : Nat} (R : RepC M A (cU C io 0 (.inr (c, fs)))) (ho : A io 0 = o) (i j k : Nat) (arr : hE) (gs : Nat → List Value) (hg : ∀ q, fs.set k (.ref q) = gs q) (hne : io ≠ i) (hk : k < fs.length) (Q : hM → Prop) (kk : ∀ (q : Nat) (M' : hM), RepC M' (aU A i j q) (cU (cU C i j arr) io 0 (.inr (c, gs q))) → aU A i j q io 0 = o → Q M') : ∀ q : Nat, M q = none → ∃ M', pV (hst M q arr) c k (some o) (va_rf (some q)) = some M' ∧ Q M' := by
  intro q hq
  have R1 := R.newU hq i j arr
  have hA : aU A i j q io 0 = o := (aU_off (fun z => hne z.1)).trans ho
  have hc1 : cU (cU C io 0 (.inr (c, fs))) i j arr io 0 = some (.inr (c, fs)) := (cU_off (fun z => hne z.1)).trans (cU_eq _ _ _ _)
  have R2 := R1.putU hc1 (.inr (c, fs.set k (.ref q)))
  rw [hg q] at R2
  have e1 := R1.1 io 0 _ hc1
  rw [hA] at R2 e1
  refine ⟨_, (pV_at e1 hk).trans (by rw [va_rf, hg q]), kk q _ (R2.cong fun i' j' => ?_) hA⟩
  by_cases e : i' = io ∧ j' = 0
  · obtain ⟨rfl, rfl⟩ := e
    rw [cU_eq, cU_eq]
  · rw [cU_off e, cU_off e]
    by_cases e2 : i' = i ∧ j' = j
    · obtain ⟨rfl, rfl⟩ := e2
      rw [cU_eq, cU_eq]
    · rw [cU_off e2, cU_off e2, cU_off e]
theorem li_ceil {A : hAd} {s τ0 : hσ} {w : Nat → Int64} {Q : hM → Prop} (kq : ∀ M' : hM, Rep M' A s (sV τ0 29 (fun i => if i < 48 then 4 else 0)) w → Q M') : ∀ n k (M : hM), Rep M A s (sV τ0 29 (fun i => if i < k then 4 else 0)) w → k ≤ 48 → 48 - k < n → lX5_init_265 (A 10 0) Q n M (nI k) := by
  intro n
  induction n with
  | zero =>
    intro k M R h1 h2
    omega
  | succ n ih =>
    intro k M R h1 h2
    rw [lX5_init_265]
    by_cases e0 : k < 48
    · have e1 : ¬ 48 ≤ k := by omega
      rw [if_neg (by rw [l48 (by omega)]; exact e1)]
      obtain ⟨M1, e, R1⟩ := wrA R (f := 29) (n := 48) (k := k) rfl e0 (by decide) 4
      simp only [↓rd5e R, ↓(fun (g : hM → Prop) => oex e g), nI_1]
      refine ih (k + 1) M1 ?_ (by omega) (by omega)
      have hs : sU (sV τ0 29 (fun i => if i < k then 4 else 0)) 29 k 4 = sV τ0 29 (fun i => if i < k + 1 then 4 else 0) := by
        funext f i
        by_cases c : f = 29
        · subst c
          rw [sV_eq]
          by_cases c2 : i = k
          · subst c2
            rw [sU_eq, if_pos (by omega)]
          · rw [sU_nj c2, sV_eq]
            by_cases c3 : i < k
            · rw [if_pos c3, if_pos (by omega)]
            · rw [if_neg c3, if_neg (by omega)]
        · rw [sU_ne c, sV_ne c, sV_ne c]
      rw [← hs]
      exact R1
    · have e1 : k = 48 := by omega
      subst e1
      rw [if_pos (by decide)]
      exact kq M R
def s00 : hσ := fun _ _ => 0
def w00 : Nat → Int64 := fun _ => 0
theorem n01 : ¬ (0 : Int32) = 1 := by decide
def sig0 : hσ := sU (sV s00 29 (fun i => if i < 48 then 4 else 0)) 120 0 1
theorem sig0_x (f i : Nat) (h : f ≠ 29 ∧ f ≠ 120) : sig0 f i = 0 := by
  unfold sig0
  rw [sU_ne h.2, sV_ne h.1]
  rfl
theorem accS_0 (s : hσ) (t : Nat) : accS s 0 t = false := by
  unfold accS
  rw [decide_eq_false (Nat.not_lt_zero _), Bool.false_and]
theorem Inv_0 : Inv 0 0 0 0 sig0 := by
  refine ⟨⟨sig0_x 2 0 (by decide), by omega, sig0_x 7 0 (by decide), by omega, sig0_x 11 0 (by decide), by omega, sig0_x 33 0 (by decide), by omega, 0, by omega, sig0_x 1 0 (by decide)⟩, ⟨fun k => ?_, fun k => ?_, fun k => ?_, fun k => ?_, fun k => ?_, fun k => ?_, fun k => ?_, fun t => ?_, fun t => ?_, fun f p => ?_, ?_⟩, ⟨fun k hk => ?_, fun a b ha hb' => ?_, fun k hk => sig0_x 6 k (by decide)⟩, fun k hk => ⟨sig0_x 20 k (by decide), sig0_x 21 k (by decide)⟩, fun f hf => absurd hf (Nat.not_lt_zero _), fun t ht => ⟨fun _ => ?_, ?_⟩, ⟨fun t ht ha => ?_, fun k hk => absurd hk (Nat.not_lt_zero _), fun k hk => absurd hk (Nat.not_lt_zero _), fun k hk => absurd hk (Nat.not_lt_zero _)⟩⟩
  · rw [sig0_x 110 k (by decide), bI_df (Nat.not_lt_zero _)]
  · rw [sig0_x 114 k (by decide), bI_df (Nat.not_lt_zero _)]
  · rw [sig0_x 111 k (by decide), bI_df (Nat.not_lt_zero _)]
  · rw [sig0_x 115 k (by decide), bI_df (Nat.not_lt_zero _)]
  · rw [sig0_x 118 k (by decide), bI_df (Nat.not_lt_zero _)]
  · rw [sig0_x 113 k (by decide), bI_df (Nat.not_lt_zero _)]
  · rw [sig0_x 116 k (by decide), bI_df (Nat.not_lt_zero _)]
  · rw [sig0_x 112 t (by decide), accS_0]
    rfl
  · rw [sig0_x 119 t (by decide), accS_0]
    rfl
  · rw [sig0_x (1000 + 2 * f) p (by omega), accS_0, Bool.and_false]
    rfl
  · unfold sig0
    exact sU_eq _ _ _ _
  · exact absurd hk (Nat.not_lt_zero _)
  · rw [sig0_x 6 a (by decide), sig0_x 6 b (by decide), hb_bt _ (by omega), hb_bt _ (by omega), b_0, b_0]
  · exact ⟨sig0_x 22 t (by decide), sig0_x 23 t (by decide), sig0_x 25 t (by decide), sig0_x 26 t (by decide), sig0_x 27 t (by decide), sig0_x 28 t (by decide), sig0_x 30 t (by decide), sig0_x 31 t (by decide), sig0_x 32 t (by decide), sig0_x 50 t (by decide), sig0_x 51 t (by decide)⟩
  · refine oneT_of (a22 := 0) (a23 := 0) (a24 := 0) (a26 := 0) (a27 := 0) (a28 := 0) (a29 := 4) (a30 := 0) (a50 := 0) (a51 := 0) (sig0_x 22 t (by decide)) (sig0_x 23 t (by decide)) (sig0_x 24 t (by decide)) (sig0_x 26 t (by decide)) (sig0_x 27 t (by decide)) (sig0_x 28 t (by decide)) ?_ (sig0_x 30 t (by decide)) (sig0_x 50 t (by decide)) (sig0_x 51 t (by decide)) ⟨Or.inl rfl, fun _ => ⟨rfl, rfl⟩, fun _ => rfl, fun _ => rfl, ⟨0, by decide, nI_0.symm⟩, ⟨0, Or.inl rfl, nI_0.symm⟩, by decide, ⟨0, 0, by omega, by omega, nI_0.symm, nI_0.symm⟩, Or.inl rfl, fun z => absurd z (by decide)⟩
    unfold sig0
    rw [sU_ne (by decide), sV_eq, if_pos ht]
  · rw [accS_0] at ha
    cases ha
def tab4 (qa qb qc : Nat) : Nat → Nat → Option hE := cU (cU (cU (cU (fun _ _ => none) 1 0 (.inl (3, 8, .inr (.inr (.inr (.inr (fun _ => none))))))) 2 0 (.inl (4, 6, .inr (.inr (.inr (.inr (fun _ => none))))))) 3 0 (.inl (5, 40, .inr (.inr (.inr (.inr (fun _ => none))))))) 0 0 (.inr (4, [.ref qa, .ref qb, .ref qc, .int 0, .int 0, .int 0, .int 0, .int 0, .int 0, .int 0, .int 0, .int 0, .int 0]))
theorem ini_class {M : hM} (hM0 : M = fun _ => none) {Q : Nat → hM → Prop} (k : ∀ (M' : hM) (A : hAd) (qa qb qc : Nat), RepC M' A (tab4 qa qb qc) → A 1 0 = qa → A 2 0 = qb → A 3 0 = qc → Q (A 0 0) M') : ∀ q : Nat, M q = none → wX4_init (hst M q (.inr (4, [.null, .null, .null, .int 0, .int 0, .int 0, .int 0, .int 0, .int 0, .int 0, .int 0, .int 0, .int 0]))) q (Q q) := by
  subst hM0
  intro q hq
  have R0 : RepC (fun _ => none) (fun _ _ => 0) (fun _ _ => none) := ⟨fun i j x h => (by cases h), fun i j i' j' n => absurd rfl n⟩
  have R1 := R0.newU (q := q) hq 0 0 (.inr (4, [.null, .null, .null, .int 0, .int 0, .int 0, .int 0, .int 0, .int 0, .int 0, .int 0, .int 0, .int 0]))
  unfold wX4_init
  refine ini1 R1 (aU_eq _ _ _ _) 1 0 0 _ (fun qa => [.ref qa, .null, .null, .int 0, .int 0, .int 0, .int 0, .int 0, .int 0, .int 0, .int 0, .int 0, .int 0]) (fun _ => rfl) (by decide) (by decide) _ (fun qa M1 R2 h2 => ?_)
  refine ini1 R2 h2 2 0 1 _ (fun qb => [.ref qa, .ref qb, .null, .int 0, .int 0, .int 0, .int 0, .int 0, .int 0, .int 0, .int 0, .int 0, .int 0]) (fun _ => rfl) (by decide) (by simp) _ (fun qb M2 R3 h3 => ?_)
  refine ini1 R3 h3 3 0 2 _ (fun qc => [.ref qa, .ref qb, .ref qc, .int 0, .int 0, .int 0, .int 0, .int 0, .int 0, .int 0, .int 0, .int 0, .int 0]) (fun _ => rfl) (by decide) (by simp) _ (fun qc M3 R4 h4 => ?_)
  have q := k M3 _ qa qb qc R4 ((aU_off (by decide)).trans ((aU_off (by decide)).trans (aU_eq _ _ _ _))) ((aU_off (by decide)).trans (aU_eq _ _ _ _)) (aU_eq _ _ _ _)
  rw [h4] at q
  exact q
def tab5 (C : Nat → Nat → Option hE) (q : Nat → Nat) : Nat → Nat → Option hE := cU (cU (cU (cU (cU (cU (cU (cU (cU (cU (cU (cU (cU (cU (cU (cU (cU (cU (cU (cU (cU (cU (cU (cU (cU (cU (cU (cU (cU (cU (cU (cU (cU C 11 3 (.inl (0, 8, .inl (fun _ => 0)))) 11 4 (.inl (0, 8, .inl (fun _ => 0)))) 11 5 (.inl (0, 8, .inl (fun _ => 0)))) 11 6 (.inl (0, 8, .inl (fun _ => 0)))) 11 8 (.inl (0, 6, .inl (fun _ => 0)))) 11 9 (.inl (0, 6, .inl (fun _ => 0)))) 11 10 (.inl (0, 6, .inl (fun _ => 0)))) 11 12 (.inl (0, 40, .inl (fun _ => 0)))) 11 13 (.inl (0, 40, .inl (fun _ => 0)))) 11 14 (.inl (0, 40, .inl (fun _ => 0)))) 11 15 (.inl (0, 40, .inl (fun _ => 0)))) 11 16 (.inl (0, 40, .inl (fun _ => 0)))) 11 17 (.inl (1, 40, .inl (fun _ => 0)))) 11 18 (.inl (0, 40, .inl (fun _ => 0)))) 11 19 (.inl (0, 40, .inl (fun _ => 0)))) 11 20 (.inl (0, 40, .inl (fun _ => 0)))) 11 21 (.inl (1, 40, .inl (fun _ => 0)))) 11 22 (.inl (0, 48, .inl (fun _ => 0)))) 11 23 (.inl (0, 48, .inl (fun _ => 0)))) 11 24 (.inl (0, 48, .inl (fun _ => 0)))) 11 25 (.inl (1, 48, .inl (fun _ => 0)))) 11 26 (.inl (1, 48, .inl (fun _ => 0)))) 11 27 (.inl (0, 48, .inl (fun _ => 0)))) 11 28 (.inl (0, 48, .inl (fun _ => 0)))) 11 29 (.inl (0, 48, .inl (fun _ => 0)))) 11 30 (.inl (0, 48, .inl (fun _ => 0)))) 11 31 (.inl (0, 48, .inl (fun _ => 0)))) 11 32 (.inl (0, 48, .inl (fun _ => 0)))) 11 34 (.inl (0, 600, .inl (fun _ => 0)))) 11 35 (.inl (0, 600, .inl (fun _ => 0)))) 11 36 (.inl (0, 600, .inl (fun _ => 0)))) 11 37 (.inl (0, 6, .inl (fun _ => 0)))) 10 0 (.inr (5, [.int 0, .int 0, .int 0, .ref (q 3), .ref (q 4), .ref (q 5), .ref (q 6), .int 0, .ref (q 8), .ref (q 9), .ref (q 10), .int 0, .ref (q 12), .ref (q 13), .ref (q 14), .ref (q 15), .ref (q 16), .ref (q 17), .ref (q 18), .ref (q 19), .ref (q 20), .ref (q 21), .ref (q 22), .ref (q 23), .ref (q 24), .ref (q 25), .ref (q 26), .ref (q 27), .ref (q 28), .ref (q 29), .ref (q 30), .ref (q 31), .ref (q 32), .int 0, .ref (q 34), .ref (q 35), .ref (q 36), .ref (q 37)]))
set_option maxRecDepth 100000 in
set_option maxHeartbeats 2000000 in
theorem ini_model {M : hM} {A0 : hAd} {C : Nat → Nat → Option hE} (R0 : RepC M A0 C) {Q : Nat → hM → Prop} (k : ∀ (M' : hM) (A : hAd) (q : Nat → Nat), RepC M' A (tab5 C q) → (∀ f, mA f ≠ none → A 11 f = q f) → (∀ i j, i ≠ 10 → i ≠ 11 → A i j = A0 i j) → lX5_init_265 (A 10 0) (Q (A 10 0)) 1000 M' 0) : ∀ q : Nat, M q = none → wX5_init (hst M q (.inr (5, [.int 0, .int 0, .int 0, .null, .null, .null, .null, .int 0, .null, .null, .null, .int 0, .null, .null, .null, .null, .null, .null, .null, .null, .null, .null, .null, .null, .null, .null, .null, .null, .null, .null, .null, .null, .null, .int 0, .null, .null, .null, .null]))) q (Q q) := by
  intro q hq
  have R1 := R0.newU hq 10 0 (.inr (5, [.int 0, .int 0, .int 0, .null, .null, .null, .null, .int 0, .null, .null, .null, .int 0, .null, .null, .null, .null, .null, .null, .null, .null, .null, .null, .null, .null, .null, .null, .null, .null, .null, .null, .null, .null, .null, .int 0, .null, .null, .null, .null]))
  have h1 : aU A0 10 0 q 10 0 = q := aU_eq _ _ _ _
  unfold wX5_init
  refine ini1 R1 h1 11 3 3 _ (fun q3 => [.int 0, .int 0, .int 0, .ref q3, .null, .null, .null, .int 0, .null, .null, .null, .int 0, .null, .null, .null, .null, .null, .null, .null, .null, .null, .null, .null, .null, .null, .null, .null, .null, .null, .null, .null, .null, .null, .int 0, .null, .null, .null, .null]) (fun _ => rfl) (by decide) (by simp) _ (fun q3 M2 R2 h2 => ?_)
  refine ini1 R2 h2 11 4 4 _ (fun q4 => [.int 0, .int 0, .int 0, .ref q3, .ref q4, .null, .null, .int 0, .null, .null, .null, .int 0, .null, .null, .null, .null, .null, .null, .null, .null, .null, .null, .null, .null, .null, .null, .null, .null, .null, .null, .null, .null, .null, .int 0, .null, .null, .null, .null]) (fun _ => rfl) (by decide) (by simp) _ (fun q4 M3 R3 h3 => ?_)
  refine ini1 R3 h3 11 5 5 _ (fun q5 => [.int 0, .int 0, .int 0, .ref q3, .ref q4, .ref q5, .null, .int 0, .null, .null, .null, .int 0, .null, .null, .null, .null, .null, .null, .null, .null, .null, .null, .null, .null, .null, .null, .null, .null, .null, .null, .null, .null, .null, .int 0, .null, .null, .null, .null]) (fun _ => rfl) (by decide) (by simp) _ (fun q5 M4 R4 h4 => ?_)
  refine ini1 R4 h4 11 6 6 _ (fun q6 => [.int 0, .int 0, .int 0, .ref q3, .ref q4, .ref q5, .ref q6, .int 0, .null, .null, .null, .int 0, .null, .null, .null, .null, .null, .null, .null, .null, .null, .null, .null, .null, .null, .null, .null, .null, .null, .null, .null, .null, .null, .int 0, .null, .null, .null, .null]) (fun _ => rfl) (by decide) (by simp) _ (fun q6 M5 R5 h5 => ?_)
  refine ini1 R5 h5 11 8 8 _ (fun q8 => [.int 0, .int 0, .int 0, .ref q3, .ref q4, .ref q5, .ref q6, .int 0, .ref q8, .null, .null, .int 0, .null, .null, .null, .null, .null, .null, .null, .null, .null, .null, .null, .null, .null, .null, .null, .null, .null, .null, .null, .null, .null, .int 0, .null, .null, .null, .null]) (fun _ => rfl) (by decide) (by simp) _ (fun q8 M6 R6 h6 => ?_)
  refine ini1 R6 h6 11 9 9 _ (fun q9 => [.int 0, .int 0, .int 0, .ref q3, .ref q4, .ref q5, .ref q6, .int 0, .ref q8, .ref q9, .null, .int 0, .null, .null, .null, .null, .null, .null, .null, .null, .null, .null, .null, .null, .null, .null, .null, .null, .null, .null, .null, .null, .null, .int 0, .null, .null, .null, .null]) (fun _ => rfl) (by decide) (by simp) _ (fun q9 M7 R7 h7 => ?_)
  refine ini1 R7 h7 11 10 10 _ (fun q10 => [.int 0, .int 0, .int 0, .ref q3, .ref q4, .ref q5, .ref q6, .int 0, .ref q8, .ref q9, .ref q10, .int 0, .null, .null, .null, .null, .null, .null, .null, .null, .null, .null, .null, .null, .null, .null, .null, .null, .null, .null, .null, .null, .null, .int 0, .null, .null, .null, .null]) (fun _ => rfl) (by decide) (by simp) _ (fun q10 M8 R8 h8 => ?_)
  refine ini1 R8 h8 11 12 12 _ (fun q12 => [.int 0, .int 0, .int 0, .ref q3, .ref q4, .ref q5, .ref q6, .int 0, .ref q8, .ref q9, .ref q10, .int 0, .ref q12, .null, .null, .null, .null, .null, .null, .null, .null, .null, .null, .null, .null, .null, .null, .null, .null, .null, .null, .null, .null, .int 0, .null, .null, .null, .null]) (fun _ => rfl) (by decide) (by simp) _ (fun q12 M9 R9 h9 => ?_)
  refine ini1 R9 h9 11 13 13 _ (fun q13 => [.int 0, .int 0, .int 0, .ref q3, .ref q4, .ref q5, .ref q6, .int 0, .ref q8, .ref q9, .ref q10, .int 0, .ref q12, .ref q13, .null, .null, .null, .null, .null, .null, .null, .null, .null, .null, .null, .null, .null, .null, .null, .null, .null, .null, .null, .int 0, .null, .null, .null, .null]) (fun _ => rfl) (by decide) (by simp) _ (fun q13 M10 R10 h10 => ?_)
  refine ini1 R10 h10 11 14 14 _ (fun q14 => [.int 0, .int 0, .int 0, .ref q3, .ref q4, .ref q5, .ref q6, .int 0, .ref q8, .ref q9, .ref q10, .int 0, .ref q12, .ref q13, .ref q14, .null, .null, .null, .null, .null, .null, .null, .null, .null, .null, .null, .null, .null, .null, .null, .null, .null, .null, .int 0, .null, .null, .null, .null]) (fun _ => rfl) (by decide) (by simp) _ (fun q14 M11 R11 h11 => ?_)
  refine ini1 R11 h11 11 15 15 _ (fun q15 => [.int 0, .int 0, .int 0, .ref q3, .ref q4, .ref q5, .ref q6, .int 0, .ref q8, .ref q9, .ref q10, .int 0, .ref q12, .ref q13, .ref q14, .ref q15, .null, .null, .null, .null, .null, .null, .null, .null, .null, .null, .null, .null, .null, .null, .null, .null, .null, .int 0, .null, .null, .null, .null]) (fun _ => rfl) (by decide) (by simp) _ (fun q15 M12 R12 h12 => ?_)
  refine ini1 R12 h12 11 16 16 _ (fun q16 => [.int 0, .int 0, .int 0, .ref q3, .ref q4, .ref q5, .ref q6, .int 0, .ref q8, .ref q9, .ref q10, .int 0, .ref q12, .ref q13, .ref q14, .ref q15, .ref q16, .null, .null, .null, .null, .null, .null, .null, .null, .null, .null, .null, .null, .null, .null, .null, .null, .int 0, .null, .null, .null, .null]) (fun _ => rfl) (by decide) (by simp) _ (fun q16 M13 R13 h13 => ?_)
  refine ini1 R13 h13 11 17 17 _ (fun q17 => [.int 0, .int 0, .int 0, .ref q3, .ref q4, .ref q5, .ref q6, .int 0, .ref q8, .ref q9, .ref q10, .int 0, .ref q12, .ref q13, .ref q14, .ref q15, .ref q16, .ref q17, .null, .null, .null, .null, .null, .null, .null, .null, .null, .null, .null, .null, .null, .null, .null, .int 0, .null, .null, .null, .null]) (fun _ => rfl) (by decide) (by simp) _ (fun q17 M14 R14 h14 => ?_)
  refine ini1 R14 h14 11 18 18 _ (fun q18 => [.int 0, .int 0, .int 0, .ref q3, .ref q4, .ref q5, .ref q6, .int 0, .ref q8, .ref q9, .ref q10, .int 0, .ref q12, .ref q13, .ref q14, .ref q15, .ref q16, .ref q17, .ref q18, .null, .null, .null, .null, .null, .null, .null, .null, .null, .null, .null, .null, .null, .null, .int 0, .null, .null, .null, .null]) (fun _ => rfl) (by decide) (by simp) _ (fun q18 M15 R15 h15 => ?_)
  refine ini1 R15 h15 11 19 19 _ (fun q19 => [.int 0, .int 0, .int 0, .ref q3, .ref q4, .ref q5, .ref q6, .int 0, .ref q8, .ref q9, .ref q10, .int 0, .ref q12, .ref q13, .ref q14, .ref q15, .ref q16, .ref q17, .ref q18, .ref q19, .null, .null, .null, .null, .null, .null, .null, .null, .null, .null, .null, .null, .null, .int 0, .null, .null, .null, .null]) (fun _ => rfl) (by decide) (by simp) _ (fun q19 M16 R16 h16 => ?_)
  refine ini1 R16 h16 11 20 20 _ (fun q20 => [.int 0, .int 0, .int 0, .ref q3, .ref q4, .ref q5, .ref q6, .int 0, .ref q8, .ref q9, .ref q10, .int 0, .ref q12, .ref q13, .ref q14, .ref q15, .ref q16, .ref q17, .ref q18, .ref q19, .ref q20, .null, .null, .null, .null, .null, .null, .null, .null, .null, .null, .null, .null, .int 0, .null, .null, .null, .null]) (fun _ => rfl) (by decide) (by simp) _ (fun q20 M17 R17 h17 => ?_)
  refine ini1 R17 h17 11 21 21 _ (fun q21 => [.int 0, .int 0, .int 0, .ref q3, .ref q4, .ref q5, .ref q6, .int 0, .ref q8, .ref q9, .ref q10, .int 0, .ref q12, .ref q13, .ref q14, .ref q15, .ref q16, .ref q17, .ref q18, .ref q19, .ref q20, .ref q21, .null, .null, .null, .null, .null, .null, .null, .null, .null, .null, .null, .int 0, .null, .null, .null, .null]) (fun _ => rfl) (by decide) (by simp) _ (fun q21 M18 R18 h18 => ?_)
  refine ini1 R18 h18 11 22 22 _ (fun q22 => [.int 0, .int 0, .int 0, .ref q3, .ref q4, .ref q5, .ref q6, .int 0, .ref q8, .ref q9, .ref q10, .int 0, .ref q12, .ref q13, .ref q14, .ref q15, .ref q16, .ref q17, .ref q18, .ref q19, .ref q20, .ref q21, .ref q22, .null, .null, .null, .null, .null, .null, .null, .null, .null, .null, .int 0, .null, .null, .null, .null]) (fun _ => rfl) (by decide) (by simp) _ (fun q22 M19 R19 h19 => ?_)
  refine ini1 R19 h19 11 23 23 _ (fun q23 => [.int 0, .int 0, .int 0, .ref q3, .ref q4, .ref q5, .ref q6, .int 0, .ref q8, .ref q9, .ref q10, .int 0, .ref q12, .ref q13, .ref q14, .ref q15, .ref q16, .ref q17, .ref q18, .ref q19, .ref q20, .ref q21, .ref q22, .ref q23, .null, .null, .null, .null, .null, .null, .null, .null, .null, .int 0, .null, .null, .null, .null]) (fun _ => rfl) (by decide) (by simp) _ (fun q23 M20 R20 h20 => ?_)
  refine ini1 R20 h20 11 24 24 _ (fun q24 => [.int 0, .int 0, .int 0, .ref q3, .ref q4, .ref q5, .ref q6, .int 0, .ref q8, .ref q9, .ref q10, .int 0, .ref q12, .ref q13, .ref q14, .ref q15, .ref q16, .ref q17, .ref q18, .ref q19, .ref q20, .ref q21, .ref q22, .ref q23, .ref q24, .null, .null, .null, .null, .null, .null, .null, .null, .int 0, .null, .null, .null, .null]) (fun _ => rfl) (by decide) (by simp) _ (fun q24 M21 R21 h21 => ?_)
  refine ini1 R21 h21 11 25 25 _ (fun q25 => [.int 0, .int 0, .int 0, .ref q3, .ref q4, .ref q5, .ref q6, .int 0, .ref q8, .ref q9, .ref q10, .int 0, .ref q12, .ref q13, .ref q14, .ref q15, .ref q16, .ref q17, .ref q18, .ref q19, .ref q20, .ref q21, .ref q22, .ref q23, .ref q24, .ref q25, .null, .null, .null, .null, .null, .null, .null, .int 0, .null, .null, .null, .null]) (fun _ => rfl) (by decide) (by simp) _ (fun q25 M22 R22 h22 => ?_)
  refine ini1 R22 h22 11 26 26 _ (fun q26 => [.int 0, .int 0, .int 0, .ref q3, .ref q4, .ref q5, .ref q6, .int 0, .ref q8, .ref q9, .ref q10, .int 0, .ref q12, .ref q13, .ref q14, .ref q15, .ref q16, .ref q17, .ref q18, .ref q19, .ref q20, .ref q21, .ref q22, .ref q23, .ref q24, .ref q25, .ref q26, .null, .null, .null, .null, .null, .null, .int 0, .null, .null, .null, .null]) (fun _ => rfl) (by decide) (by simp) _ (fun q26 M23 R23 h23 => ?_)
  refine ini1 R23 h23 11 27 27 _ (fun q27 => [.int 0, .int 0, .int 0, .ref q3, .ref q4, .ref q5, .ref q6, .int 0, .ref q8, .ref q9, .ref q10, .int 0, .ref q12, .ref q13, .ref q14, .ref q15, .ref q16, .ref q17, .ref q18, .ref q19, .ref q20, .ref q21, .ref q22, .ref q23, .ref q24, .ref q25, .ref q26, .ref q27, .null, .null, .null, .null, .null, .int 0, .null, .null, .null, .null]) (fun _ => rfl) (by decide) (by simp) _ (fun q27 M24 R24 h24 => ?_)
  refine ini1 R24 h24 11 28 28 _ (fun q28 => [.int 0, .int 0, .int 0, .ref q3, .ref q4, .ref q5, .ref q6, .int 0, .ref q8, .ref q9, .ref q10, .int 0, .ref q12, .ref q13, .ref q14, .ref q15, .ref q16, .ref q17, .ref q18, .ref q19, .ref q20, .ref q21, .ref q22, .ref q23, .ref q24, .ref q25, .ref q26, .ref q27, .ref q28, .null, .null, .null, .null, .int 0, .null, .null, .null, .null]) (fun _ => rfl) (by decide) (by simp) _ (fun q28 M25 R25 h25 => ?_)
  refine ini1 R25 h25 11 29 29 _ (fun q29 => [.int 0, .int 0, .int 0, .ref q3, .ref q4, .ref q5, .ref q6, .int 0, .ref q8, .ref q9, .ref q10, .int 0, .ref q12, .ref q13, .ref q14, .ref q15, .ref q16, .ref q17, .ref q18, .ref q19, .ref q20, .ref q21, .ref q22, .ref q23, .ref q24, .ref q25, .ref q26, .ref q27, .ref q28, .ref q29, .null, .null, .null, .int 0, .null, .null, .null, .null]) (fun _ => rfl) (by decide) (by simp) _ (fun q29 M26 R26 h26 => ?_)
  refine ini1 R26 h26 11 30 30 _ (fun q30 => [.int 0, .int 0, .int 0, .ref q3, .ref q4, .ref q5, .ref q6, .int 0, .ref q8, .ref q9, .ref q10, .int 0, .ref q12, .ref q13, .ref q14, .ref q15, .ref q16, .ref q17, .ref q18, .ref q19, .ref q20, .ref q21, .ref q22, .ref q23, .ref q24, .ref q25, .ref q26, .ref q27, .ref q28, .ref q29, .ref q30, .null, .null, .int 0, .null, .null, .null, .null]) (fun _ => rfl) (by decide) (by simp) _ (fun q30 M27 R27 h27 => ?_)
  refine ini1 R27 h27 11 31 31 _ (fun q31 => [.int 0, .int 0, .int 0, .ref q3, .ref q4, .ref q5, .ref q6, .int 0, .ref q8, .ref q9, .ref q10, .int 0, .ref q12, .ref q13, .ref q14, .ref q15, .ref q16, .ref q17, .ref q18, .ref q19, .ref q20, .ref q21, .ref q22, .ref q23, .ref q24, .ref q25, .ref q26, .ref q27, .ref q28, .ref q29, .ref q30, .ref q31, .null, .int 0, .null, .null, .null, .null]) (fun _ => rfl) (by decide) (by simp) _ (fun q31 M28 R28 h28 => ?_)
  refine ini1 R28 h28 11 32 32 _ (fun q32 => [.int 0, .int 0, .int 0, .ref q3, .ref q4, .ref q5, .ref q6, .int 0, .ref q8, .ref q9, .ref q10, .int 0, .ref q12, .ref q13, .ref q14, .ref q15, .ref q16, .ref q17, .ref q18, .ref q19, .ref q20, .ref q21, .ref q22, .ref q23, .ref q24, .ref q25, .ref q26, .ref q27, .ref q28, .ref q29, .ref q30, .ref q31, .ref q32, .int 0, .null, .null, .null, .null]) (fun _ => rfl) (by decide) (by simp) _ (fun q32 M29 R29 h29 => ?_)
  refine ini1 R29 h29 11 34 34 _ (fun q34 => [.int 0, .int 0, .int 0, .ref q3, .ref q4, .ref q5, .ref q6, .int 0, .ref q8, .ref q9, .ref q10, .int 0, .ref q12, .ref q13, .ref q14, .ref q15, .ref q16, .ref q17, .ref q18, .ref q19, .ref q20, .ref q21, .ref q22, .ref q23, .ref q24, .ref q25, .ref q26, .ref q27, .ref q28, .ref q29, .ref q30, .ref q31, .ref q32, .int 0, .ref q34, .null, .null, .null]) (fun _ => rfl) (by decide) (by simp) _ (fun q34 M30 R30 h30 => ?_)
  refine ini1 R30 h30 11 35 35 _ (fun q35 => [.int 0, .int 0, .int 0, .ref q3, .ref q4, .ref q5, .ref q6, .int 0, .ref q8, .ref q9, .ref q10, .int 0, .ref q12, .ref q13, .ref q14, .ref q15, .ref q16, .ref q17, .ref q18, .ref q19, .ref q20, .ref q21, .ref q22, .ref q23, .ref q24, .ref q25, .ref q26, .ref q27, .ref q28, .ref q29, .ref q30, .ref q31, .ref q32, .int 0, .ref q34, .ref q35, .null, .null]) (fun _ => rfl) (by decide) (by simp) _ (fun q35 M31 R31 h31 => ?_)
  refine ini1 R31 h31 11 36 36 _ (fun q36 => [.int 0, .int 0, .int 0, .ref q3, .ref q4, .ref q5, .ref q6, .int 0, .ref q8, .ref q9, .ref q10, .int 0, .ref q12, .ref q13, .ref q14, .ref q15, .ref q16, .ref q17, .ref q18, .ref q19, .ref q20, .ref q21, .ref q22, .ref q23, .ref q24, .ref q25, .ref q26, .ref q27, .ref q28, .ref q29, .ref q30, .ref q31, .ref q32, .int 0, .ref q34, .ref q35, .ref q36, .null]) (fun _ => rfl) (by decide) (by simp) _ (fun q36 M32 R32 h32 => ?_)
  refine ini1 R32 h32 11 37 37 _ (fun q37 => [.int 0, .int 0, .int 0, .ref q3, .ref q4, .ref q5, .ref q6, .int 0, .ref q8, .ref q9, .ref q10, .int 0, .ref q12, .ref q13, .ref q14, .ref q15, .ref q16, .ref q17, .ref q18, .ref q19, .ref q20, .ref q21, .ref q22, .ref q23, .ref q24, .ref q25, .ref q26, .ref q27, .ref q28, .ref q29, .ref q30, .ref q31, .ref q32, .int 0, .ref q34, .ref q35, .ref q36, .ref q37]) (fun _ => rfl) (by decide) (by simp) _ (fun q37 M33 R33 h33 => ?_)
  have hq : ∀ f, mA f ≠ none → (aU (aU (aU (aU (aU (aU (aU (aU (aU (aU (aU (aU (aU (aU (aU (aU (aU (aU (aU (aU (aU (aU (aU (aU (aU (aU (aU (aU (aU (aU (aU (aU (aU A0 10 0 q) 11 3 q3) 11 4 q4) 11 5 q5) 11 6 q6) 11 8 q8) 11 9 q9) 11 10 q10) 11 12 q12) 11 13 q13) 11 14 q14) 11 15 q15) 11 16 q16) 11 17 q17) 11 18 q18) 11 19 q19) 11 20 q20) 11 21 q21) 11 22 q22) 11 23 q23) 11 24 q24) 11 25 q25) 11 26 q26) 11 27 q27) 11 28 q28) 11 29 q29) 11 30 q30) 11 31 q31) 11 32 q32) 11 34 q34) 11 35 q35) 11 36 q36) 11 37 q37) 11 f = (fun f => match f with | 3 => q3 | 4 => q4 | 5 => q5 | 6 => q6 | 8 => q8 | 9 => q9 | 10 => q10 | 12 => q12 | 13 => q13 | 14 => q14 | 15 => q15 | 16 => q16 | 17 => q17 | 18 => q18 | 19 => q19 | 20 => q20 | 21 => q21 | 22 => q22 | 23 => q23 | 24 => q24 | 25 => q25 | 26 => q26 | 27 => q27 | 28 => q28 | 29 => q29 | 30 => q30 | 31 => q31 | 32 => q32 | 34 => q34 | 35 => q35 | 36 => q36 | 37 => q37 | _ => 0 : Nat → Nat) f := fun f hf => by
    unfold mA at hf
    split at hf
    · exact (aU_off (by decide)).trans ((aU_off (by decide)).trans ((aU_off (by decide)).trans ((aU_off (by decide)).trans ((aU_off (by decide)).trans ((aU_off (by decide)).trans ((aU_off (by decide)).trans ((aU_off (by decide)).trans ((aU_off (by decide)).trans ((aU_off (by decide)).trans ((aU_off (by decide)).trans ((aU_off (by decide)).trans ((aU_off (by decide)).trans ((aU_off (by decide)).trans ((aU_off (by decide)).trans ((aU_off (by decide)).trans ((aU_off (by decide)).trans ((aU_off (by decide)).trans ((aU_off (by decide)).trans ((aU_off (by decide)).trans ((aU_off (by decide)).trans ((aU_off (by decide)).trans ((aU_off (by decide)).trans ((aU_off (by decide)).trans ((aU_off (by decide)).trans ((aU_off (by decide)).trans ((aU_off (by decide)).trans ((aU_off (by decide)).trans ((aU_off (by decide)).trans ((aU_off (by decide)).trans ((aU_off (by decide)).trans (aU_eq _ _ _ _)))))))))))))))))))))))))))))))
    · exact (aU_off (by decide)).trans ((aU_off (by decide)).trans ((aU_off (by decide)).trans ((aU_off (by decide)).trans ((aU_off (by decide)).trans ((aU_off (by decide)).trans ((aU_off (by decide)).trans ((aU_off (by decide)).trans ((aU_off (by decide)).trans ((aU_off (by decide)).trans ((aU_off (by decide)).trans ((aU_off (by decide)).trans ((aU_off (by decide)).trans ((aU_off (by decide)).trans ((aU_off (by decide)).trans ((aU_off (by decide)).trans ((aU_off (by decide)).trans ((aU_off (by decide)).trans ((aU_off (by decide)).trans ((aU_off (by decide)).trans ((aU_off (by decide)).trans ((aU_off (by decide)).trans ((aU_off (by decide)).trans ((aU_off (by decide)).trans ((aU_off (by decide)).trans ((aU_off (by decide)).trans ((aU_off (by decide)).trans ((aU_off (by decide)).trans ((aU_off (by decide)).trans ((aU_off (by decide)).trans (aU_eq _ _ _ _))))))))))))))))))))))))))))))
    · exact (aU_off (by decide)).trans ((aU_off (by decide)).trans ((aU_off (by decide)).trans ((aU_off (by decide)).trans ((aU_off (by decide)).trans ((aU_off (by decide)).trans ((aU_off (by decide)).trans ((aU_off (by decide)).trans ((aU_off (by decide)).trans ((aU_off (by decide)).trans ((aU_off (by decide)).trans ((aU_off (by decide)).trans ((aU_off (by decide)).trans ((aU_off (by decide)).trans ((aU_off (by decide)).trans ((aU_off (by decide)).trans ((aU_off (by decide)).trans ((aU_off (by decide)).trans ((aU_off (by decide)).trans ((aU_off (by decide)).trans ((aU_off (by decide)).trans ((aU_off (by decide)).trans ((aU_off (by decide)).trans ((aU_off (by decide)).trans ((aU_off (by decide)).trans ((aU_off (by decide)).trans ((aU_off (by decide)).trans ((aU_off (by decide)).trans ((aU_off (by decide)).trans (aU_eq _ _ _ _)))))))))))))))))))))))))))))
    · exact (aU_off (by decide)).trans ((aU_off (by decide)).trans ((aU_off (by decide)).trans ((aU_off (by decide)).trans ((aU_off (by decide)).trans ((aU_off (by decide)).trans ((aU_off (by decide)).trans ((aU_off (by decide)).trans ((aU_off (by decide)).trans ((aU_off (by decide)).trans ((aU_off (by decide)).trans ((aU_off (by decide)).trans ((aU_off (by decide)).trans ((aU_off (by decide)).trans ((aU_off (by decide)).trans ((aU_off (by decide)).trans ((aU_off (by decide)).trans ((aU_off (by decide)).trans ((aU_off (by decide)).trans ((aU_off (by decide)).trans ((aU_off (by decide)).trans ((aU_off (by decide)).trans ((aU_off (by decide)).trans ((aU_off (by decide)).trans ((aU_off (by decide)).trans ((aU_off (by decide)).trans ((aU_off (by decide)).trans ((aU_off (by decide)).trans (aU_eq _ _ _ _))))))))))))))))))))))))))))
    · exact (aU_off (by decide)).trans ((aU_off (by decide)).trans ((aU_off (by decide)).trans ((aU_off (by decide)).trans ((aU_off (by decide)).trans ((aU_off (by decide)).trans ((aU_off (by decide)).trans ((aU_off (by decide)).trans ((aU_off (by decide)).trans ((aU_off (by decide)).trans ((aU_off (by decide)).trans ((aU_off (by decide)).trans ((aU_off (by decide)).trans ((aU_off (by decide)).trans ((aU_off (by decide)).trans ((aU_off (by decide)).trans ((aU_off (by decide)).trans ((aU_off (by decide)).trans ((aU_off (by decide)).trans ((aU_off (by decide)).trans ((aU_off (by decide)).trans ((aU_off (by decide)).trans ((aU_off (by decide)).trans ((aU_off (by decide)).trans ((aU_off (by decide)).trans ((aU_off (by decide)).trans ((aU_off (by decide)).trans (aU_eq _ _ _ _)))))))))))))))))))))))))))
    · exact (aU_off (by decide)).trans ((aU_off (by decide)).trans ((aU_off (by decide)).trans ((aU_off (by decide)).trans ((aU_off (by decide)).trans ((aU_off (by decide)).trans ((aU_off (by decide)).trans ((aU_off (by decide)).trans ((aU_off (by decide)).trans ((aU_off (by decide)).trans ((aU_off (by decide)).trans ((aU_off (by decide)).trans ((aU_off (by decide)).trans ((aU_off (by decide)).trans ((aU_off (by decide)).trans ((aU_off (by decide)).trans ((aU_off (by decide)).trans ((aU_off (by decide)).trans ((aU_off (by decide)).trans ((aU_off (by decide)).trans ((aU_off (by decide)).trans ((aU_off (by decide)).trans ((aU_off (by decide)).trans ((aU_off (by decide)).trans ((aU_off (by decide)).trans ((aU_off (by decide)).trans (aU_eq _ _ _ _))))))))))))))))))))))))))
    · exact (aU_off (by decide)).trans ((aU_off (by decide)).trans ((aU_off (by decide)).trans ((aU_off (by decide)).trans ((aU_off (by decide)).trans ((aU_off (by decide)).trans ((aU_off (by decide)).trans ((aU_off (by decide)).trans ((aU_off (by decide)).trans ((aU_off (by decide)).trans ((aU_off (by decide)).trans ((aU_off (by decide)).trans ((aU_off (by decide)).trans ((aU_off (by decide)).trans ((aU_off (by decide)).trans ((aU_off (by decide)).trans ((aU_off (by decide)).trans ((aU_off (by decide)).trans ((aU_off (by decide)).trans ((aU_off (by decide)).trans ((aU_off (by decide)).trans ((aU_off (by decide)).trans ((aU_off (by decide)).trans ((aU_off (by decide)).trans ((aU_off (by decide)).trans (aU_eq _ _ _ _)))))))))))))))))))))))))
    · exact (aU_off (by decide)).trans ((aU_off (by decide)).trans ((aU_off (by decide)).trans ((aU_off (by decide)).trans ((aU_off (by decide)).trans ((aU_off (by decide)).trans ((aU_off (by decide)).trans ((aU_off (by decide)).trans ((aU_off (by decide)).trans ((aU_off (by decide)).trans ((aU_off (by decide)).trans ((aU_off (by decide)).trans ((aU_off (by decide)).trans ((aU_off (by decide)).trans ((aU_off (by decide)).trans ((aU_off (by decide)).trans ((aU_off (by decide)).trans ((aU_off (by decide)).trans ((aU_off (by decide)).trans ((aU_off (by decide)).trans ((aU_off (by decide)).trans ((aU_off (by decide)).trans ((aU_off (by decide)).trans ((aU_off (by decide)).trans (aU_eq _ _ _ _))))))))))))))))))))))))
    · exact (aU_off (by decide)).trans ((aU_off (by decide)).trans ((aU_off (by decide)).trans ((aU_off (by decide)).trans ((aU_off (by decide)).trans ((aU_off (by decide)).trans ((aU_off (by decide)).trans ((aU_off (by decide)).trans ((aU_off (by decide)).trans ((aU_off (by decide)).trans ((aU_off (by decide)).trans ((aU_off (by decide)).trans ((aU_off (by decide)).trans ((aU_off (by decide)).trans ((aU_off (by decide)).trans ((aU_off (by decide)).trans ((aU_off (by decide)).trans ((aU_off (by decide)).trans ((aU_off (by decide)).trans ((aU_off (by decide)).trans ((aU_off (by decide)).trans ((aU_off (by decide)).trans ((aU_off (by decide)).trans (aU_eq _ _ _ _)))))))))))))))))))))))
    · exact (aU_off (by decide)).trans ((aU_off (by decide)).trans ((aU_off (by decide)).trans ((aU_off (by decide)).trans ((aU_off (by decide)).trans ((aU_off (by decide)).trans ((aU_off (by decide)).trans ((aU_off (by decide)).trans ((aU_off (by decide)).trans ((aU_off (by decide)).trans ((aU_off (by decide)).trans ((aU_off (by decide)).trans ((aU_off (by decide)).trans ((aU_off (by decide)).trans ((aU_off (by decide)).trans ((aU_off (by decide)).trans ((aU_off (by decide)).trans ((aU_off (by decide)).trans ((aU_off (by decide)).trans ((aU_off (by decide)).trans ((aU_off (by decide)).trans ((aU_off (by decide)).trans (aU_eq _ _ _ _))))))))))))))))))))))
    · exact (aU_off (by decide)).trans ((aU_off (by decide)).trans ((aU_off (by decide)).trans ((aU_off (by decide)).trans ((aU_off (by decide)).trans ((aU_off (by decide)).trans ((aU_off (by decide)).trans ((aU_off (by decide)).trans ((aU_off (by decide)).trans ((aU_off (by decide)).trans ((aU_off (by decide)).trans ((aU_off (by decide)).trans ((aU_off (by decide)).trans ((aU_off (by decide)).trans ((aU_off (by decide)).trans ((aU_off (by decide)).trans ((aU_off (by decide)).trans ((aU_off (by decide)).trans ((aU_off (by decide)).trans ((aU_off (by decide)).trans ((aU_off (by decide)).trans (aU_eq _ _ _ _)))))))))))))))))))))
    · exact (aU_off (by decide)).trans ((aU_off (by decide)).trans ((aU_off (by decide)).trans ((aU_off (by decide)).trans ((aU_off (by decide)).trans ((aU_off (by decide)).trans ((aU_off (by decide)).trans ((aU_off (by decide)).trans ((aU_off (by decide)).trans ((aU_off (by decide)).trans ((aU_off (by decide)).trans ((aU_off (by decide)).trans ((aU_off (by decide)).trans ((aU_off (by decide)).trans ((aU_off (by decide)).trans ((aU_off (by decide)).trans ((aU_off (by decide)).trans ((aU_off (by decide)).trans ((aU_off (by decide)).trans ((aU_off (by decide)).trans (aU_eq _ _ _ _))))))))))))))))))))
    · exact (aU_off (by decide)).trans ((aU_off (by decide)).trans ((aU_off (by decide)).trans ((aU_off (by decide)).trans ((aU_off (by decide)).trans ((aU_off (by decide)).trans ((aU_off (by decide)).trans ((aU_off (by decide)).trans ((aU_off (by decide)).trans ((aU_off (by decide)).trans ((aU_off (by decide)).trans ((aU_off (by decide)).trans ((aU_off (by decide)).trans ((aU_off (by decide)).trans ((aU_off (by decide)).trans ((aU_off (by decide)).trans ((aU_off (by decide)).trans ((aU_off (by decide)).trans ((aU_off (by decide)).trans (aU_eq _ _ _ _)))))))))))))))))))
    · exact (aU_off (by decide)).trans ((aU_off (by decide)).trans ((aU_off (by decide)).trans ((aU_off (by decide)).trans ((aU_off (by decide)).trans ((aU_off (by decide)).trans ((aU_off (by decide)).trans ((aU_off (by decide)).trans ((aU_off (by decide)).trans ((aU_off (by decide)).trans ((aU_off (by decide)).trans ((aU_off (by decide)).trans ((aU_off (by decide)).trans ((aU_off (by decide)).trans ((aU_off (by decide)).trans ((aU_off (by decide)).trans ((aU_off (by decide)).trans ((aU_off (by decide)).trans (aU_eq _ _ _ _))))))))))))))))))
    · exact (aU_off (by decide)).trans ((aU_off (by decide)).trans ((aU_off (by decide)).trans ((aU_off (by decide)).trans ((aU_off (by decide)).trans ((aU_off (by decide)).trans ((aU_off (by decide)).trans ((aU_off (by decide)).trans ((aU_off (by decide)).trans ((aU_off (by decide)).trans ((aU_off (by decide)).trans ((aU_off (by decide)).trans ((aU_off (by decide)).trans ((aU_off (by decide)).trans ((aU_off (by decide)).trans ((aU_off (by decide)).trans ((aU_off (by decide)).trans (aU_eq _ _ _ _)))))))))))))))))
    · exact (aU_off (by decide)).trans ((aU_off (by decide)).trans ((aU_off (by decide)).trans ((aU_off (by decide)).trans ((aU_off (by decide)).trans ((aU_off (by decide)).trans ((aU_off (by decide)).trans ((aU_off (by decide)).trans ((aU_off (by decide)).trans ((aU_off (by decide)).trans ((aU_off (by decide)).trans ((aU_off (by decide)).trans ((aU_off (by decide)).trans ((aU_off (by decide)).trans ((aU_off (by decide)).trans ((aU_off (by decide)).trans (aU_eq _ _ _ _))))))))))))))))
    · exact (aU_off (by decide)).trans ((aU_off (by decide)).trans ((aU_off (by decide)).trans ((aU_off (by decide)).trans ((aU_off (by decide)).trans ((aU_off (by decide)).trans ((aU_off (by decide)).trans ((aU_off (by decide)).trans ((aU_off (by decide)).trans ((aU_off (by decide)).trans ((aU_off (by decide)).trans ((aU_off (by decide)).trans ((aU_off (by decide)).trans ((aU_off (by decide)).trans ((aU_off (by decide)).trans (aU_eq _ _ _ _)))))))))))))))
    · exact (aU_off (by decide)).trans ((aU_off (by decide)).trans ((aU_off (by decide)).trans ((aU_off (by decide)).trans ((aU_off (by decide)).trans ((aU_off (by decide)).trans ((aU_off (by decide)).trans ((aU_off (by decide)).trans ((aU_off (by decide)).trans ((aU_off (by decide)).trans ((aU_off (by decide)).trans ((aU_off (by decide)).trans ((aU_off (by decide)).trans ((aU_off (by decide)).trans (aU_eq _ _ _ _))))))))))))))
    · exact (aU_off (by decide)).trans ((aU_off (by decide)).trans ((aU_off (by decide)).trans ((aU_off (by decide)).trans ((aU_off (by decide)).trans ((aU_off (by decide)).trans ((aU_off (by decide)).trans ((aU_off (by decide)).trans ((aU_off (by decide)).trans ((aU_off (by decide)).trans ((aU_off (by decide)).trans ((aU_off (by decide)).trans ((aU_off (by decide)).trans (aU_eq _ _ _ _)))))))))))))
    · exact (aU_off (by decide)).trans ((aU_off (by decide)).trans ((aU_off (by decide)).trans ((aU_off (by decide)).trans ((aU_off (by decide)).trans ((aU_off (by decide)).trans ((aU_off (by decide)).trans ((aU_off (by decide)).trans ((aU_off (by decide)).trans ((aU_off (by decide)).trans ((aU_off (by decide)).trans ((aU_off (by decide)).trans (aU_eq _ _ _ _))))))))))))
    · exact (aU_off (by decide)).trans ((aU_off (by decide)).trans ((aU_off (by decide)).trans ((aU_off (by decide)).trans ((aU_off (by decide)).trans ((aU_off (by decide)).trans ((aU_off (by decide)).trans ((aU_off (by decide)).trans ((aU_off (by decide)).trans ((aU_off (by decide)).trans ((aU_off (by decide)).trans (aU_eq _ _ _ _)))))))))))
    · exact (aU_off (by decide)).trans ((aU_off (by decide)).trans ((aU_off (by decide)).trans ((aU_off (by decide)).trans ((aU_off (by decide)).trans ((aU_off (by decide)).trans ((aU_off (by decide)).trans ((aU_off (by decide)).trans ((aU_off (by decide)).trans ((aU_off (by decide)).trans (aU_eq _ _ _ _))))))))))
    · exact (aU_off (by decide)).trans ((aU_off (by decide)).trans ((aU_off (by decide)).trans ((aU_off (by decide)).trans ((aU_off (by decide)).trans ((aU_off (by decide)).trans ((aU_off (by decide)).trans ((aU_off (by decide)).trans ((aU_off (by decide)).trans (aU_eq _ _ _ _)))))))))
    · exact (aU_off (by decide)).trans ((aU_off (by decide)).trans ((aU_off (by decide)).trans ((aU_off (by decide)).trans ((aU_off (by decide)).trans ((aU_off (by decide)).trans ((aU_off (by decide)).trans ((aU_off (by decide)).trans (aU_eq _ _ _ _))))))))
    · exact (aU_off (by decide)).trans ((aU_off (by decide)).trans ((aU_off (by decide)).trans ((aU_off (by decide)).trans ((aU_off (by decide)).trans ((aU_off (by decide)).trans ((aU_off (by decide)).trans (aU_eq _ _ _ _)))))))
    · exact (aU_off (by decide)).trans ((aU_off (by decide)).trans ((aU_off (by decide)).trans ((aU_off (by decide)).trans ((aU_off (by decide)).trans ((aU_off (by decide)).trans (aU_eq _ _ _ _))))))
    · exact (aU_off (by decide)).trans ((aU_off (by decide)).trans ((aU_off (by decide)).trans ((aU_off (by decide)).trans ((aU_off (by decide)).trans (aU_eq _ _ _ _)))))
    · exact (aU_off (by decide)).trans ((aU_off (by decide)).trans ((aU_off (by decide)).trans ((aU_off (by decide)).trans (aU_eq _ _ _ _))))
    · exact (aU_off (by decide)).trans ((aU_off (by decide)).trans ((aU_off (by decide)).trans (aU_eq _ _ _ _)))
    · exact (aU_off (by decide)).trans ((aU_off (by decide)).trans (aU_eq _ _ _ _))
    · exact (aU_off (by decide)).trans (aU_eq _ _ _ _)
    · exact aU_eq _ _ _ _
    · exact absurd rfl hf
  have hA : ∀ i j, i ≠ 10 → i ≠ 11 → (aU (aU (aU (aU (aU (aU (aU (aU (aU (aU (aU (aU (aU (aU (aU (aU (aU (aU (aU (aU (aU (aU (aU (aU (aU (aU (aU (aU (aU (aU (aU (aU (aU A0 10 0 q) 11 3 q3) 11 4 q4) 11 5 q5) 11 6 q6) 11 8 q8) 11 9 q9) 11 10 q10) 11 12 q12) 11 13 q13) 11 14 q14) 11 15 q15) 11 16 q16) 11 17 q17) 11 18 q18) 11 19 q19) 11 20 q20) 11 21 q21) 11 22 q22) 11 23 q23) 11 24 q24) 11 25 q25) 11 26 q26) 11 27 q27) 11 28 q28) 11 29 q29) 11 30 q30) 11 31 q31) 11 32 q32) 11 34 q34) 11 35 q35) 11 36 q36) 11 37 q37) i j = A0 i j := fun i j n1 n2 => (aU_off (fun z => n2 z.1)).trans ((aU_off (fun z => n2 z.1)).trans ((aU_off (fun z => n2 z.1)).trans ((aU_off (fun z => n2 z.1)).trans ((aU_off (fun z => n2 z.1)).trans ((aU_off (fun z => n2 z.1)).trans ((aU_off (fun z => n2 z.1)).trans ((aU_off (fun z => n2 z.1)).trans ((aU_off (fun z => n2 z.1)).trans ((aU_off (fun z => n2 z.1)).trans ((aU_off (fun z => n2 z.1)).trans ((aU_off (fun z => n2 z.1)).trans ((aU_off (fun z => n2 z.1)).trans ((aU_off (fun z => n2 z.1)).trans ((aU_off (fun z => n2 z.1)).trans ((aU_off (fun z => n2 z.1)).trans ((aU_off (fun z => n2 z.1)).trans ((aU_off (fun z => n2 z.1)).trans ((aU_off (fun z => n2 z.1)).trans ((aU_off (fun z => n2 z.1)).trans ((aU_off (fun z => n2 z.1)).trans ((aU_off (fun z => n2 z.1)).trans ((aU_off (fun z => n2 z.1)).trans ((aU_off (fun z => n2 z.1)).trans ((aU_off (fun z => n2 z.1)).trans ((aU_off (fun z => n2 z.1)).trans ((aU_off (fun z => n2 z.1)).trans ((aU_off (fun z => n2 z.1)).trans ((aU_off (fun z => n2 z.1)).trans ((aU_off (fun z => n2 z.1)).trans ((aU_off (fun z => n2 z.1)).trans ((aU_off (fun z => n2 z.1)).trans (aU_off (fun z => n1 z.1)))))))))))))))))))))))))))))))))
  have z := k M33 _ (fun f => match f with | 3 => q3 | 4 => q4 | 5 => q5 | 6 => q6 | 8 => q8 | 9 => q9 | 10 => q10 | 12 => q12 | 13 => q13 | 14 => q14 | 15 => q15 | 16 => q16 | 17 => q17 | 18 => q18 | 19 => q19 | 20 => q20 | 21 => q21 | 22 => q22 | 23 => q23 | 24 => q24 | 25 => q25 | 26 => q26 | 27 => q27 | 28 => q28 | 29 => q29 | 30 => q30 | 31 => q31 | 32 => q32 | 34 => q34 | 35 => q35 | 36 => q36 | 37 => q37 | _ => 0) R33 hq hA
  rw [h33] at z
  exact z
set_option maxRecDepth 100000 in
set_option maxHeartbeats 2000000 in
theorem tab_ok {A : hAd} {q : Nat → Nat} {qa qb qc : Nat} (hq : ∀ f, mA f ≠ none → A 11 f = q f) (h1 : A 1 0 = qa) (h2 : A 2 0 = qb) (h3 : A 3 0 = qc) : ∀ i j, cc A s00 s00 w00 i j = tab5 (tab4 qa qb qc) q i j := by
  subst h1 h2 h3
  intro i j
  have hn : ∀ f : Nat, f ≠ 11 → f ≠ 10 → tab5 (tab4 (A 1 0) (A 2 0) (A 3 0)) q f j = tab4 (A 1 0) (A 2 0) (A 3 0) f j := fun f n1 n2 => by
    unfold tab5
    simp only [cU, n1, n2, false_and, ↓reduceIte]
  match i with
  | 0 =>
    rw [hn 0 (by decide) (by decide)]
    by_cases e : j = 0
    · subst e
      rw [cc0p]
      rfl
    · unfold tab4
      show (if j = 0 then some (c0 A s00) else none) = _
      simp [cU, e]
  | 1 =>
    rw [hn 1 (by decide) (by decide)]
    by_cases e : j = 0
    · subst e
      rw [cc1p]
      unfold c1
      rw [show (fun k => if s00 114 k = 1 then some (A 4 k) else none) = fun _ => none from funext fun k => if_neg n01]
      rfl
    · unfold tab4
      show (if j = 0 then some (c1 A s00) else none) = _
      simp [cU, e]
  | 2 =>
    rw [hn 2 (by decide) (by decide)]
    by_cases e : j = 0
    · subst e
      rw [cc2p]
      unfold c2
      rw [show (fun k => if s00 115 k = 1 then some (A 5 k) else none) = fun _ => none from funext fun k => if_neg n01]
      rfl
    · unfold tab4
      show (if j = 0 then some (c2 A s00) else none) = _
      simp [cU, e]
  | 3 =>
    rw [hn 3 (by decide) (by decide)]
    by_cases e : j = 0
    · subst e
      rw [cc3p]
      unfold c3
      rw [show (fun k => if s00 116 k = 1 then some (A 9 k) else none) = fun _ => none from funext fun k => if_neg n01]
      rfl
    · unfold tab4
      show (if j = 0 then some (c3 A s00) else none) = _
      simp [cU, e]
  | 4 =>
    rw [hn 4 (by decide) (by decide), cc4n (s := s00) (t := j) n01]
    rfl
  | 5 =>
    rw [hn 5 (by decide) (by decide), cc5n (s := s00) (t := j) n01]
    rfl
  | 6 =>
    rw [hn 6 (by decide) (by decide), cc6n (s := s00) (t := j) n01]
    rfl
  | 7 =>
    rw [hn 7 (by decide) (by decide), cc7n (s := s00) (t := j) n01]
    rfl
  | 8 =>
    rw [hn 8 (by decide) (by decide), cc8n (s := s00) (t := j) n01]
    rfl
  | 9 =>
    rw [hn 9 (by decide) (by decide), cc9n (s := s00) (t := j) n01]
    rfl
  | 10 =>
    by_cases e : j = 0
    · subst e
      rw [cc10p]
      unfold c10 tab5
      rw [hq 3 (by decide), hq 4 (by decide), hq 5 (by decide), hq 6 (by decide), hq 8 (by decide), hq 9 (by decide), hq 10 (by decide), hq 12 (by decide), hq 13 (by decide), hq 14 (by decide), hq 15 (by decide), hq 16 (by decide), hq 17 (by decide), hq 18 (by decide), hq 19 (by decide), hq 20 (by decide), hq 21 (by decide), hq 22 (by decide), hq 23 (by decide), hq 24 (by decide), hq 25 (by decide), hq 26 (by decide), hq 27 (by decide), hq 28 (by decide), hq 29 (by decide), hq 30 (by decide), hq 31 (by decide), hq 32 (by decide), hq 34 (by decide), hq 35 (by decide), hq 36 (by decide), hq 37 (by decide)]
      rw [cU_eq]
      rfl
    · show (if j = 0 then some (c10 A s00) else none) = _
      unfold tab5 tab4
      simp [cU, e]
  | 11 =>
    show (mA j).map (fun p => (.inl (p.1, p.2, .inl (s00 j)) : hE)) = _
    unfold mA
    split
    · rfl
    · rfl
    · rfl
    · rfl
    · rfl
    · rfl
    · rfl
    · rfl
    · rfl
    · rfl
    · rfl
    · rfl
    · rfl
    · rfl
    · rfl
    · rfl
    · rfl
    · rfl
    · rfl
    · rfl
    · rfl
    · rfl
    · rfl
    · rfl
    · rfl
    · rfl
    · rfl
    · rfl
    · rfl
    · rfl
    · rfl
    · rfl
    · clear hn hq
      simp only [imp_false] at *
      unfold tab5 tab4
      simp [cU, *]
  | 12 =>
    rw [hn 12 (by decide) (by decide), cc12n (s := s00) (j := j) (fun z => n01 z.2)]
    rfl
  | n + 13 =>
    rw [hn (n + 13) (by omega) (by omega)]
    show none = _
    unfold tab4
    simp [cU]
theorem law_start {k23 : hM → Option Nat → Option Nat → Option Nat → Prop} (h : ∀ (M : hM) (x m out : Nat), INV 0 M x m out → k23 M (some x) (some m) (some out)) : lw_init (fun _ => none) k23 := by
  unfold lw_init
  refine ini_class rfl (fun M3 A3 qa qb qc R3 h1 h2 h3 => ?_)
  refine ini_model R3 (fun M5 A q R5 hq hA => ?_)
  have R6 : Rep M5 A s00 s00 w00 := RepC.cong R5 (tab_ok hq ((hA 1 0 (by decide) (by decide)).trans h1) ((hA 2 0 (by decide) (by decide)).trans h2) ((hA 3 0 (by decide) (by decide)).trans h3))
  have e0 : sV s00 29 (fun i => if i < 0 then (4 : Int32) else 0) = s00 := sV_id (fun i => if_neg (Nat.not_lt_zero _))
  have hAM : AM sig0 (sU s00 120 0 1) := fun f i h0 h24 h29 hh => by
    unfold sig0
    by_cases c : f = 120 ∧ i = 0
    · obtain ⟨rfl, rfl⟩ := c
      rw [sU_eq, sU_eq]
    · rw [sU_off c, sU_off c, sV_ne h29]
  refine li_ceil (A := A) (s := s00) (τ0 := s00) (w := w00) (fun M6 R7 => ?_) 1000 0 M5 (by rw [e0]; exact R6) (by omega) (by omega)
  intro q7 hq7
  have R8 := nw12 R7 hq7 n01 (fun _ => 0)
  have z := h (hst M6 q7 (.inl (2, 1, .inr (.inl (fun _ => 0))))) (A 0 0) (A 10 0) q7 ⟨_, sig0, _, 0, 0, 0, 0, ⟨aU_off (by decide), aU_off (by decide), aU_eq _ _ _ _⟩, Rep.fin R8 hAM ((BM.rf _).m (by omega)), Inv_0, by omega⟩
  rw [hA 0 0 (by decide) (by decide)] at z
  exact z
