/-! ===== days pass ===== -/
def PR (cF : Nat) (s0 s : hσ) : Prop := (∀ f i, f ≠ 26 → f ≠ 27 → f ≠ 28 → ¬ (f = 37 ∧ i = 5) → s f i = s0 f i) ∧ ∀ t, accS s0 cF t = true → (∃ e e', s0 27 t = nI e ∧ s 27 t = nI e' ∧ e ≤ e' ∧ e' ≤ 10) ∧ (s0 22 t ≠ 0 → s 27 t = s0 27 t)
theorem PR.rf {cO cF cI : Nat} {s : hσ} (I : Inv cO cF cI s) : PR cF s s := ⟨fun _ _ _ _ _ _ => rfl, fun t ha => by
  obtain ⟨e, h1, h2⟩ := (I.one ha).d27
  exact ⟨⟨e, e, h1, h1, Nat.le_refl _, h2⟩, fun _ => rfl⟩⟩
theorem PR.acc {cF : Nat} {s0 s : hσ} (h : PR cF s0 s) (t : Nat) : accS s cF t = accS s0 cF t := by
  unfold accS
  rw [h.1 9 _ (by omega) (by omega) (by omega) (by omega)]
theorem PR.tr {cF : Nat} {s0 s s' : hσ} (h : PR cF s0 s) (h' : PR cF s s') : PR cF s0 s' := by
  refine ⟨fun f i h1 h2 h3 h4 => (h'.1 f i h1 h2 h3 h4).trans (h.1 f i h1 h2 h3 h4), fun t ha => ?_⟩
  obtain ⟨⟨e1, e2, k1, k2, k3, k4⟩, k5⟩ := h.2 t ha
  obtain ⟨⟨e3, e4, l1, l2, l3, l4⟩, l5⟩ := h'.2 t (by rw [h.acc]; exact ha)
  have e : e2 = e3 := by
    rw [k2] at l1
    by_cases q : e3 < 2 ^ 31
    · exact (nI_eq (by omega) q).mp l1
    · omega
  refine ⟨⟨e1, e4, k1, l2, by omega, l4⟩, fun q => ?_⟩
  rw [l5 (by rw [h.1 22 t (by omega) (by omega) (by omega) (by omega)]; exact q)]
  exact k5 q
theorem min_nI {a b : Nat} (ha : a < 1000) (hb' : b < 1000) : (if nI a < nI b then nI a else nI b) = nI (min b a) := by
  by_cases h : a < b
  · rw [if_pos ((nI_ltI (by omega) (by omega)).mpr h), Nat.min_eq_right (by omega)]
  · rw [if_neg (fun q => h ((nI_ltI (by omega) (by omega)).mp q)), Nat.min_eq_left (by omega)]
section PASS
variable {A : hAd} {τ : hσ} {cO cF cI : Nat}
/-- one accused is touched by the clock -/
theorem touch {s : hσ} {t : Nat} (I : Inv cO cF cI s) (ha : accS s cF t = true) {x26 x27 x28 : Int32} (h26 : x26 = 0 ∨ x26 = 1) (hone : oneV cO (s 1 0) (s 22 t) (s 23 t) x26 x27 x28 (s 30 t) (s 32 t) (s (1001 + 2 * t))) (h27 : (∃ e e', s 27 t = nI e ∧ x27 = nI e' ∧ e ≤ e' ∧ e' ≤ 10) ∧ (s 22 t ≠ 0 → x27 = s 27 t)) {s' : hσ} (e26 : s' 26 t = x26) (e27 : s' 27 t = x27) (e28 : s' 28 t = x28) (hoff : ∀ f i, ¬ (i = t ∧ (f = 26 ∨ f = 27 ∨ f = 28)) → s' f i = s f i) : Inv cO cF cI s' ∧ PR cF s s' := by
  have acc : ∀ t2, accS s' cF t2 = accS s cF t2 := fun t2 => by
    unfold accS
    rw [hoff 9 _ (by omega)]
  have lo : ∀ f i, f ≠ 26 → f ≠ 27 → f ≠ 28 → s' f i = s f i := fun f i h1 h2 h3 => hoff f i (by omega)
  obtain ⟨⟨n1, n2, n3, n4, n5, n6, D, n7, n8⟩, E, O, T⟩ := I
  refine ⟨⟨⟨by rw [lo 2 0 (by omega) (by omega) (by omega)]; exact n1, n2, by rw [lo 7 0 (by omega) (by omega) (by omega)]; exact n3, n4, by rw [lo 11 0 (by omega) (by omega) (by omega)]; exact n5, n6, D, n7, by rw [lo 1 0 (by omega) (by omega) (by omega)]; exact n8⟩, ⟨fun k => ?_, fun k => ?_, fun k => ?_, fun k => ?_, fun k => ?_, fun k => ?_, fun k => ?_, fun t2 => ?_, fun t2 => ?_, fun f p => ?_, ?_⟩, ⟨fun k hk => ?_, fun x y hx hy => ?_, fun x y hx hy1 hy2 => ?_⟩, ?_⟩, fun f i h1 h2 h3 _ => lo f i h1 h2 h3, fun t2 ha2 => ?_⟩
  · rw [lo 110 k (by omega) (by omega) (by omega)]
    exact E.1 k
  · rw [lo 114 k (by omega) (by omega) (by omega)]
    exact E.2.1 k
  · rw [lo 111 k (by omega) (by omega) (by omega)]
    exact E.2.2.1 k
  · rw [lo 115 k (by omega) (by omega) (by omega)]
    exact E.2.2.2.1 k
  · rw [lo 118 k (by omega) (by omega) (by omega)]
    exact E.2.2.2.2.1 k
  · rw [lo 113 k (by omega) (by omega) (by omega)]
    exact E.2.2.2.2.2.1 k
  · rw [lo 116 k (by omega) (by omega) (by omega)]
    exact E.2.2.2.2.2.2.1 k
  · rw [lo 112 t2 (by omega) (by omega) (by omega), acc]
    exact E.2.2.2.2.2.2.2.1 t2
  · rw [lo 119 t2 (by omega) (by omega) (by omega), acc]
    exact E.2.2.2.2.2.2.2.2.1 t2
  · rw [lo (1000 + 2 * f) p (by omega) (by omega) (by omega), acc]
    exact E.2.2.2.2.2.2.2.2.2.1 f p
  · rw [lo 120 0 (by omega) (by omega) (by omega)]
    exact E.out
  · rw [lo 4 k (by omega) (by omega) (by omega)]
    exact O.1 k hk
  · rw [lo 6 x (by omega) (by omega) (by omega), lo 6 y (by omega) (by omega) (by omega)]
    exact O.2.1 x y hx hy
  · rw [lo 6 x (by omega) (by omega) (by omega)]
    exact O.2.2 x y hx hy1 hy2
  · exact InvT_at (t := t) T ha acc (lo 1 0 (by omega) (by omega) (by omega)) (fun t2 f e hf => hoff f t2 (by omega)) (fun t2 j e => lo _ j (by omega) (by omega) (by omega)) (oneT_of (lo 1 0 (by omega) (by omega) (by omega)) (lo 22 t (by omega) (by omega) (by omega)) (lo 23 t (by omega) (by omega) (by omega)) e26 e27 e28 (lo 30 t (by omega) (by omega) (by omega)) (lo 32 t (by omega) (by omega) (by omega)) (fun j => lo _ j (by omega) (by omega) (by omega)) hone)
  · by_cases e : t2 = t
    · subst e
      rw [e27]
      exact h27
    · have I' : Inv cO cF cI s := ⟨⟨n1, n2, n3, n4, n5, n6, D, n7, n8⟩, E, O, T⟩
      obtain ⟨e0, h1, h2⟩ := (I'.one ha2).d27
      rw [hoff 27 t2 (by omega)]
      exact ⟨⟨e0, e0, h1, h1, Nat.le_refl _, h2⟩, fun _ => rfl⟩
theorem c_released {M : hM} {s : hσ} (R : Rep M A s τ) (I : Inv cO cF cI s) {t n : Nat} (ha : accS s cF t = true) (h26 : ¬ s 26 t = 0) (hn : n ≤ 100) (Q : hM → Int32 → Prop) (k : ∀ (M' : hM) (s' : hσ) (r : Int32), (r = 0 ∨ r = 1) → Rep M' A s' τ → Inv cO cF cI s' → PR cF s s' → Q M' r) : wX0_isReleasedAfter M (A 7 t) (nI n) Q := by
  have E := I.2.1
  have h112 := E.a ha
  obtain ⟨o1, o2, o3, o4, o5, o6, o7, ⟨e, m, d1, d2, d3, d4⟩, ⟨l, l1, l2⟩, o10, o11⟩ := I.one ha
  have h22 : s 22 t ≠ 1 := fun z => h26 (o4 z)
  unfold wX0_isReleasedAfter
  simp only [↓rd0e R h112, ↓(fun (g : Int32 → Prop) => oex (c_daysLeft R h112) g)]
  by_cases c1 : s 22 t = 2
  · rw [if_pos c1, if_pos c1]
    have ex : (60 : Int32) - s 28 t = nI (60 - l) := by
      rw [l2, show (60 : Int32) = nI 60 from rfl, pk_sub l1]
    rw [ex, min_nI (by omega) (by omega), l2, nI_add]
    obtain ⟨M1, e1, R1⟩ := wr0_9 R h112 (nI (l + min n (60 - l)))
    rw [oex e1]
    have h112' : sU s 28 t (nI (l + min n (60 - l))) 112 t = 1 := by
      rw [sU_ne (by decide)]
      exact h112
    have fin : ∀ b : Int32, (b = 0 ∨ b = 1) → bX0_isReleasedAfter_53 (A 7 t) Q M1 (some (A 7 t)) b := fun b hb' => by
      obtain ⟨M2, e2, R2⟩ := wr0_7 R1 h112' b hb'
      have h112'' : sU (sU s 28 t (nI (l + min n (60 - l)))) 26 t b 112 t = 1 := by
        rw [sU_ne (by decide)]
        exact h112'
      obtain ⟨I2, P2⟩ := touch I ha (x26 := b) (x27 := s 27 t) (x28 := nI (l + min n (60 - l))) hb' ⟨o1, o2, fun z => absurd c1 z, fun z => absurd z h22, hb', o6, o7, ⟨e, m, d1, d2, d3, d4⟩, ⟨l + min n (60 - l), by omega, rfl⟩, o10, o11⟩ ⟨⟨e, e, d1, d1, Nat.le_refl _, by omega⟩, fun _ => rfl⟩ (s' := sU (sU s 28 t (nI (l + min n (60 - l)))) 26 t b) (by rw [sU_eq]) (by simp (disch := omega) only [sU_ne]) (by rw [sU_ne (by decide), sU_eq]) (fun f i h => by rw [sU_off (by omega), sU_off (by omega)])
      unfold bX0_isReleasedAfter_53
      rw [oex e2]
      simp only [↓rd0e R2 h112'']
      by_cases c : sU (sU s 28 t (nI (l + min n (60 - l)))) 26 t b 26 t = 0
      · rw [if_pos c]
        exact k M2 _ 1 (Or.inr rfl) R2 I2 P2
      · rw [if_neg c]
        exact k M2 _ 0 (Or.inl rfl) R2 I2 P2
    unfold bX0_isReleasedAfter_42
    split
    · exact fin 0 (Or.inl rfl)
    · exact fin 1 (Or.inr rfl)
  · have c0 : s 22 t = 0 := by
      rcases o1 with z | z | z
      · exact z
      · exact absurd z h22
      · exact absurd z c1
    rw [if_neg c1, if_neg c1]
    have ex : ceilS s t - s 27 t = nI (m - e) := by
      rw [ceilS_V, d2, d1, pk_sub d3]
    rw [ex, min_nI (by omega) (by omega), d1, nI_add]
    obtain ⟨M1, e1, R1⟩ := wr0_8 R h112 (nI (e + min n (m - e)))
    rw [oex e1]
    have h112' : sU s 27 t (nI (e + min n (m - e))) 112 t = 1 := by
      rw [sU_ne (by decide)]
      exact h112
    have fin : ∀ b : Int32, (b = 0 ∨ b = 1) → bX0_isReleasedAfter_53 (A 7 t) Q M1 (some (A 7 t)) b := fun b hb' => by
      obtain ⟨M2, e2, R2⟩ := wr0_7 R1 h112' b hb'
      have h112'' : sU (sU s 27 t (nI (e + min n (m - e)))) 26 t b 112 t = 1 := by
        rw [sU_ne (by decide)]
        exact h112'
      obtain ⟨I2, P2⟩ := touch I ha (x26 := b) (x27 := nI (e + min n (m - e))) (x28 := s 28 t) hb' ⟨o1, o2, o3, fun z => absurd z h22, hb', o6, o7, ⟨e + min n (m - e), m, rfl, d2, by omega, d4⟩, ⟨l, l1, l2⟩, o10, o11⟩ ⟨⟨e, e + min n (m - e), d1, rfl, by omega, by omega⟩, fun z => absurd c0 z⟩ (s' := sU (sU s 27 t (nI (e + min n (m - e)))) 26 t b) (by rw [sU_eq]) (by rw [sU_ne (by decide), sU_eq]) (by simp (disch := omega) only [sU_ne]) (fun f i h => by rw [sU_off (by omega), sU_off (by omega)])
      unfold bX0_isReleasedAfter_53
      rw [oex e2]
      simp only [↓rd0e R2 h112'']
      by_cases c : sU (sU s 27 t (nI (e + min n (m - e)))) 26 t b 26 t = 0
      · rw [if_pos c]
        exact k M2 _ 1 (Or.inr rfl) R2 I2 P2
      · rw [if_neg c]
        exact k M2 _ 0 (Or.inl rfl) R2 I2 P2
    unfold bX0_isReleasedAfter_42
    split
    · exact fin 0 (Or.inl rfl)
    · exact fin 1 (Or.inr rfl)
theorem lc_custody {s0 : hσ} {f n : Nat} (hf : f < cF) (hn : n ≤ 100) (Q : hM → Int32 → Prop) (kq : ∀ (M' : hM) (s' : hσ) (c : Nat), c ≤ 8 → Rep M' A s' τ → Inv cO cF cI s' → PR cF s0 s' → Q M' (nI c)) : ∀ fu p (M : hM) (s : hσ) (c : Nat), c ≤ p → Rep M A s τ → Inv cO cF cI s → PR cF s0 s → p ≤ 8 → 8 - p < fu → lX1_passInCustody_14 (A 5 f) Q (nI n) (some (A 6 f)) 8 fu M (nI c) (nI p) := by
  intro fu
  induction fu with
  | zero =>
    intro p M s c hc R I P h1 h2
    omega
  | succ fu ih =>
    intro p M s c hc R I P h1 h2
    have E := I.2.1
    rw [lX1_passInCustody_14]
    by_cases e0 : p < 8
    · have e1 : ¬ 8 ≤ p := by omega
      rw [if_neg (by rw [l8 (by omega)]; exact e1)]
      cases ha : accS s cF (8 * f + p) with
      | false =>
        simp only [↓(fun (g : Option Nat → Prop) => oex (rW_f R E hf e0 ha) g), ↓reduceIte, nI_1]
        exact ih (p + 1) M s c (by omega) R I P (by omega) (by omega)
      | true =>
        simp only [↓(fun (g : Option Nat → Prop) => oex (rW_t R E hf e0 ha) g), snf, ↓reduceIte, ↓rd0e R (E.a ha), nI_1]
        by_cases c1 : s 26 (8 * f + p) = 0
        · rw [if_pos c1]
          exact ih (p + 1) M s c (by omega) R I P (by omega) (by omega)
        · rw [if_neg c1]
          refine c_released R I ha c1 hn _ (fun M1 s1 r hr R1 I1 P1 => ?_)
          rcases hr with rfl | rfl
          · rw [if_pos rfl]
            exact ih (p + 1) M1 s1 c (by omega) R1 I1 (P.tr P1) (by omega) (by omega)
          · rw [if_neg (by decide)]
            exact ih (p + 1) M1 s1 (c + 1) (by omega) R1 I1 (P.tr P1) (by omega) (by omega)
    · have e1 : p = 8 := by omega
      subst e1
      rw [if_pos (by decide)]
      exact kq M s c hc R I P
theorem c_custody {M : hM} {s : hσ} (R : Rep M A s τ) (I : Inv cO cF cI s) {f n : Nat} (hf : f < cF) (hn : n ≤ 100) (Q : hM → Int32 → Prop) (kq : ∀ (M' : hM) (s' : hσ) (c : Nat), c ≤ 8 → Rep M' A s' τ → Inv cO cF cI s' → PR cF s s' → Q M' (nI c)) : wX1_passInCustody M (A 5 f) (nI n) Q := by
  have E := I.2.1
  unfold wX1_passInCustody
  simp (disch := exact E.r hf) only [↓rd1e R (E.f hf), ↓rdLe R]
  exact lc_custody hf hn Q kq 1000 0 M s 0 (by omega) R I (PR.rf I) (by omega) (by omega)
theorem Inv37 {s : hσ} {j : Nat} {x : Int32} (I : Inv cO cF cI s) : Inv cO cF cI (sU s 37 j x) := ⟨InvN_c (by omega) I.1, ExI_c (by omega) I.2.1, InvO_c (by omega) I.2.2.1, InvT_c (by omega) I.2.2.2⟩
theorem PR37 {s0 s : hσ} {x : Int32} (P : PR cF s0 s) : PR cF s0 (sU s 37 5 x) := ⟨fun f i h1 h2 h3 h4 => by rw [sU_off h4]; exact P.1 f i h1 h2 h3 h4, fun t ha => by
  rw [sU_ne (by decide)]
  exact P.2 t ha⟩
theorem lc_pass {s0 : hσ} {n : Nat} (hF6 : cF ≤ 6) (hn : n ≤ 100) (Q : hM → Int32 → Prop) (X : String → hM → Prop) (kq : ∀ (M : hM) (s : hσ) (c : Nat), c ≤ 48 → Rep M A s τ → Inv cO cF cI s → PR cF s0 s → s 37 5 = s0 37 5 + nI c → ∃ x8, gI M 4 6 (some (A 0 0)) = some x8 ∧ ∃ M9, pV M 4 6 (some (A 0 0)) (.int (x8 + nI n)) = some M9 ∧ ∃ x10, gI M9 4 6 (some (A 0 0)) = some x10 ∧ Q M9 x10) : ∀ fu k (M : hM) (s : hσ) (c : Nat), c ≤ 8 * k → Rep M A s τ → Inv cO cF cI s → PR cF s0 s → s 37 5 = s0 37 5 + nI c → k ≤ 6 → 6 - k < fu → lX4_pass_53 (A 0 0) Q X (nI n) (some (A 2 0)) 6 fu M (nI k) := by
  intro fu
  induction fu with
  | zero =>
    intro k M s c hc R I P h37 h1 h2
    omega
  | succ fu ih =>
    intro k M s c hc R I P h37 h1 h2
    have E := I.2.1
    rw [lX4_pass_53]
    by_cases e0 : k < 6
    · have e1 : ¬ 6 ≤ k := by omega
      rw [if_neg (by rw [l6 (by omega)]; exact e1)]
      by_cases hk : k < cF
      · simp only [↓(fun (g : Option Nat → Prop) => oex (rF_t R E e0 hk) g), snf, ↓reduceIte, ↓rd4e R, ↓rd1e R (E.f hk), nI_1]
        refine c_custody R I hk hn _ (fun M1 s1 c1 hc1 R1 I1 P1 => ?_)
        obtain ⟨M2, e2, R2⟩ := wr4_12 R1 (s 37 5 + nI c1)
        rw [oex e2]
        refine ih (k + 1) M2 _ (c + c1) (by omega) R2 (Inv37 I1) (P.tr (PR37 P1)) ?_ (by omega) (by omega)
        rw [sU_eq, h37, Int32.add_assoc, nI_add]
      · simp only [↓(fun (g : Option Nat → Prop) => oex (rF_f R E e0 hk) g), ↓reduceIte, nI_1]
        exact ih (k + 1) M s c (by omega) R I P h37 (by omega) (by omega)
    · have e1 : k = 6 := by omega
      subst e1
      rw [if_pos (by decide)]
      exact kq M s c hc R I P h37
theorem l_pass {M : hM} {s : hσ} (R : Rep M A s τ) (I : Inv cO cF cI s) (p1 : Int32) (Q : hM → Int32 → Prop) (hx : ∀ r, refd r → Q M r) (hq : NX A τ cO cF cI s Q) : wL_pass M (some (A 0 0)) p1 Q := by
  obtain ⟨hO, hO8, hF, hF6, hI, hI4, D, hD, hday⟩ := I.1
  have E := I.2.1
  unfold wL_pass wX4_pass
  simp only [↓rd4e R]
  cases g1 : inR p1 1 100 with
  | false =>
    simp only [↓(fun (g : Int32 → Prop) => oex (in4 p1 1 100) g), g1, ↓reduceIte, bI_f, bI_t, i10, i20, i30, sx, snf, ↓rd4e R]
    exact hx _ (Or.inr (Or.inl rfl))
  | true =>
    have hn : ∃ n, 1 ≤ n ∧ n ≤ 100 ∧ p1 = nI n := by
      obtain ⟨z1, z2⟩ := inR_t.mp g1
      have z0 : ¬ p1 < 0 := fun z => by
        have y1 := Int32.lt_iff_toInt_lt.mp z
        have y2 := Int32.le_iff_toInt_le.mp z1
        rw [show (1 : Int32).toInt = 1 by decide] at y2
        rw [show (0 : Int32).toInt = 0 by decide] at y1
        omega
      obtain ⟨g, hg1, rfl⟩ := nI_of z0
      have k2 := (nI_leI (b := 100) hg1 (by decide)).mp z2
      have k1 := (nI_leI (a := 1) (by decide) hg1).mp z1
      exact ⟨g, k1, k2, rfl⟩
    obtain ⟨n, hn1, hn2, rfl⟩ := hn
    simp only [↓(fun (g : Int32 → Prop) => oex (in4 (nI n) 1 100) g), g1, bI_t, i10, ↓reduceIte, ↓rd4e R, ↓rdLe R]
    by_cases c1 : s 1 0 + nI n ≤ 5000
    · rw [if_pos c1]
      have hDn : D + n ≤ 5000 := by
        rw [hday, nI_add] at c1
        exact (nI_leI (b := 5000) (by omega) (by decide)).mp c1
      refine lc_pass (s0 := s) hF6 hn2 _ _ (fun M1 s1 c hc R1 I1 P1 h37 => ?_) 1000 0 M s 0 (by omega) R I (PR.rf I) (by rw [nI_0, Int32.add_zero]) (by omega) (by omega)
      have d1 : s1 1 0 = nI D := (P1.1 1 0 (by omega) (by omega) (by omega) (by omega)).trans hday
      obtain ⟨M2, e2, R2⟩ := wr4_6 R1 (s1 1 0 + nI n)
      simp only [↓rd4e R1, ↓(fun (g : hM → Prop) => oex e2 g), ↓rd4e R2, sU_eq]
      rw [d1, nI_add]
      rw [d1, nI_add] at R2
      have up : ∀ x : Int32, x ≤ nI D → x ≤ nI (D + n) := fun x hx' => Int32.le_trans hx' ((nI_leI (by omega) (by omega)).mpr (by omega))
      have hI2 : Inv cO cF cI (sU s1 1 0 (nI (D + n))) := by
        obtain ⟨⟨n1, n2, n3, n4, n5, n6, -⟩, E1, O1, T1⟩ := I1
        refine ⟨⟨by rw [sU_ne (by decide)]; exact n1, n2, by rw [sU_ne (by decide)]; exact n3, n4, by rw [sU_ne (by decide)]; exact n5, n6, D + n, hDn, sU_eq _ _ _ _⟩, ExI_c (by omega) E1, InvO_c (by omega) O1, fun t ht => ?_⟩
        rw [accS_c (by omega)]
        obtain ⟨q1, q2⟩ := T1 t ht
        refine ⟨fun q => unb_c (by omega) (q1 q), fun q => ?_⟩
        obtain ⟨o1, o2, o3, o4, o5, o6, o7, o8, o9, o10, o11⟩ := q2 q
        refine oneT_of (day := nI (D + n)) (sU_eq _ _ _ _) (sU_ne (by decide)) (sU_ne (by decide)) (sU_ne (by decide)) (sU_ne (by decide)) (sU_ne (by decide)) (sU_ne (by decide)) (sU_ne (by decide)) (fun j => sU_ne (by omega)) ⟨o1, o2, o3, o4, o5, o6, o7, o8, o9, o10, fun j hj => ?_⟩
        rcases o11 j hj with z | z
        · exact Or.inl z
        · right
          rw [d1] at z
          exact up _ z
      have lo : ∀ f i, f ≠ 1 → f ≠ 26 → f ≠ 27 → f ≠ 28 → f ≠ 37 → sU s1 1 0 (nI (D + n)) f i = s f i := fun f i h1 h2 h3 h4 h5 => by
        rw [sU_ne h1]
        exact P1.1 f i h2 h3 h4 (by omega)
      refine hq M2 _ _ (nI_nref (by omega)) (nI_n9 (by omega)) R2 hI2 (Evo.mk' (Nat.le_refl _) (by rw [sU_eq, hday]; exact up _ (Int32.le_refl _)) (fun f i hf => lo f i (by omega) (by omega) (by omega) (by omega) (by omega)) (fun k hk => ?_) (fun t e d _ => ?_) (fun t k d _ => ?_) (fun t k ht ha q => ?_) (fun t _ _ j _ q => by rw [lo 32 t (by omega) (by omega) (by omega) (by omega) (by omega)]; exact q) (fun t ht ha => ⟨?_, fun _ q => ?_⟩)) (fun i => lo 9 i (by omega) (by omega) (by omega) (by omega) (by omega))
      · rw [sU_ne (by decide)]
        by_cases k5 : k = 5
        · subst k5
          exact ⟨c, by omega, h37⟩
        · exact ⟨0, by omega, by rw [P1.1 37 k (by omega) (by omega) (by omega) (by omega), nI_0, Int32.add_zero]⟩
      · have l2 : ∀ f, 12 ≤ f ∧ f ≤ 19 → sU s1 1 0 (nI (D + n)) f = s f := fun f hf => funext fun i => lo f i (by omega) (by omega) (by omega) (by omega) (by omega)
        unfold strS stG
        rw [l2 12 (by omega), l2 13 (by omega), l2 14 (by omega), l2 15 (by omega), l2 16 (by omega), l2 18 (by omega), l2 19 (by omega)]
      · unfold spS ovS hadS
        rw [show sU s1 1 0 (nI (D + n)) 3 = s 3 from funext fun i => lo 3 i (by omega) (by omega) (by omega) (by omega) (by omega), show sU s1 1 0 (nI (D + n)) (1001 + 2 * t) = s (1001 + 2 * t) from funext fun i => lo _ i (by omega) (by omega) (by omega) (by omega) (by omega)]
      · obtain ⟨j, hj, q2⟩ := exN_iff.mp q
        refine exN_iff.mpr ⟨j, hj, ?_⟩
        unfold ovS hadS at *
        rw [lo 3 k (by omega) (by omega) (by omega) (by omega) (by omega), lo 3 j (by omega) (by omega) (by omega) (by omega) (by omega), lo (1001 + 2 * t) j (by omega) (by omega) (by omega) (by omega) (by omega), sU_eq]
        simp only [Bool.and_eq_true, decide_eq_true_eq] at q2 ⊢
        rw [hday] at q2
        exact ⟨q2.1, q2.2.1, up _ q2.2.2⟩
      · rw [sU_ne (by decide)]
        exact (P1.2 t ha).1
      · rw [sU_ne (by decide)]
        exact (P1.2 t ha).2 q
    · rw [if_neg c1]
      simp only [sx, ↓reduceIte]
      exact hx _ (Or.inr (Or.inr rfl))
end PASS
