/-! ===== the law's cases that ask ===== -/
section ASK
variable {n : Nat} {M : hM} {x m out : Nat} {p1 p2 p3 p4 p5 p6 : Int32}
theorem case_16 (J : INV n M x m out) : lw_16 M x m out p1 p2 p3 p4 p5 p6 (fun M' => INV (n + 1) M' x m out) := by
  obtain ⟨A, σ, w, cO, cF, cI, cS, ⟨rfl, rfl, rfl⟩, R, I, hn⟩ := J
  unfold lw_16 wX5_day fX4_day
  obtain ⟨M1, e1, R1⟩ := wr5_0 R 0
  have hd : fX4_day M (A 0 0) = some (σ 1 0) := by
    unfold fX4_day
    simp only [↓rd4b R]
  have hd' := hd
  unfold fX4_day at hd'
  simp only [↓rd4e R, ↓rd5e R, ↓(fun (g : Int32 → Prop) => oex hd' g), ↓(fun (g : hM → Prop) => oex e1 g), ↓rd5e R1]
  rw [if_pos (by rw [sU_ne (by decide)])]
  exact INV.same R1 I hn
theorem case_17 (J : INV n M x m out) : lw_17 M x m out p1 p2 p3 p4 p5 p6 (fun M' => INV (n + 1) M' x m out) := by
  obtain ⟨A, σ, w, cO, cF, cI, cS, ⟨rfl, rfl, rfl⟩, R, I, hn⟩ := J
  obtain ⟨hO, hO8, hF, hF6, hI, hI4, hSn, hS6, D, hD, hday⟩ := I.1
  have E := I.2.1
  unfold lw_17 wL_nests wX4_nests wX5_nests
  simp only [bX5_nests_20, bX5_nests_21, bX5_nests_32]
  simp only [↓rd4e R]
  by_cases h1 : ∃ a, a < cO ∧ p1 = nI a
  · have q1 : inR p1 0 (σ 2 0 - 1) = true := by
      rw [hO]
      obtain ⟨a, ha, e⟩ := h1
      exact (inR_pre (by omega)).mpr ⟨a, ha, e⟩
    by_cases h2 : ∃ b, b < cO ∧ p2 = nI b
    · have q2 : inR p2 0 (σ 2 0 - 1) = true := by
        rw [hO]
        obtain ⟨b, hb', e⟩ := h2
        exact (inR_pre (by omega)).mpr ⟨b, hb', e⟩
      obtain ⟨a, ha, rfl⟩ := h1
      obtain ⟨b, hb', rfl⟩ := h2
      cases c0 : nestS σ a b with
      | false =>
        simp only [↓(fun (g : Option Nat → Prop) => oex (c_offenceAt_t R E (show a < 8 by omega) ha) g), ↓(fun (g : Option Nat → Prop) => oex (c_offenceAt_t R E (show b < 8 by omega) hb') g), ↓rd3e R (E.o ha), ↓(fun (g : Int32 → Prop) => oex (c_nestsIn R (E.o ha) (E.o hb')) g), c0, bI_b, true_or, or_true, true_and, eq_self, ↓reduceIte, bI_f, bI_t, i10, i20, i30, sx, snf, ↓rd4e R]
        obtain ⟨M2, e2, R2⟩ := wrJ R E.out 0
        refine ⟨M2, e2, ?_⟩
        have J2 := I.thr 0
        obtain ⟨M3, e3, R3⟩ := m_ref R2 0
        simp only [q1, q2, ↓(fun (z : Int32) (g : Int32 → Prop) => oex (m_isOffence R2 z) g), ↓reduceIte, bI_f, bI_t, i10, i20, i30, sx, snf, ↓rd5e R2, e3, ↓rd5e R3]
        simp (disch := omega) only [↓rdAe R3]
        simp (disch := decide) only [sU_ne]
        by_cases c1 : σ 3 a = σ 3 b
        · rw [if_pos c1]
          exact endZ0 R3 E.out (sU_eq _ _ _ _) rfl (INV.same R3 I hn)
        · have c2 : ¬ σ 3 a &&& (σ 3 b ^^^ (-1)) = 0 := fun z => by
            unfold nestS at c0
            rw [decide_eq_true c1, decide_eq_true z] at c0
            cases c0
          rw [if_neg c1, if_neg c2]
          exact endZ0 R3 E.out (sU_eq _ _ _ _) rfl (INV.same R3 I hn)
      | true =>
        simp only [↓(fun (g : Option Nat → Prop) => oex (c_offenceAt_t R E (show a < 8 by omega) ha) g), ↓(fun (g : Option Nat → Prop) => oex (c_offenceAt_t R E (show b < 8 by omega) hb') g), ↓rd3e R (E.o ha), ↓(fun (g : Int32 → Prop) => oex (c_nestsIn R (E.o ha) (E.o hb')) g), c0, bI_b, true_or, or_true, true_and, eq_self, ↓reduceIte, bI_f, bI_t, i10, i20, i30, sx, snf, ↓rd4e R]
        obtain ⟨M2, e2, R2⟩ := wrJ R E.out 1
        refine ⟨M2, e2, ?_⟩
        have J2 := I.thr 0
        obtain ⟨M3, e3, R3⟩ := m_ref R2 0
        simp only [q1, q2, ↓(fun (z : Int32) (g : Int32 → Prop) => oex (m_isOffence R2 z) g), ↓reduceIte, bI_f, bI_t, i10, i20, i30, sx, snf, ↓rd5e R2, e3, ↓rd5e R3]
        simp (disch := omega) only [↓rdAe R3]
        simp (disch := decide) only [sU_ne]
        unfold nestS at c0
        rw [Bool.and_eq_true, decide_eq_true_eq, decide_eq_true_eq] at c0
        rw [if_neg c0.1, if_pos c0.2]
        exact endZ0 R3 E.out (sU_eq _ _ _ _) rfl (INV.same R3 I hn)
    · have q2 : inR p2 0 (σ 2 0 - 1) = false := by
        rw [hO, ← Bool.not_eq_true, inR_pre (by omega)]
        exact h2
      obtain ⟨a, ha, rfl⟩ := h1
      obtain ⟨M3, e3, R3⟩ := m_ref R 1
      simp only [↓(fun (g : Option Nat → Prop) => oex (c_offenceAt_t R E (show a < 8 by omega) ha) g), ↓(fun (g : Option Nat → Prop) => oex (c_offenceAt_f R E h2) g), q1, q2, ↓(fun (z : Int32) (g : Int32 → Prop) => oex (m_isOffence R z) g), ↓reduceIte, bI_f, bI_t, i10, i20, i30, sx, snf, ↓rd4e R, ↓rd5e R, e3, ↓rd5e R3]
      exact endF R3 (sU_eq _ _ _ _) (INV.same R3 I hn)
  · have q1 : inR p1 0 (σ 2 0 - 1) = false := by
      rw [hO, ← Bool.not_eq_true, inR_pre (by omega)]
      exact h1
    have hx : ∃ r, fX4_offenceAt M (A 0 0) p2 = some r := by
      by_cases h2 : ∃ b, b < cO ∧ p2 = nI b
      · obtain ⟨b, hb', rfl⟩ := h2
        exact ⟨_, c_offenceAt_t R E (show b < 8 by omega) hb'⟩
      · exact ⟨_, c_offenceAt_f R E h2⟩
    obtain ⟨r, hr⟩ := hx
    obtain ⟨M3, e3, R3⟩ := m_ref R 1
    simp only [↓(fun (g : Option Nat → Prop) => oex (c_offenceAt_f R E h1) g), ↓(fun (g : Option Nat → Prop) => oex (hr) g), q1, ↓(fun (z : Int32) (g : Int32 → Prop) => oex (m_isOffence R z) g), ↓reduceIte, bI_f, bI_t, i10, i20, i30, sx, snf, ↓rd4e R, ↓rd5e R, e3, ↓rd5e R3]
    exact endF R3 (sU_eq _ _ _ _) (INV.same R3 I hn)
theorem case_18 (J : INV n M x m out) : lw_18 M x m out p1 p2 p3 p4 p5 p6 (fun M' => INV (n + 1) M' x m out) := by
  obtain ⟨A, σ, w, cO, cF, cI, cS, ⟨rfl, rfl, rfl⟩, R, I, hn⟩ := J
  obtain ⟨hO, hO8, hF, hF6, hI, hI4, hSn, hS6, D, hD, hday⟩ := I.1
  have E := I.2.1
  unfold lw_18 wL_strength wX4_strength wX5_strength
  simp only [bX5_strength_23, bX5_strength_24, bX5_strength_54]
  simp only [↓rd4e R]
  by_cases h : isinP σ cF p1 p2
  · have hh := h
    obtain ⟨f, p, rfl, rfl, hf, hp, ha⟩ := isin_acc h
    have ht := acc48 I ha
    rw [c_acc_t R E hF6 hf hp ha]
    try simp only [m8]
    cases g3 : inR p3 0 9 with
    | false =>
      obtain ⟨M3, e3, R3⟩ := m_ref R 1
      simp only [g3, ↓(fun (g : Int32 → Prop) => oex (in4 p3 0 9) g), ↓(fun (g : Int32 → Prop) => oex (in5 p3 0 9) g), ↓(fun (g : Int32 → Prop) => oex (m_isIn_t R hF hF6 h) g), ↓reduceIte, bI_f, bI_t, i10, i20, i30, sx, snf, ↓rd4e R, ↓rd5e R, e3, ↓rd5e R3]
      exact endF R3 (sU_eq _ _ _ _) (INV.same R3 I hn)
    | true =>
      cases g4 : inR p4 0 (σ 1 0) with
      | false =>
        obtain ⟨M3, e3, R3⟩ := m_ref R 2
        simp only [g3, g4, ↓(fun (g : Int32 → Prop) => oex (in4 p3 0 9) g), ↓(fun (g : Int32 → Prop) => oex (in5 p3 0 9) g), ↓(fun (g : Int32 → Prop) => oex (in5 p4 0 (σ 1 0)) g), ↓(fun (g : Int32 → Prop) => oex (m_isIn_t R hF hF6 h) g), c_checkDay R, Bool.false_eq_true, ↓reduceIte, bI_f, bI_t, i10, i20, i30, sx, snf, ↓rd4e R, ↓rd5e R, e3, ↓rd5e R3]
        exact endF R3 (sU_eq _ _ _ _) (INV.same R3 I hn)
      | true =>
        simp only [g3, g4, ↓(fun (g : Int32 → Prop) => oex (in4 p3 0 9) g), c_checkDay R, ↓(fun (g : Int32 → Prop) => oex (c_strength R E ha p3 p4) g), ↓reduceIte, bI_f, bI_t, i10, i20, i30, sx, snf, ↓rd4e R]
        obtain ⟨M2, e2, R2⟩ := wrJ R E.out (strS σ cI (8 * f + p) p3 p4).toInt64
        refine ⟨M2, e2, ?_⟩
        have J2 := I.thr 0
        obtain ⟨M3, e3, R3⟩ := m_ref R2 0
        simp only [g3, g4, ↓(fun (g : Int32 → Prop) => oex (in5 p3 0 9) g), ↓(fun (g : Int32 → Prop) => oex (in5 p4 0 (σ 1 0)) g), ↓(fun (g : Int32 → Prop) => oex (m_isIn_t R2 hF hF6 h) g), ↓(fun (g : Int32 → Prop) => oex (m_strengthOf R3 J2.1.2.2.2.2.1 hI4 ht p3 p4) g), ↓reduceIte, bI_f, bI_t, i10, i20, i30, sx, snf, ↓rd5e R2, e3, ↓rd5e R3]
        refine endI0 R3 E.out (sU_eq _ _ _ _) ?_ (INV.same R3 I hn)
        rw [strS_c (by omega)]
        rfl
  · rw [c_acc_f R E hF6 h]
    obtain ⟨M3, e3, R3⟩ := m_ref R 1
    simp only [↓(fun (g : Int32 → Prop) => oex (m_isIn_f R hF hF6 h) g), ↓reduceIte, bI_f, bI_t, i10, i20, i30, sx, snf, ↓rd4e R, ↓rd5e R, e3, ↓rd5e R3]
    exact endF R3 (sU_eq _ _ _ _) (INV.same R3 I hn)
theorem case_19 (J : INV n M x m out) : lw_19 M x m out p1 p2 p3 p4 p5 p6 (fun M' => INV (n + 1) M' x m out) := by
  obtain ⟨A, σ, w, cO, cF, cI, cS, ⟨rfl, rfl, rfl⟩, R, I, hn⟩ := J
  obtain ⟨hO, hO8, hF, hF6, hI, hI4, hSn, hS6, D, hD, hday⟩ := I.1
  have E := I.2.1
  unfold lw_19 wL_whyNot wX4_whyNot wX5_whyNot
  simp only [bX5_whyNot_21, bX5_whyNot_22, bX5_whyNot_52]
  simp only [↓rd4e R]
  by_cases h : isinP σ cF p1 p2
  · have hh := h
    obtain ⟨f, p, rfl, rfl, hf, hp, ha⟩ := isin_acc h
    have ht := acc48 I ha
    rw [c_acc_t R E hF6 hf hp ha]
    try simp only [m8]
    by_cases h3 : ∃ k, k < cO ∧ p3 = nI k
    · have q3 : inR p3 0 (σ 2 0 - 1) = true := by
        rw [hO]
        obtain ⟨a, ha, e⟩ := h3
        exact (inR_pre (by omega)).mpr ⟨a, ha, e⟩
      obtain ⟨k, hk, rfl⟩ := h3
      cases g4 : inR p4 0 (σ 1 0) with
      | false =>
        obtain ⟨M3, e3, R3⟩ := m_ref R 2
        simp only [q3, g4, ↓(fun (g : Option Nat → Prop) => oex (c_offenceAt_t R E (show k < 8 by omega) hk) g), ↓(fun (g : Int32 → Prop) => oex (m_isOffence R (nI k)) g), ↓(fun (g : Int32 → Prop) => oex (in5 p4 0 (σ 1 0)) g), ↓(fun (g : Int32 → Prop) => oex (m_isIn_t R hF hF6 h) g), c_checkDay R, Bool.false_eq_true, ↓reduceIte, bI_f, bI_t, i10, i20, i30, sx, snf, ↓rd4e R, ↓rd5e R, e3, ↓rd5e R3]
        exact endF R3 (sU_eq _ _ _ _) (INV.same R3 I hn)
      | true =>
        simp only [g4, ↓(fun (g : Option Nat → Prop) => oex (c_offenceAt_t R E (show k < 8 by omega) hk) g), c_checkDay R, ↓(fun (g : Int32 → Prop) => oex (c_hindrance R E hO8 ha hk p4) g), ↓reduceIte, bI_f, bI_t, i10, i20, i30, sx, snf, ↓rd4e R]
        obtain ⟨M2, e2, R2⟩ := wrJ R E.out (whyS σ cO cI (8 * f + p) k p4).toInt64
        refine ⟨M2, e2, ?_⟩
        have J2 := I.thr 0
        obtain ⟨M3, e3, R3⟩ := m_ref R2 0
        simp only [q3, g4, ↓(fun (g : Int32 → Prop) => oex (m_isOffence R2 (nI k)) g), ↓(fun (g : Int32 → Prop) => oex (in5 p4 0 (σ 1 0)) g), ↓(fun (g : Int32 → Prop) => oex (m_isIn_t R2 hF hF6 h) g), ↓(fun (g : Int32 → Prop) => oex (i_why R3 J2 (t := 8 * f + p) (k := k) (by rw [accS_c (by omega)]; exact ha) hk p4) g), ↓reduceIte, bI_f, bI_t, i10, i20, i30, sx, snf, ↓rd5e R2, e3, ↓rd5e R3]
        refine endI0 R3 E.out (sU_eq _ _ _ _) ?_ (INV.same R3 I hn)
        rw [whyS_c (by omega)]
        rfl
    · have q3 : inR p3 0 (σ 2 0 - 1) = false := by
        rw [hO, ← Bool.not_eq_true, inR_pre (by omega)]
        exact h3
      obtain ⟨M3, e3, R3⟩ := m_ref R 1
      simp only [q3, ↓(fun (g : Option Nat → Prop) => oex (c_offenceAt_f R E h3) g), ↓(fun (g : Int32 → Prop) => oex (m_isOffence R p3) g), ↓(fun (g : Int32 → Prop) => oex (m_isIn_t R hF hF6 h) g), ↓reduceIte, bI_f, bI_t, i10, i20, i30, sx, snf, ↓rd4e R, ↓rd5e R, e3, ↓rd5e R3]
      exact endF R3 (sU_eq _ _ _ _) (INV.same R3 I hn)
  · rw [c_acc_f R E hF6 h]
    obtain ⟨M3, e3, R3⟩ := m_ref R 1
    simp only [↓(fun (g : Int32 → Prop) => oex (m_isIn_f R hF hF6 h) g), ↓reduceIte, bI_f, bI_t, i10, i20, i30, sx, snf, ↓rd4e R, ↓rd5e R, e3, ↓rd5e R3]
    exact endF R3 (sU_eq _ _ _ _) (INV.same R3 I hn)
theorem case_20 (J : INV n M x m out) : lw_20 M x m out p1 p2 p3 p4 p5 p6 (fun M' => INV (n + 1) M' x m out) := by
  obtain ⟨A, σ, w, cO, cF, cI, cS, ⟨rfl, rfl, rfl⟩, R, I, hn⟩ := J
  obtain ⟨hO, hO8, hF, hF6, hI, hI4, hSn, hS6, D, hD, hday⟩ := I.1
  have E := I.2.1
  unfold lw_20 wL_best wX4_best wX5_best
  simp only [bX5_best_31]
  simp only [↓rd4e R]
  by_cases h : isinP σ cF p1 p2
  · have hh := h
    obtain ⟨f, p, rfl, rfl, hf, hp, ha⟩ := isin_acc h
    have ht := acc48 I ha
    rw [c_acc_t R E hF6 hf hp ha]
    try simp only [m8]
    cases g4 : inR p3 0 (σ 1 0) with
    | false =>
      obtain ⟨M3, e3, R3⟩ := m_ref R 2
      simp only [g4, ↓(fun (g : Int32 → Prop) => oex (in5 p3 0 (σ 1 0)) g), ↓(fun (g : Int32 → Prop) => oex (m_isIn_t R hF hF6 h) g), c_checkDay R, Bool.false_eq_true, ↓reduceIte, bI_f, bI_t, i10, i20, i30, sx, snf, ↓rd4e R, ↓rd5e R, e3, ↓rd5e R3]
      exact endF R3 (sU_eq _ _ _ _) (INV.same R3 I hn)
    | true =>
      obtain ⟨hg, hgr⟩ := I.hG
      obtain ⟨r, hr, er, ur⟩ := c_growing R E hgr (canB σ cO cI (8 * f + p) p3)
      have er2 : fX4_bestByGrowing M (A 0 0) (canS σ cO cI (8 * f + p) p3) = some (nI r) := er
      simp only [g4, c_checkDay R, ↓(fun (g : Int32 → Prop) => oex (c_chargeable R E hO8 ha p3) g), ↓(fun (g : Int32 → Prop) => oex (er2) g), ↓reduceIte, bI_f, bI_t, i10, i20, i30, sx, snf, ↓rd4e R]
      obtain ⟨M2, e2, R2⟩ := wrJ R E.out (nI r).toInt64
      refine ⟨M2, e2, ?_⟩
      have J2 := I.thr 0
      obtain ⟨M3, e3, R3⟩ := m_ref R2 0
      have ha2 : accS (sU σ 0 0 0) cF (8 * f + p) = true := by rw [accS_c (by omega)]; exact ha
      have hgr2 : ∀ n, heavS (sU σ 0 0 0) cO (nI n) = nI (hg n) ∧ hg n < 1000 := fun n => by rw [heavS_c (by omega)]; exact hgr n
      obtain ⟨r2, hr2, er3, ur2⟩ := m_bestOf R3 J2.1.1 hO8 (cI := cI) (t := 8 * f + p) p3 (fun k hk => i_why R3 J2 ha2 hk p3) J2.hS hgr2
      rw [canB_c (by omega), mateB_c (by omega)] at ur2
      have e9 : r = r2 := (ur.iff fun n => (grow_iff (mateB_sym I.hS) n).symm).uniq ur2 hr hr2
      subst e9
      simp only [g4, ↓(fun (g : Int32 → Prop) => oex (in5 p3 0 (σ 1 0)) g), ↓(fun (g : Int32 → Prop) => oex (m_isIn_t R2 hF hF6 h) g), ↓(fun (g : Int32 → Prop) => oex (er3) g), ↓reduceIte, bI_f, bI_t, i10, i20, i30, sx, snf, ↓rd5e R2, e3, ↓rd5e R3]
      exact endI0 R3 E.out (sU_eq _ _ _ _) rfl (INV.same R3 I hn)
  · rw [c_acc_f R E hF6 h]
    obtain ⟨M3, e3, R3⟩ := m_ref R 1
    simp only [↓(fun (g : Int32 → Prop) => oex (m_isIn_f R hF hF6 h) g), ↓reduceIte, bI_f, bI_t, i10, i20, i30, sx, snf, ↓rd4e R, ↓rd5e R, e3, ↓rd5e R3]
    exact endF R3 (sU_eq _ _ _ _) (INV.same R3 I hn)
theorem case_21 (J : INV n M x m out) : lw_21 M x m out p1 p2 p3 p4 p5 p6 (fun M' => INV (n + 1) M' x m out) := by
  obtain ⟨A, σ, w, cO, cF, cI, cS, ⟨rfl, rfl, rfl⟩, R, I, hn⟩ := J
  obtain ⟨hO, hO8, hF, hF6, hI, hI4, hSn, hS6, D, hD, hday⟩ := I.1
  have E := I.2.1
  unfold lw_21 wL_bestAnew wX4_bestAnew wX5_bestAnew wX5_best
  simp only [bX5_best_31]
  simp only [↓rd4e R]
  by_cases h : isinP σ cF p1 p2
  · have hh := h
    obtain ⟨f, p, rfl, rfl, hf, hp, ha⟩ := isin_acc h
    have ht := acc48 I ha
    rw [c_acc_t R E hF6 hf hp ha]
    try simp only [m8]
    cases g4 : inR p3 0 (σ 1 0) with
    | false =>
      obtain ⟨M3, e3, R3⟩ := m_ref R 2
      simp only [g4, ↓(fun (g : Int32 → Prop) => oex (in5 p3 0 (σ 1 0)) g), ↓(fun (g : Int32 → Prop) => oex (m_isIn_t R hF hF6 h) g), c_checkDay R, Bool.false_eq_true, ↓reduceIte, bI_f, bI_t, i10, i20, i30, sx, snf, ↓rd4e R, ↓rd5e R, e3, ↓rd5e R3]
      exact endF R3 (sU_eq _ _ _ _) (INV.same R3 I hn)
    | true =>
      obtain ⟨hg, hgr⟩ := I.hG
      obtain ⟨r, hr, er, ur⟩ := c_allsets R E hgr (canB σ cO cI (8 * f + p) p3)
      have er2 : fX4_bestOfAllSets M (A 0 0) (canS σ cO cI (8 * f + p) p3) = some (nI r) := er
      simp only [g4, c_checkDay R, ↓(fun (g : Int32 → Prop) => oex (c_chargeable R E hO8 ha p3) g), ↓(fun (g : Int32 → Prop) => oex (er2) g), ↓reduceIte, bI_f, bI_t, i10, i20, i30, sx, snf, ↓rd4e R]
      obtain ⟨M2, e2, R2⟩ := wrJ R E.out (nI r).toInt64
      refine ⟨M2, e2, ?_⟩
      have J2 := I.thr 0
      obtain ⟨M3, e3, R3⟩ := m_ref R2 0
      have ha2 : accS (sU σ 0 0 0) cF (8 * f + p) = true := by rw [accS_c (by omega)]; exact ha
      have hgr2 : ∀ n, heavS (sU σ 0 0 0) cO (nI n) = nI (hg n) ∧ hg n < 1000 := fun n => by rw [heavS_c (by omega)]; exact hgr n
      obtain ⟨r2, hr2, er3, ur2⟩ := m_bestOf R3 J2.1.1 hO8 (cI := cI) (t := 8 * f + p) p3 (fun k hk => i_why R3 J2 ha2 hk p3) J2.hS hgr2
      rw [canB_c (by omega), mateB_c (by omega)] at ur2
      have e9 : r = r2 := ur.uniq ur2 hr hr2
      subst e9
      simp only [g4, ↓(fun (g : Int32 → Prop) => oex (in5 p3 0 (σ 1 0)) g), ↓(fun (g : Int32 → Prop) => oex (m_isIn_t R2 hF hF6 h) g), ↓(fun (g : Int32 → Prop) => oex (er3) g), ↓reduceIte, bI_f, bI_t, i10, i20, i30, sx, snf, ↓rd5e R2, e3, ↓rd5e R3]
      exact endI0 R3 E.out (sU_eq _ _ _ _) rfl (INV.same R3 I hn)
  · rw [c_acc_f R E hF6 h]
    obtain ⟨M3, e3, R3⟩ := m_ref R 1
    simp only [↓(fun (g : Int32 → Prop) => oex (m_isIn_f R hF hF6 h) g), ↓reduceIte, bI_f, bI_t, i10, i20, i30, sx, snf, ↓rd4e R, ↓rd5e R, e3, ↓rd5e R3]
    exact endF R3 (sU_eq _ _ _ _) (INV.same R3 I hn)
theorem case_22 (J : INV n M x m out) : lw_22 M x m out p1 p2 p3 p4 p5 p6 (fun M' => INV (n + 1) M' x m out) := by
  obtain ⟨A, σ, w, cO, cF, cI, cS, ⟨rfl, rfl, rfl⟩, R, I, hn⟩ := J
  obtain ⟨hO, hO8, hF, hF6, hI, hI4, hSn, hS6, D, hD, hday⟩ := I.1
  have E := I.2.1
  unfold lw_22 wL_lacks wX4_lacks wX5_lacks
  simp only [bX5_lacks_15]
  simp only [↓rd4e R]
  by_cases h : isinP σ cF p1 p2
  · have hh := h
    obtain ⟨f, p, rfl, rfl, hf, hp, ha⟩ := isin_acc h
    have ht := acc48 I ha
    rw [c_acc_t R E hF6 hf hp ha]
    try simp only [m8]
    simp only [↓rd0e R (E.a ha), ↓rd1e R (E.f (accS_f ha)), ↓(fun (a b : Int32) (g : Int32 → Prop) => oex (c_lackedBy R E a b) g), ↓reduceIte, bI_f, bI_t, i10, i20, i30, sx, snf, ↓rd4e R]
    obtain ⟨M2, e2, R2⟩ := wrJ R E.out (lackS σ cI (nI ((8 * f + p) / 8)) (nI ((8 * f + p) % 8))).toInt64
    refine ⟨M2, e2, ?_⟩
    have J2 := I.thr 0
    obtain ⟨M3, e3, R3⟩ := m_ref R2 0
    simp only [↓(fun (g : Int32 → Prop) => oex (m_isIn_t R2 hF hF6 h) g), ↓(fun (a b : Int32) (g : Int32 → Prop) => oex (m_lacking R3 (c := cI) (by rw [sU_ne (by decide)]; exact hI) hI4 a b) g), ↓reduceIte, bI_f, bI_t, i10, i20, i30, sx, snf, ↓rd5e R2, e3, ↓rd5e R3]
    refine endI0 R3 E.out (sU_eq _ _ _ _) ?_ (INV.same R3 I hn)
    rw [lackS_c (by omega), show (8 * f + p) / 8 = f by omega, show (8 * f + p) % 8 = p by omega]
    rfl
  · rw [c_acc_f R E hF6 h]
    obtain ⟨M3, e3, R3⟩ := m_ref R 1
    simp only [↓(fun (g : Int32 → Prop) => oex (m_isIn_f R hF hF6 h) g), ↓reduceIte, bI_f, bI_t, i10, i20, i30, sx, snf, ↓rd4e R, ↓rd5e R, e3, ↓rd5e R3]
    exact endF R3 (sU_eq _ _ _ _) (INV.same R3 I hn)
theorem sN0 : (nI 0 = (0 : Int32)) = True ∧ (nI 0 = (1 : Int32)) = False ∧ (nI 0 = (2 : Int32)) = False ∧ (nI 0 = (3 : Int32)) = False ∧ (nI 0 = (4 : Int32)) = False ∧ (nI 0 = (5 : Int32)) = False ∧ (nI 0 = (6 : Int32)) = False ∧ (nI 0 = (7 : Int32)) = False := ⟨eq_true (by decide), eq_false (by decide), eq_false (by decide), eq_false (by decide), eq_false (by decide), eq_false (by decide), eq_false (by decide), eq_false (by decide)⟩
theorem sN1 : (nI 1 = (0 : Int32)) = False ∧ (nI 1 = (1 : Int32)) = True ∧ (nI 1 = (2 : Int32)) = False ∧ (nI 1 = (3 : Int32)) = False ∧ (nI 1 = (4 : Int32)) = False ∧ (nI 1 = (5 : Int32)) = False ∧ (nI 1 = (6 : Int32)) = False ∧ (nI 1 = (7 : Int32)) = False := ⟨eq_false (by decide), eq_true (by decide), eq_false (by decide), eq_false (by decide), eq_false (by decide), eq_false (by decide), eq_false (by decide), eq_false (by decide)⟩
theorem sN2 : (nI 2 = (0 : Int32)) = False ∧ (nI 2 = (1 : Int32)) = False ∧ (nI 2 = (2 : Int32)) = True ∧ (nI 2 = (3 : Int32)) = False ∧ (nI 2 = (4 : Int32)) = False ∧ (nI 2 = (5 : Int32)) = False ∧ (nI 2 = (6 : Int32)) = False ∧ (nI 2 = (7 : Int32)) = False := ⟨eq_false (by decide), eq_false (by decide), eq_true (by decide), eq_false (by decide), eq_false (by decide), eq_false (by decide), eq_false (by decide), eq_false (by decide)⟩
theorem sN3 : (nI 3 = (0 : Int32)) = False ∧ (nI 3 = (1 : Int32)) = False ∧ (nI 3 = (2 : Int32)) = False ∧ (nI 3 = (3 : Int32)) = True ∧ (nI 3 = (4 : Int32)) = False ∧ (nI 3 = (5 : Int32)) = False ∧ (nI 3 = (6 : Int32)) = False ∧ (nI 3 = (7 : Int32)) = False := ⟨eq_false (by decide), eq_false (by decide), eq_false (by decide), eq_true (by decide), eq_false (by decide), eq_false (by decide), eq_false (by decide), eq_false (by decide)⟩
theorem sN4 : (nI 4 = (0 : Int32)) = False ∧ (nI 4 = (1 : Int32)) = False ∧ (nI 4 = (2 : Int32)) = False ∧ (nI 4 = (3 : Int32)) = False ∧ (nI 4 = (4 : Int32)) = True ∧ (nI 4 = (5 : Int32)) = False ∧ (nI 4 = (6 : Int32)) = False ∧ (nI 4 = (7 : Int32)) = False := ⟨eq_false (by decide), eq_false (by decide), eq_false (by decide), eq_false (by decide), eq_true (by decide), eq_false (by decide), eq_false (by decide), eq_false (by decide)⟩
theorem sN5 : (nI 5 = (0 : Int32)) = False ∧ (nI 5 = (1 : Int32)) = False ∧ (nI 5 = (2 : Int32)) = False ∧ (nI 5 = (3 : Int32)) = False ∧ (nI 5 = (4 : Int32)) = False ∧ (nI 5 = (5 : Int32)) = True ∧ (nI 5 = (6 : Int32)) = False ∧ (nI 5 = (7 : Int32)) = False := ⟨eq_false (by decide), eq_false (by decide), eq_false (by decide), eq_false (by decide), eq_false (by decide), eq_true (by decide), eq_false (by decide), eq_false (by decide)⟩
theorem sN6 : (nI 6 = (0 : Int32)) = False ∧ (nI 6 = (1 : Int32)) = False ∧ (nI 6 = (2 : Int32)) = False ∧ (nI 6 = (3 : Int32)) = False ∧ (nI 6 = (4 : Int32)) = False ∧ (nI 6 = (5 : Int32)) = False ∧ (nI 6 = (6 : Int32)) = True ∧ (nI 6 = (7 : Int32)) = False := ⟨eq_false (by decide), eq_false (by decide), eq_false (by decide), eq_false (by decide), eq_false (by decide), eq_false (by decide), eq_true (by decide), eq_false (by decide)⟩
theorem sN7 : (nI 7 = (0 : Int32)) = False ∧ (nI 7 = (1 : Int32)) = False ∧ (nI 7 = (2 : Int32)) = False ∧ (nI 7 = (3 : Int32)) = False ∧ (nI 7 = (4 : Int32)) = False ∧ (nI 7 = (5 : Int32)) = False ∧ (nI 7 = (6 : Int32)) = False ∧ (nI 7 = (7 : Int32)) = True := ⟨eq_false (by decide), eq_false (by decide), eq_false (by decide), eq_false (by decide), eq_false (by decide), eq_false (by decide), eq_false (by decide), eq_true (by decide)⟩
theorem case_23 (J : INV n M x m out) : lw_23 M x m out p1 p2 p3 p4 p5 p6 (fun M' => INV (n + 1) M' x m out) := by
  obtain ⟨A, σ, w, cO, cF, cI, cS, ⟨rfl, rfl, rfl⟩, R, I, hn⟩ := J
  obtain ⟨hO, hO8, hF, hF6, hI, hI4, hSn, hS6, D, hD, hday⟩ := I.1
  have E := I.2.1
  unfold lw_23 wL_ofItem wX4_ofItem wX5_ofItem
  simp only [bX5_ofItem_28]
  simp only [↓rd4e R]
  by_cases h : ∃ k, k < cI ∧ p1 = nI k
  · have q3 : inR p1 0 (σ 11 0 - 1) = true := by
      rw [hI]
      obtain ⟨a, ha, e⟩ := h
      exact (inR_pre (by omega)).mpr ⟨a, ha, e⟩
    obtain ⟨k, hk, rfl⟩ := h
    have h40 : k < 40 := by omega
    cases g4 : inR p2 0 7 with
    | false =>
      have hne : (p2 = 0) = False ∧ (p2 = 1) = False ∧ (p2 = 2) = False ∧ (p2 = 3) = False ∧ (p2 = 4) = False ∧ (p2 = 5) = False ∧ (p2 = 6) = False ∧ (p2 = 7) = False := by
        refine ⟨?_, ?_, ?_, ?_, ?_, ?_, ?_, ?_⟩ <;> (refine eq_false fun z => ?_; rw [z] at g4; revert g4; decide)
      obtain ⟨M3, e3, R3⟩ := m_ref R 2
      simp only [q3, g4, hne, ↓(fun (g : Option Nat → Prop) => oex (c_itemAt_t R E h40 hk) g), ↓(fun (g : Int32 → Prop) => oex (m_isItem R (nI k)) g), ↓(fun (g : Int32 → Prop) => oex (in5 p2 0 7) g), ↓reduceIte, bI_f, bI_t, i10, i20, i30, sx, snf, ↓rd4e R, ↓rd5e R, e3, ↓rd5e R3]
      exact endF R3 (sU_eq _ _ _ _) (INV.same R3 I hn)
    | true =>
      obtain ⟨j, hj, rfl⟩ := (inR_nI (b := 7) (by decide)).mp g4
      have hj8 : j = 0 ∨ j = 1 ∨ j = 2 ∨ j = 3 ∨ j = 4 ∨ j = 5 ∨ j = 6 ∨ j = 7 := by omega
      rcases hj8 with rfl | rfl | rfl | rfl | rfl | rfl | rfl | rfl
      · simp only [sN0, ↓(fun (g : Option Nat → Prop) => oex (c_itemAt_t R E h40 hk) g), ↓rd2e R (E.i hk), ↓reduceIte, bI_f, bI_t, i10, i20, i30, sx, snf, ↓rd4e R]
        obtain ⟨M2, e2, R2⟩ := wrJ R E.out (σ 12 k).toInt64
        refine ⟨M2, e2, ?_⟩
        obtain ⟨M3, e3, R3⟩ := m_ref R2 0
        have J2 := I.thr 0
        simp (disch := omega) only [sN0, q3, ↓(fun (g : Int32 → Prop) => oex (m_isItem R2 (nI k)) g), ↓(fun (g : Int32 → Prop) => oex (in5 (nI 0) 0 7) g), g4, ↓reduceIte, bI_f, bI_t, i10, i20, i30, sx, snf, ↓rd5e R2, e3, ↓rd5e R3, ↓rdAe R3]
        exact endI0 R3 E.out (sU_eq _ _ _ _) rfl (INV.same R3 I hn)
      · simp only [sN1, ↓(fun (g : Option Nat → Prop) => oex (c_itemAt_t R E h40 hk) g), ↓rd2e R (E.i hk), ↓reduceIte, bI_f, bI_t, i10, i20, i30, sx, snf, ↓rd4e R]
        obtain ⟨M2, e2, R2⟩ := wrJ R E.out (σ 13 k).toInt64
        refine ⟨M2, e2, ?_⟩
        obtain ⟨M3, e3, R3⟩ := m_ref R2 0
        have J2 := I.thr 0
        simp (disch := omega) only [sN1, q3, ↓(fun (g : Int32 → Prop) => oex (m_isItem R2 (nI k)) g), ↓(fun (g : Int32 → Prop) => oex (in5 (nI 1) 0 7) g), g4, ↓reduceIte, bI_f, bI_t, i10, i20, i30, sx, snf, ↓rd5e R2, e3, ↓rd5e R3, ↓rdAe R3]
        exact endI0 R3 E.out (sU_eq _ _ _ _) rfl (INV.same R3 I hn)
      · simp only [sN2, ↓(fun (g : Option Nat → Prop) => oex (c_itemAt_t R E h40 hk) g), ↓rd2e R (E.i hk), ↓reduceIte, bI_f, bI_t, i10, i20, i30, sx, snf, ↓rd4e R]
        obtain ⟨M2, e2, R2⟩ := wrJ R E.out (σ 14 k).toInt64
        refine ⟨M2, e2, ?_⟩
        obtain ⟨M3, e3, R3⟩ := m_ref R2 0
        have J2 := I.thr 0
        simp (disch := omega) only [sN2, q3, ↓(fun (g : Int32 → Prop) => oex (m_isItem R2 (nI k)) g), ↓(fun (g : Int32 → Prop) => oex (in5 (nI 2) 0 7) g), g4, ↓reduceIte, bI_f, bI_t, i10, i20, i30, sx, snf, ↓rd5e R2, e3, ↓rd5e R3, ↓rdAe R3]
        exact endI0 R3 E.out (sU_eq _ _ _ _) rfl (INV.same R3 I hn)
      · simp only [sN3, ↓(fun (g : Option Nat → Prop) => oex (c_itemAt_t R E h40 hk) g), ↓rd2e R (E.i hk), ↓reduceIte, bI_f, bI_t, i10, i20, i30, sx, snf, ↓rd4e R]
        obtain ⟨M2, e2, R2⟩ := wrJ R E.out (σ 15 k).toInt64
        refine ⟨M2, e2, ?_⟩
        obtain ⟨M3, e3, R3⟩ := m_ref R2 0
        have J2 := I.thr 0
        simp (disch := omega) only [sN3, q3, ↓(fun (g : Int32 → Prop) => oex (m_isItem R2 (nI k)) g), ↓(fun (g : Int32 → Prop) => oex (in5 (nI 3) 0 7) g), g4, ↓reduceIte, bI_f, bI_t, i10, i20, i30, sx, snf, ↓rd5e R2, e3, ↓rd5e R3, ↓rdAe R3]
        exact endI0 R3 E.out (sU_eq _ _ _ _) rfl (INV.same R3 I hn)
      · simp only [sN4, ↓(fun (g : Option Nat → Prop) => oex (c_itemAt_t R E h40 hk) g), ↓rd2e R (E.i hk), ↓reduceIte, bI_f, bI_t, i10, i20, i30, sx, snf, ↓rd4e R]
        obtain ⟨M2, e2, R2⟩ := wrJ R E.out (σ 18 k).toInt64
        refine ⟨M2, e2, ?_⟩
        obtain ⟨M3, e3, R3⟩ := m_ref R2 0
        have J2 := I.thr 0
        simp (disch := omega) only [sN4, q3, ↓(fun (g : Int32 → Prop) => oex (m_isItem R2 (nI k)) g), ↓(fun (g : Int32 → Prop) => oex (in5 (nI 4) 0 7) g), g4, ↓reduceIte, bI_f, bI_t, i10, i20, i30, sx, snf, ↓rd5e R2, e3, ↓rd5e R3, ↓rdAe R3]
        exact endI0 R3 E.out (sU_eq _ _ _ _) rfl (INV.same R3 I hn)
      · simp only [sN5, ↓(fun (g : Option Nat → Prop) => oex (c_itemAt_t R E h40 hk) g), ↓rd2e R (E.i hk), ↓reduceIte, bI_f, bI_t, i10, i20, i30, sx, snf, ↓rd4e R]
        obtain ⟨M2, e2, R2⟩ := wrJ R E.out (σ 19 k).toInt64
        refine ⟨M2, e2, ?_⟩
        obtain ⟨M3, e3, R3⟩ := m_ref R2 0
        have J2 := I.thr 0
        simp (disch := omega) only [sN5, q3, ↓(fun (g : Int32 → Prop) => oex (m_isItem R2 (nI k)) g), ↓(fun (g : Int32 → Prop) => oex (in5 (nI 5) 0 7) g), g4, ↓reduceIte, bI_f, bI_t, i10, i20, i30, sx, snf, ↓rd5e R2, e3, ↓rd5e R3, ↓rdAe R3]
        exact endI0 R3 E.out (sU_eq _ _ _ _) rfl (INV.same R3 I hn)
      · simp only [sN6, ↓(fun (g : Option Nat → Prop) => oex (c_itemAt_t R E h40 hk) g), ↓rd2e R (E.i hk), ↓reduceIte, bI_f, bI_t, i10, i20, i30, sx, snf, ↓rd4e R]
        obtain ⟨M2, e2, R2⟩ := wrJ R E.out (σ 20 k).toInt64
        refine ⟨M2, e2, ?_⟩
        obtain ⟨M3, e3, R3⟩ := m_ref R2 0
        have J2 := I.thr 0
        simp (disch := omega) only [sN6, q3, ↓(fun (g : Int32 → Prop) => oex (m_isItem R2 (nI k)) g), ↓(fun (g : Int32 → Prop) => oex (in5 (nI 6) 0 7) g), g4, ↓reduceIte, bI_f, bI_t, i10, i20, i30, sx, snf, ↓rd5e R2, e3, ↓rd5e R3, ↓rdAe R3]
        exact endI0 R3 E.out (sU_eq _ _ _ _) rfl (INV.same R3 I hn)
      · by_cases z : σ 21 k = 0
        · simp only [sN7, ↓(fun (g : Option Nat → Prop) => oex (c_itemAt_t R E h40 hk) g), ↓rd2e R (E.i hk), ↓reduceIte, bI_f, bI_t, i10, i20, i30, sx, snf, ↓rd4e R, z]
          obtain ⟨M2, e2, R2⟩ := wrJ R E.out (0 : Int32).toInt64
          refine ⟨M2, e2, ?_⟩
          obtain ⟨M3, e3, R3⟩ := m_ref R2 0
          have z2 : (sU σ 0 0 0 21 k = 0) = True := by rw [sU_ne (by decide)]; exact eq_true z
          simp (disch := omega) only [sN7, q3, ↓(fun (g : Int32 → Prop) => oex (m_isItem R2 (nI k)) g), ↓(fun (g : Int32 → Prop) => oex (in5 (nI 7) 0 7) g), g4, ↓reduceIte, bI_f, bI_t, i10, i20, i30, sx, snf, ↓rd5e R2, e3, ↓rd5e R3, ↓rdAe R3, z2]
          exact endI0 R3 E.out (sU_eq _ _ _ _) rfl (INV.same R3 I hn)
        · simp only [sN7, ↓(fun (g : Option Nat → Prop) => oex (c_itemAt_t R E h40 hk) g), ↓rd2e R (E.i hk), ↓reduceIte, bI_f, bI_t, i10, i20, i30, sx, snf, ↓rd4e R, z]
          obtain ⟨M2, e2, R2⟩ := wrJ R E.out (1 : Int32).toInt64
          refine ⟨M2, e2, ?_⟩
          obtain ⟨M3, e3, R3⟩ := m_ref R2 0
          have z2 : (sU σ 0 0 0 21 k = 0) = False := by rw [sU_ne (by decide)]; exact eq_false z
          simp (disch := omega) only [sN7, q3, ↓(fun (g : Int32 → Prop) => oex (m_isItem R2 (nI k)) g), ↓(fun (g : Int32 → Prop) => oex (in5 (nI 7) 0 7) g), g4, ↓reduceIte, bI_f, bI_t, i10, i20, i30, sx, snf, ↓rd5e R2, e3, ↓rd5e R3, ↓rdAe R3, z2]
          exact endI0 R3 E.out (sU_eq _ _ _ _) rfl (INV.same R3 I hn)
  · have q3 : inR p1 0 (σ 11 0 - 1) = false := by
      rw [hI, ← Bool.not_eq_true, inR_pre (by omega)]
      exact h
    obtain ⟨M3, e3, R3⟩ := m_ref R 1
    simp only [q3, ↓(fun (g : Option Nat → Prop) => oex (c_itemAt_f R E h) g), ↓(fun (g : Int32 → Prop) => oex (m_isItem R p1) g), ↓reduceIte, bI_f, bI_t, i10, i20, i30, sx, snf, ↓rd4e R, ↓rd5e R, e3, ↓rd5e R3]
    exact endF R3 (sU_eq _ _ _ _) (INV.same R3 I hn)
theorem case_24 (J : INV n M x m out) : lw_24 M x m out p1 p2 p3 p4 p5 p6 (fun M' => INV (n + 1) M' x m out) := by
  obtain ⟨A, σ, w, cO, cF, cI, cS, ⟨rfl, rfl, rfl⟩, R, I, hn⟩ := J
  obtain ⟨hO, hO8, hF, hF6, hI, hI4, hSn, hS6, D, hD, hday⟩ := I.1
  have E := I.2.1
  unfold lw_24 wL_ofAccused wX4_ofAccused wX5_ofAccused
  simp only [bX5_ofAccused_29]
  simp only [↓rd4e R]
  by_cases h : isinP σ cF p1 p2
  · have hh := h
    obtain ⟨f, p, rfl, rfl, hf, hp, ha⟩ := isin_acc h
    have ht := acc48 I ha
    rw [c_acc_t R E hF6 hf hp ha]
    try simp only [m8]
    cases g4 : inR p3 0 7 with
    | false =>
      have hne : (p3 = 0) = False ∧ (p3 = 1) = False ∧ (p3 = 2) = False ∧ (p3 = 3) = False ∧ (p3 = 4) = False ∧ (p3 = 5) = False ∧ (p3 = 6) = False ∧ (p3 = 7) = False := by
        refine ⟨?_, ?_, ?_, ?_, ?_, ?_, ?_, ?_⟩ <;> (refine eq_false fun z => ?_; rw [z] at g4; revert g4; decide)
      obtain ⟨M3, e3, R3⟩ := m_ref R 2
      simp only [g4, hne, ↓(fun (g : Int32 → Prop) => oex (m_isIn_t R hF hF6 h) g), ↓(fun (g : Int32 → Prop) => oex (in5 p3 0 7) g), ↓reduceIte, bI_f, bI_t, i10, i20, i30, sx, snf, ↓rd4e R, ↓rd5e R, e3, ↓rd5e R3]
      exact endF R3 (sU_eq _ _ _ _) (INV.same R3 I hn)
    | true =>
      obtain ⟨j, hj, rfl⟩ := (inR_nI (b := 7) (by decide)).mp g4
      have hj8 : j = 0 ∨ j = 1 ∨ j = 2 ∨ j = 3 ∨ j = 4 ∨ j = 5 ∨ j = 6 ∨ j = 7 := by omega
      rcases hj8 with rfl | rfl | rfl | rfl | rfl | rfl | rfl | rfl
      · simp only [sN0, ↓rd0e R (E.a ha), ↓reduceIte, bI_f, bI_t, i10, i20, i30, sx, snf, ↓rd4e R]
        obtain ⟨M2, e2, R2⟩ := wrJ R E.out (σ 22 (8 * f + p)).toInt64
        refine ⟨M2, e2, ?_⟩
        obtain ⟨M3, e3, R3⟩ := m_ref R2 0
        have J2 := I.thr 0
        simp (disch := omega) only [sN0, g4, ↓(fun (g : Int32 → Prop) => oex (m_isIn_t R2 hF hF6 h) g), ↓(fun (g : Int32 → Prop) => oex (in5 (nI 0) 0 7) g), ↓reduceIte, bI_f, bI_t, i10, i20, i30, sx, snf, ↓rd5e R2, e3, ↓rd5e R3, ↓rdAe R3]
        exact endI0 R3 E.out (sU_eq _ _ _ _) rfl (INV.same R3 I hn)
      · simp only [sN1, ↓rd0e R (E.a ha), ↓reduceIte, bI_f, bI_t, i10, i20, i30, sx, snf, ↓rd4e R]
        obtain ⟨M2, e2, R2⟩ := wrJ R E.out (σ 23 (8 * f + p)).toInt64
        refine ⟨M2, e2, ?_⟩
        obtain ⟨M3, e3, R3⟩ := m_ref R2 0
        have J2 := I.thr 0
        simp (disch := omega) only [sN1, g4, ↓(fun (g : Int32 → Prop) => oex (m_isIn_t R2 hF hF6 h) g), ↓(fun (g : Int32 → Prop) => oex (in5 (nI 1) 0 7) g), ↓reduceIte, bI_f, bI_t, i10, i20, i30, sx, snf, ↓rd5e R2, e3, ↓rd5e R3, ↓rdAe R3]
        exact endI0 R3 E.out (sU_eq _ _ _ _) rfl (INV.same R3 I hn)
      · by_cases z : σ 26 (8 * f + p) = 0
        · simp only [sN2, ↓rd0e R (E.a ha), ↓reduceIte, bI_f, bI_t, i10, i20, i30, sx, snf, ↓rd4e R, z]
          obtain ⟨M2, e2, R2⟩ := wrJ R E.out (0 : Int32).toInt64
          refine ⟨M2, e2, ?_⟩
          obtain ⟨M3, e3, R3⟩ := m_ref R2 0
          have z2 : (sU σ 0 0 0 26 (8 * f + p) = 0) = True := by rw [sU_ne (by decide)]; exact eq_true z
          simp (disch := omega) only [sN2, g4, ↓(fun (g : Int32 → Prop) => oex (m_isIn_t R2 hF hF6 h) g), ↓(fun (g : Int32 → Prop) => oex (in5 (nI 2) 0 7) g), ↓reduceIte, bI_f, bI_t, i10, i20, i30, sx, snf, ↓rd5e R2, e3, ↓rd5e R3, ↓rdAe R3, z2]
          exact endI0 R3 E.out (sU_eq _ _ _ _) rfl (INV.same R3 I hn)
        · simp only [sN2, ↓rd0e R (E.a ha), ↓reduceIte, bI_f, bI_t, i10, i20, i30, sx, snf, ↓rd4e R, z]
          obtain ⟨M2, e2, R2⟩ := wrJ R E.out (1 : Int32).toInt64
          refine ⟨M2, e2, ?_⟩
          obtain ⟨M3, e3, R3⟩ := m_ref R2 0
          have z2 : (sU σ 0 0 0 26 (8 * f + p) = 0) = False := by rw [sU_ne (by decide)]; exact eq_false z
          simp (disch := omega) only [sN2, g4, ↓(fun (g : Int32 → Prop) => oex (m_isIn_t R2 hF hF6 h) g), ↓(fun (g : Int32 → Prop) => oex (in5 (nI 2) 0 7) g), ↓reduceIte, bI_f, bI_t, i10, i20, i30, sx, snf, ↓rd5e R2, e3, ↓rd5e R3, ↓rdAe R3, z2]
          exact endI0 R3 E.out (sU_eq _ _ _ _) rfl (INV.same R3 I hn)
      · simp only [sN3, ↓rd0e R (E.a ha), ↓reduceIte, bI_f, bI_t, i10, i20, i30, sx, snf, ↓rd4e R]
        obtain ⟨M2, e2, R2⟩ := wrJ R E.out (σ 27 (8 * f + p)).toInt64
        refine ⟨M2, e2, ?_⟩
        obtain ⟨M3, e3, R3⟩ := m_ref R2 0
        have J2 := I.thr 0
        simp (disch := omega) only [sN3, g4, ↓(fun (g : Int32 → Prop) => oex (m_isIn_t R2 hF hF6 h) g), ↓(fun (g : Int32 → Prop) => oex (in5 (nI 3) 0 7) g), ↓reduceIte, bI_f, bI_t, i10, i20, i30, sx, snf, ↓rd5e R2, e3, ↓rd5e R3, ↓rdAe R3]
        exact endI0 R3 E.out (sU_eq _ _ _ _) rfl (INV.same R3 I hn)
      · simp only [sN4, ↓rd0e R (E.a ha), ↓reduceIte, bI_f, bI_t, i10, i20, i30, sx, snf, ↓rd4e R]
        obtain ⟨M2, e2, R2⟩ := wrJ R E.out (σ 28 (8 * f + p)).toInt64
        refine ⟨M2, e2, ?_⟩
        obtain ⟨M3, e3, R3⟩ := m_ref R2 0
        have J2 := I.thr 0
        simp (disch := omega) only [sN4, g4, ↓(fun (g : Int32 → Prop) => oex (m_isIn_t R2 hF hF6 h) g), ↓(fun (g : Int32 → Prop) => oex (in5 (nI 4) 0 7) g), ↓reduceIte, bI_f, bI_t, i10, i20, i30, sx, snf, ↓rd5e R2, e3, ↓rd5e R3, ↓rdAe R3]
        exact endI0 R3 E.out (sU_eq _ _ _ _) rfl (INV.same R3 I hn)
      · simp only [sN5, ↓rd0e R (E.a ha), ↓reduceIte, bI_f, bI_t, i10, i20, i30, sx, snf, ↓rd4e R]
        obtain ⟨M2, e2, R2⟩ := wrJ R E.out (σ 31 (8 * f + p)).toInt64
        refine ⟨M2, e2, ?_⟩
        obtain ⟨M3, e3, R3⟩ := m_ref R2 0
        have J2 := I.thr 0
        simp (disch := omega) only [sN5, g4, ↓(fun (g : Int32 → Prop) => oex (m_isIn_t R2 hF hF6 h) g), ↓(fun (g : Int32 → Prop) => oex (in5 (nI 5) 0 7) g), ↓reduceIte, bI_f, bI_t, i10, i20, i30, sx, snf, ↓rd5e R2, e3, ↓rd5e R3, ↓rdAe R3]
        exact endI0 R3 E.out (sU_eq _ _ _ _) rfl (INV.same R3 I hn)
      · simp only [sN6, ↓rd0e R (E.a ha), ↓reduceIte, bI_f, bI_t, i10, i20, i30, sx, snf, ↓rd4e R]
        obtain ⟨M2, e2, R2⟩ := wrJ R E.out (σ 32 (8 * f + p)).toInt64
        refine ⟨M2, e2, ?_⟩
        obtain ⟨M3, e3, R3⟩ := m_ref R2 0
        have J2 := I.thr 0
        simp (disch := omega) only [sN6, g4, ↓(fun (g : Int32 → Prop) => oex (m_isIn_t R2 hF hF6 h) g), ↓(fun (g : Int32 → Prop) => oex (in5 (nI 6) 0 7) g), ↓reduceIte, bI_f, bI_t, i10, i20, i30, sx, snf, ↓rd5e R2, e3, ↓rd5e R3, ↓rdAe R3]
        exact endI0 R3 E.out (sU_eq _ _ _ _) rfl (INV.same R3 I hn)
      · simp only [sN7, ↓(fun (g : Int32 → Prop) => oex (c_spent R E hO8 ha) g), ↓reduceIte, bI_f, bI_t, i10, i20, i30, sx, snf, ↓rd4e R]
        obtain ⟨M2, e2, R2⟩ := wrJ R E.out (sptS σ cO (8 * f + p)).toInt64
        refine ⟨M2, e2, ?_⟩
        obtain ⟨M3, e3, R3⟩ := m_ref R2 0
        have J2 := I.thr 0
        simp (disch := omega) only [sN7, g4, ↓(fun (g : Int32 → Prop) => oex (m_isIn_t R2 hF hF6 h) g), ↓(fun (g : Int32 → Prop) => oex (in5 (nI 7) 0 7) g), ↓(fun (g : Int32 → Prop) => oex (m_spentBy R3 (c := cO) (t := 8 * f + p) (by rw [sU_ne (by decide)]; exact hO) hO8 (fun k hk => i_isSpent R3 J2 (by rw [accS_c (by omega)]; exact ha) hk _)) g), ↓reduceIte, bI_f, bI_t, i10, i20, i30, sx, snf, ↓rd5e R2, e3, ↓rd5e R3, ↓rdAe R3]
        exact endI0 R3 E.out (sU_eq _ _ _ _) (by rw [sptS_c (by omega)]; rfl) (INV.same R3 I hn)
  · rw [c_acc_f R E hF6 h]
    obtain ⟨M3, e3, R3⟩ := m_ref R 1
    simp only [↓(fun (g : Int32 → Prop) => oex (m_isIn_f R hF hF6 h) g), ↓reduceIte, bI_f, bI_t, i10, i20, i30, sx, snf, ↓rd4e R, ↓rd5e R, e3, ↓rd5e R3]
    exact endF R3 (sU_eq _ _ _ _) (INV.same R3 I hn)
theorem case_25 (J : INV n M x m out) : lw_25 M x m out p1 p2 p3 p4 p5 p6 (fun M' => INV (n + 1) M' x m out) := by
  obtain ⟨A, σ, w, cO, cF, cI, cS, ⟨rfl, rfl, rfl⟩, R, I, hn⟩ := J
  obtain ⟨hO, hO8, hF, hF6, hI, hI4, hSn, hS6, D, hD, hday⟩ := I.1
  have E := I.2.1
  unfold lw_25 wL_count wX4_count wX5_count
  simp only [bX5_count_15]
  simp only [↓rd4e R]
  cases g4 : inR p1 0 5 with
  | false =>
    have hne : (p1 = 0) = False ∧ (p1 = 1) = False ∧ (p1 = 2) = False ∧ (p1 = 3) = False ∧ (p1 = 4) = False ∧ (p1 = 5) = False := by
      refine ⟨?_, ?_, ?_, ?_, ?_, ?_⟩ <;> (refine eq_false fun z => ?_; rw [z] at g4; revert g4; decide)
    obtain ⟨M3, e3, R3⟩ := m_ref R 1
    simp only [g4, hne, ↓(fun (g : Int32 → Prop) => oex (in5 p1 0 5) g), ↓reduceIte, bI_f, bI_t, i10, i20, i30, sx, snf, ↓rd4e R, ↓rd5e R, e3, ↓rd5e R3]
    exact endF R3 (sU_eq _ _ _ _) (INV.same R3 I hn)
  | true =>
    obtain ⟨j, hj, rfl⟩ := (inR_nI (b := 5) (by decide)).mp g4
    have hj8 : j = 0 ∨ j = 1 ∨ j = 2 ∨ j = 3 ∨ j = 4 ∨ j = 5 := by omega
    rcases hj8 with rfl | rfl | rfl | rfl | rfl | rfl
    · simp only [sN0, bI_f, ↓reduceIte, bI_f, bI_t, i10, i20, i30, sx, snf, ↓rd4e R]
      obtain ⟨M2, e2, R2⟩ := wrJ R E.out (σ 37 0).toInt64
      refine ⟨M2, e2, ?_⟩
      obtain ⟨M3, e3, R3⟩ := m_ref R2 0
      have J2 := I.thr 0
      simp (disch := omega) only [sN0, g4, ↓(fun (g : Int32 → Prop) => oex (in5 (nI 0) 0 5) g), ↓reduceIte, bI_f, bI_t, i10, i20, i30, sx, snf, ↓rd5e R2, e3, ↓rd5e R3, ↓rdAe R3]
      exact endI0 R3 E.out (sU_eq _ _ _ _) rfl (INV.same R3 I hn)
    · simp only [sN1, bI_f, ↓reduceIte, bI_f, bI_t, i10, i20, i30, sx, snf, ↓rd4e R]
      obtain ⟨M2, e2, R2⟩ := wrJ R E.out (σ 37 1).toInt64
      refine ⟨M2, e2, ?_⟩
      obtain ⟨M3, e3, R3⟩ := m_ref R2 0
      have J2 := I.thr 0
      simp (disch := omega) only [sN1, g4, ↓(fun (g : Int32 → Prop) => oex (in5 (nI 1) 0 5) g), ↓reduceIte, bI_f, bI_t, i10, i20, i30, sx, snf, ↓rd5e R2, e3, ↓rd5e R3, ↓rdAe R3]
      exact endI0 R3 E.out (sU_eq _ _ _ _) rfl (INV.same R3 I hn)
    · simp only [sN2, bI_f, ↓reduceIte, bI_f, bI_t, i10, i20, i30, sx, snf, ↓rd4e R]
      obtain ⟨M2, e2, R2⟩ := wrJ R E.out (σ 37 2).toInt64
      refine ⟨M2, e2, ?_⟩
      obtain ⟨M3, e3, R3⟩ := m_ref R2 0
      have J2 := I.thr 0
      simp (disch := omega) only [sN2, g4, ↓(fun (g : Int32 → Prop) => oex (in5 (nI 2) 0 5) g), ↓reduceIte, bI_f, bI_t, i10, i20, i30, sx, snf, ↓rd5e R2, e3, ↓rd5e R3, ↓rdAe R3]
      exact endI0 R3 E.out (sU_eq _ _ _ _) rfl (INV.same R3 I hn)
    · simp only [sN3, bI_f, ↓reduceIte, bI_f, bI_t, i10, i20, i30, sx, snf, ↓rd4e R]
      obtain ⟨M2, e2, R2⟩ := wrJ R E.out (σ 37 3).toInt64
      refine ⟨M2, e2, ?_⟩
      obtain ⟨M3, e3, R3⟩ := m_ref R2 0
      have J2 := I.thr 0
      simp (disch := omega) only [sN3, g4, ↓(fun (g : Int32 → Prop) => oex (in5 (nI 3) 0 5) g), ↓reduceIte, bI_f, bI_t, i10, i20, i30, sx, snf, ↓rd5e R2, e3, ↓rd5e R3, ↓rdAe R3]
      exact endI0 R3 E.out (sU_eq _ _ _ _) rfl (INV.same R3 I hn)
    · simp only [sN4, bI_f, ↓reduceIte, bI_f, bI_t, i10, i20, i30, sx, snf, ↓rd4e R]
      obtain ⟨M2, e2, R2⟩ := wrJ R E.out (σ 37 4).toInt64
      refine ⟨M2, e2, ?_⟩
      obtain ⟨M3, e3, R3⟩ := m_ref R2 0
      have J2 := I.thr 0
      simp (disch := omega) only [sN4, g4, ↓(fun (g : Int32 → Prop) => oex (in5 (nI 4) 0 5) g), ↓reduceIte, bI_f, bI_t, i10, i20, i30, sx, snf, ↓rd5e R2, e3, ↓rd5e R3, ↓rdAe R3]
      exact endI0 R3 E.out (sU_eq _ _ _ _) rfl (INV.same R3 I hn)
    · simp only [sN5, bI_f, ↓reduceIte, bI_f, bI_t, i10, i20, i30, sx, snf, ↓rd4e R]
      obtain ⟨M2, e2, R2⟩ := wrJ R E.out (σ 37 5).toInt64
      refine ⟨M2, e2, ?_⟩
      obtain ⟨M3, e3, R3⟩ := m_ref R2 0
      have J2 := I.thr 0
      simp (disch := omega) only [sN5, g4, ↓(fun (g : Int32 → Prop) => oex (in5 (nI 5) 0 5) g), ↓reduceIte, bI_f, bI_t, i10, i20, i30, sx, snf, ↓rd5e R2, e3, ↓rd5e R3, ↓rdAe R3]
      exact endI0 R3 E.out (sU_eq _ _ _ _) rfl (INV.same R3 I hn)
end ASK
