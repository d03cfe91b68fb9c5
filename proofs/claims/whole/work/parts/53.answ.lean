/-! ===== what a trial or a plea leaves behind ===== -/
theorem sV_sU {s : hσ} {f j f' : Nat} {x : Int32} {g : Nat → Int32} (h : f ≠ f') : sV (sU s f j x) f' g = sU (sV s f' g) f j x := by
  funext a i
  show (if a = f' then g i else if a = f ∧ i = j then x else s a i) = (if a = f ∧ i = j then x else if a = f' then g i else s a i)
  by_cases e : a = f'
  · rw [if_pos e, if_neg (fun q => h (q.1.symm.trans e)), if_pos e]
  · rw [if_neg e]
    by_cases e2 : a = f ∧ i = j
    · rw [if_pos e2, if_pos e2]
    · rw [if_neg e2, if_neg e2, if_neg e]
theorem sV_over {s : hσ} {f j : Nat} {x : Int32} {g : Nat → Int32} : sV (sU s f j x) f g = sV s f g := by
  funext a i
  unfold sV sU
  by_cases e : a = f
  · rw [if_pos e, if_pos e]
  · rw [if_neg e, if_neg e, if_neg (fun q => e q.1)]
theorem sV_id {s : hσ} {f : Nat} {g : Nat → Int32} (h : ∀ i, g i = s f i) : sV s f g = s := by
  funext a i
  unfold sV
  by_cases e : a = f
  · rw [if_pos e, e, h i]
  · rw [if_neg e]
def gJ (s : hσ) (t : Nat) (day : Int32) (j i : Nat) : Int32 := if (decide (j ≤ i) && (decide (i < 8) && (hb (s 23 t) (nI i) && decide (s (1001 + 2 * t) i = -1)))) = true then day else s (1001 + 2 * t) i
def ansS (s : hσ) (t : Nat) (conv day : Int32) : hσ := sU (sU (sU (sU (sU (sV s (1001 + 2 * t) (gJ s t day 0)) 32 t (s 32 t ||| conv)) 22 t 0) 23 t 0) 28 t 0) 26 t 0
section ANS
variable {M : hM} {A : hAd} {s τ : hσ} {w : Nat → Int64}
theorem lc_answer {t : Nat} (conv day : Int32) (Q : hM → Prop) : ∀ n j (M : hM) (s : hσ), Rep M A s τ w → s 112 t = 1 → s 119 t = 1 → j ≤ 8 → 8 - j < n → ∃ M', lX0_answerCharges_2 (A 7 t) Q conv day n M (nI j) = Q M' ∧ Rep M' A (sU (sU (sU (sU (sU (sV s (1001 + 2 * t) (gJ s t day j)) 32 t (s 32 t ||| conv)) 23 t 0) 28 t 0) 26 t 0) 22 t 0) τ w := by
  intro n
  induction n with
  | zero =>
    intro j M s R h1 h2 h3 h4
    omega
  | succ n ih =>
    intro j M s R h1 h2 h3 h4
    rw [lX0_answerCharges_2]
    simp (disch := exact h2) only [↓rd0e R h1, ↓rdLe R]
    by_cases e0 : j < 8
    · have e1 : ¬ 8 ≤ j := by omega
      rw [if_neg (by rw [l8 (by omega)]; exact e1)]
      have keep : (hb (s 23 t) (nI j) && decide (s (1001 + 2 * t) j = -1)) = false → gJ s t day j = gJ s t day (j + 1) := fun q => funext fun i => by
        unfold gJ
        by_cases e : i = j
        · subst e
          rw [q, Bool.and_false, Bool.and_false, decide_eq_false (show ¬ i + 1 ≤ i by omega), Bool.false_and]
        · have : (j ≤ i) ↔ (j + 1 ≤ i) := by omega
          rw [decide_eq_decide.mpr this]
      simp (disch := first | exact h2 | omega) only [↓rd0e R h1, ↓(fun (g : Int32 → Prop) => oex (has4 (s 23 t) (nI j)) g), bI_0, nI_1, ↓rdRe R]
      cases c1 : hb (s 23 t) (nI j) with
      | false =>
        rw [if_pos rfl, keep (by rw [c1]; rfl)]
        exact ih (j + 1) M s R h1 h2 (by omega) (by omega)
      | true =>
        rw [if_neg (by decide)]
        by_cases c2 : s (1001 + 2 * t) j = -1
        · rw [if_pos c2]
          obtain ⟨M1, e, R1⟩ := wr8 R h2 e0 day
          rw [oex e]
          obtain ⟨M', q1, q2⟩ := ih (j + 1) M1 _ R1 (by rw [sU_ne (by omega)]; exact h1) (by rw [sU_ne (by omega)]; exact h2) (by omega) (by omega)
          refine ⟨M', q1, ?_⟩
          have hg : gJ (sU s (1001 + 2 * t) j day) t day (j + 1) = gJ s t day j := funext fun i => by
            unfold gJ
            rw [sU_ne (show 23 ≠ 1001 + 2 * t by omega)]
            by_cases e : i = j
            · subst e
              rw [sU_eq, c1, c2, decide_eq_false (show ¬ i + 1 ≤ i by omega), Bool.false_and, if_neg (by decide), if_pos (by simp [e0])]
            · have : (j ≤ i) ↔ (j + 1 ≤ i) := by omega
              rw [sU_nj e, decide_eq_decide.mpr this]
          rw [hg, sV_over, sU_ne (show 32 ≠ 1001 + 2 * t by omega)] at q2
          exact q2
        · rw [if_neg c2, keep (by rw [decide_eq_false c2, Bool.and_false])]
          exact ih (j + 1) M s R h1 h2 (by omega) (by omega)
    · have e1 : j = 8 := by omega
      subst e1
      rw [if_pos (by decide)]
      have hg : sV s (1001 + 2 * t) (gJ s t day 8) = s := sV_id fun i => by
        unfold gJ
        rw [if_neg]
        intro q
        simp only [Bool.and_eq_true, decide_eq_true_eq] at q
        omega
      rw [hg]
      obtain ⟨M1, e1, R1⟩ := wr0_12 R h1 (s 32 t ||| conv)
      obtain ⟨M2, e2, R2⟩ := wr0_3 R1 (by simp (disch := omega) only [sU_ne]; exact h1) 0
      obtain ⟨M3, e3, R3⟩ := wr0_9 R2 (by simp (disch := omega) only [sU_ne]; exact h1) 0
      obtain ⟨M4, e4, R4⟩ := wr0_7 R3 (by simp (disch := omega) only [sU_ne]; exact h1) 0 (Or.inl rfl)
      obtain ⟨M5, e5, R5⟩ := wr0_2 R4 (by simp (disch := omega) only [sU_ne]; exact h1) 0
      rw [oex e1, oex e2, oex e3, oex e4, oex e5]
      exact ⟨M5, rfl, R5⟩
theorem c_answer (R : Rep M A s τ w) {t : Nat} (h1 : s 112 t = 1) (h2 : s 119 t = 1) (conv day : Int32) (Q : hM → Prop) : ∃ M', wX0_answerCharges M (A 7 t) conv day Q = Q M' ∧ Rep M' A (ansS s t conv day) τ w := by
  obtain ⟨M', q1, q2⟩ := lc_answer (A := A) (τ := τ) (w := w) conv day Q 1000 0 M s R h1 h2 (by omega) (by omega)
  refine ⟨M', q1, ?_⟩
  unfold ansS
  rw [sU_comm (f := 26) (f' := 22) (Or.inl (by decide)), sU_comm (f := 28) (f' := 22) (Or.inl (by decide)), sU_comm (f := 23) (f' := 22) (Or.inl (by decide))] at q2
  exact q2
def spendS (τ : hσ) (cS t : Nat) : hσ := sU (sU (sU (sU (sU (sU (sU (sU τ 34 cS (nI t)) 35 cS (τ 1 0)) 36 cS (τ 23 t)) 33 0 (nI (cS + 1))) 22 t 0) 23 t 0) 28 t 0) 26 t 0
theorem m_spend (R : Rep M A s τ w) {cS t : Nat} (hS : τ 33 0 = nI cS) (hS6 : cS < 600) (ht : t < 48) : ∃ M', (∀ Q : hM → Prop, wX5_spend M (A 10 0) (nI t) Q = Q M') ∧ Rep M' A s (spendS τ cS t) w := by
  obtain ⟨M1, e1, R1⟩ := wrA R (f := 34) (n := 600) (k := cS) rfl (by omega) (by decide) (nI t)
  obtain ⟨M2, e2, R2⟩ := wrA R1 (f := 35) (n := 600) (k := cS) rfl (by omega) (by decide) (τ 1 0)
  obtain ⟨M3, e3, R3⟩ := wrA R2 (f := 36) (n := 600) (k := cS) rfl (by omega) (by decide) (τ 23 t)
  obtain ⟨M4, e4, R4⟩ := wr5_33 R3 (nI (cS + 1))
  obtain ⟨M5, e5, R5⟩ := wrA R4 (f := 22) (n := 48) (k := t) rfl (by omega) (by decide) 0
  obtain ⟨M6, e6, R6⟩ := wrA R5 (f := 23) (n := 48) (k := t) rfl (by omega) (by decide) 0
  obtain ⟨M7, e7, R7⟩ := wrA R6 (f := 28) (n := 48) (k := t) rfl (by omega) (by decide) 0
  obtain ⟨M8, e8, R8⟩ := wrB R7 (f := 26) (n := 48) (k := t) rfl (by omega) (by decide) 0 (Or.inl rfl)
  refine ⟨M8, fun Q => ?_, R8⟩
  unfold wX5_spend
  simp only [↓rd5e R, hS]
  rw [oex e1]
  simp (disch := omega) only [↓rd5e R1, sU_ne, hS]
  rw [oex e2]
  simp (disch := omega) only [↓rd5e R2, ↓rdAe R2, sU_ne, hS]
  rw [oex e3]
  simp (disch := omega) only [↓rd5e R3, sU_ne, hS, nI_1]
  rw [oex e4]
  simp (disch := omega) only [↓rd5e R4]
  rw [oex e5]
  simp (disch := omega) only [↓rd5e R5]
  rw [oex e6]
  simp (disch := omega) only [↓rd5e R6]
  rw [oex e7]
  simp (disch := omega) only [↓rd5e R7]
  rw [oex e8]
theorem lm_trial (R : Rep M A s τ w) {cO cI t : Nat} (hO : τ 2 0 = nI cO) (hO8 : cO ≤ 8) (hI : τ 11 0 = nI cI) (hI4 : cI ≤ 40) (ht : t < 48) (Q : hM → Int32 → Prop) : ∀ n k, k ≤ cO → cO - k < n → lX5_trial_79 (A 10 0) Q (nI t) n M (orN (fun k => decide (k < cO) && (hb (τ 23 t) (nI k) && strgS τ cI t k 8 (τ 1 0))) k) (nI k) = lX5_trial_79 (A 10 0) Q (nI t) 1 M (prvS τ cO cI t) (nI cO) := by
  intro n
  induction n with
  | zero =>
    intro k h1 h2
    omega
  | succ n ih =>
    intro k h1 h2
    by_cases e0 : k < cO
    · have e1 : ¬ cO ≤ k := by omega
      have q := ih (k + 1) (by omega) (by omega)
      rw [orN, decide_eq_true e0, Bool.true_and] at q
      rw [lX5_trial_79]
      simp (disch := omega) only [↓rd5e R, hO, nI_leI, e1, ↓reduceIte, ↓rdAe R, ↓(fun (a b : Int32) (g : Int32 → Prop) => oex (has5 a b) g), bI_0, nI_1, bX5_trial_129, ↓(fun (g : Int32 → Prop) => oex (m_areStrong R hI hI4 ht (k := k) (by omega) 8 (τ 1 0)) g)]
      cases c1 : hb (τ 23 t) (nI k) with
      | false =>
        rw [c1, Bool.false_and, if_neg (by decide)] at q
        rw [if_pos rfl]
        exact q
      | true =>
        rw [if_neg (by decide)]
        cases c2 : strgS τ cI t k 8 (τ 1 0) with
        | false =>
          rw [c1, c2, Bool.and_false, if_neg (by decide)] at q
          rw [if_pos rfl]
          exact q
        | true =>
          rw [c1, c2, Bool.and_self, if_pos rfl] at q
          rw [if_neg (by decide)]
          exact q
    · have e1 : k = cO := by omega
      subst e1
      have e2 : prvS τ k cI t = orN (fun k_1 => decide (k_1 < k) && (hb (τ 23 t) (nI k_1) && strgS τ cI t k_1 8 (τ 1 0))) k := orN_stop (fun j hj => by
        rw [decide_eq_false (show ¬ j < k by omega), Bool.false_and]) 8 hO8
      rw [e2, lX5_trial_79, lX5_trial_79]
      simp (disch := omega) only [↓rd5e R, hO, nI_leI, Nat.le_refl, ↓reduceIte]
theorem orN_nI (p : Nat → Bool) : ∀ m, m ≤ 8 → ∃ n, n < 2 ^ m ∧ orN p m = nI n := by
  intro m
  induction m with
  | zero =>
    intro _
    exact ⟨0, by decide, rfl⟩
  | succ m ih =>
    intro hm
    obtain ⟨n, hn, e⟩ := ih (by omega)
    have h2 : 2 ^ m < 2 ^ (m + 1) := Nat.pow_lt_pow_right (by decide) (by omega)
    by_cases q : p m = true
    · refine ⟨n ||| 2 ^ m, Nat.or_lt_two_pow (by omega) h2, ?_⟩
      rw [orN, e, if_pos q, bitN_nI (by omega), or_nI]
    · refine ⟨n, by omega, ?_⟩
      rw [orN, e, if_neg q, Int32.or_zero]
theorem and_small {c : Nat} (hc : c < 256) (z : Int32) : ∃ n, n < 256 ∧ nI c &&& z = nI n := by
  refine ⟨c &&& z.toBitVec.toNat, Nat.lt_of_le_of_lt Nat.and_le_left hc, b_ext fun i hi => ?_⟩
  rw [b_and, bt_nI _ hi, bt_nI _ hi, Nat.testBit_and]
  rfl
theorem sm_cnt (q : Nat → Bool) : ∀ n, ∃ m, m ≤ n ∧ sm (fun k => bI (q k)) n = nI m := by
  intro n
  induction n with
  | zero => exact ⟨0, by omega, rfl⟩
  | succ n ih =>
    obtain ⟨m, hm, e⟩ := ih
    cases c : q n with
    | false =>
      refine ⟨m, by omega, ?_⟩
      rw [sm, e, c, bI_f, Int32.add_zero]
    | true =>
      refine ⟨m + 1, by omega, ?_⟩
      rw [sm, e, c, bI_t, nI_1]
theorem lackS_0 (σ : hσ) (c : Nat) (f p : Int32) : lackS σ c f p ≤ 0 ↔ lackS σ c f p = 0 := by
  obtain ⟨m, hm, e⟩ := sm_cnt (fun k => lkG σ c f p k) 40
  have e' : lackS σ c f p = nI m := e
  rw [e', show (0 : Int32) = nI 0 from rfl, nI_leI (by omega) (by decide), nI_eq (by omega) (by decide)]
  omega
theorem InvN_v {cO cF cI cS f : Nat} {g : Nat → Int32} {s : hσ} (hf : 999 < f) (h : InvN cO cF cI cS s) : InvN cO cF cI cS (sV s f g) := by
  unfold InvN at *
  simp (disch := omega) only [sV_ne]
  exact h
theorem accS_v {c t f : Nat} {g : Nat → Int32} {s : hσ} (hf : 999 < f) : accS (sV s f g) c t = accS s c t := by
  unfold accS
  simp (disch := omega) only [sV_ne]
theorem ExI_v {cO cF cI t : Nat} {g : Nat → Int32} {s : hσ} (h : ExI cO cF cI s) : ExI cO cF cI (sV s (1001 + 2 * t) g) := by
  unfold ExI at *
  simp (disch := omega) only [sV_ne, accS_v]
  exact h
theorem InvO_v {cO f : Nat} {g : Nat → Int32} {s : hσ} (hf : 999 < f) (h : InvO cO s) : InvO cO (sV s f g) := by
  unfold InvO at *
  simp (disch := omega) only [sV_ne]
  exact h
theorem InvI_v {cI f : Nat} {g : Nat → Int32} {s : hσ} (hf : 999 < f) (h : InvI cI s) : InvI cI (sV s f g) := by
  unfold InvI at *
  simp (disch := omega) only [sV_ne]
  exact h
theorem InvF_v {cF f : Nat} {g : Nat → Int32} {s : hσ} (hf : 999 < f) (h : InvF cF s) : InvF cF (sV s f g) := by
  unfold InvF at *
  simp (disch := omega) only [sV_ne]
  exact h
theorem InvN_s {cO cF cI cS : Nat} {s : hσ} (h6 : cS < 600) (h : InvN cO cF cI cS s) : InvN cO cF cI (cS + 1) (sU s 33 0 (nI (cS + 1))) := by
  unfold InvN at *
  simp (disch := omega) only [sU_ne, sU_eq]
  obtain ⟨h1, h2, h3, h4, h5, h6', h7, h8, h9⟩ := h
  exact ⟨h1, h2, h3, h4, h5, h6', trivial, by omega, h9⟩
theorem InvS_ans {cO cF cS t c D : Nat} {σ σ' : hσ} (S : InvS cO cF cS σ) (hacc : ∀ t2, accS σ' cF t2 = accS σ cF t2) (ha : accS σ cF t = true) (ht : t < 48) (hday : σ' 1 0 = σ 1 0) (hD : σ 1 0 = nI D) (hD5 : D ≤ 5000) (hc : σ 23 t = nI c) (hc2 : c < 2 ^ cO) (hF : ∀ t2 j, t2 ≠ t → σ' (1001 + 2 * t2) j = σ (1001 + 2 * t2) j) (hFt : ∀ j, σ' (1001 + 2 * t) j = gJ σ t (σ 1 0) 0 j) (h34 : σ' 34 cS = nI t) (h35 : σ' 35 cS = σ 1 0) (h36 : σ' 36 cS = σ 23 t) (hrow : ∀ k, k ≠ cS → σ' 34 k = σ 34 k ∧ σ' 35 k = σ 35 k ∧ σ' 36 k = σ 36 k) : InvS cO cF (cS + 1) σ' := by
  obtain ⟨S1, S2, S3, S4⟩ := S
  have hans : ∀ t2 j d k, k < cS → ansG σ' t2 j d k = ansG σ t2 j d k := fun t2 j d k hk => by
    obtain ⟨r1, r2, r3⟩ := hrow k (by omega)
    unfold ansG
    rw [r1, r2, r3]
  have hex : ∀ t2 j d, exN (ansG σ' t2 j d) cS = exN (ansG σ t2 j d) cS := fun t2 j d => by
    rw [Bool.eq_iff_iff, exN_iff, exN_iff]
    constructor
    · rintro ⟨k, hk, q⟩
      exact ⟨k, hk, by rw [← hans t2 j d k hk]; exact q⟩
    · rintro ⟨k, hk, q⟩
      exact ⟨k, hk, by rw [hans t2 j d k hk]; exact q⟩
  refine ⟨fun t2 ht2 ha2 j hj d => ?_, fun k hk => ?_, fun k hk => ?_, fun k hk => ?_⟩
  · rw [hacc] at ha2
    rw [exN, hex, ← S1 t2 ht2 ha2 j hj d]
    by_cases e : t2 = t
    · subst e
      have hnew : ansG σ' t2 j d cS = (decide (σ 1 0 ≤ d) && hb (σ 23 t2) (nI j)) := by
        unfold ansG
        rw [h34, h35, h36, decide_eq_true rfl, Bool.true_and]
      rw [hnew]
      unfold hadS
      rw [hFt]
      unfold gJ
      rw [decide_eq_true (Nat.zero_le j), decide_eq_true hj, Bool.true_and, Bool.true_and]
      cases c1 : hb (σ 23 t2) (nI j) with
      | false => simp
      | true =>
        by_cases c2 : σ (1001 + 2 * t2) j = -1
        · rw [c2, hD]
          have hne : ¬ nI D = -1 := fun z => by
            have := nI_toInt (n := D) (by omega)
            rw [z, show (-1 : Int32).toInt = -1 by decide] at this
            omega
          simp [hne]
        · rw [decide_eq_false c2, Bool.and_false, if_neg (by decide), decide_eq_true c2, Bool.true_and, Bool.and_true]
          have hle : σ (1001 + 2 * t2) j ≤ σ 1 0 := by
            have q1 : hadS σ t2 j (σ (1001 + 2 * t2) j) = true := by
              unfold hadS
              rw [decide_eq_true c2, decide_eq_true (Int32.le_refl _)]
              rfl
            rw [S1 t2 ht2 ha2 j hj, exN_iff] at q1
            obtain ⟨k, hk, q1⟩ := q1
            have q2 : hadS σ t2 j (σ 35 k) = true := by
              rw [S1 t2 ht2 ha2 j hj, exN_iff]
              refine ⟨k, hk, ?_⟩
              unfold ansG at q1 ⊢
              simp only [Bool.and_eq_true, decide_eq_true_eq] at q1 ⊢
              exact ⟨q1.1, Int32.le_refl _, q1.2.2⟩
            unfold hadS at q2
            rw [Bool.and_eq_true, decide_eq_true_eq, decide_eq_true_eq] at q2
            exact Int32.le_trans q2.2 (S3 k hk)
          by_cases c3 : σ (1001 + 2 * t2) j ≤ d
          · rw [decide_eq_true c3, Bool.true_or]
          · rw [decide_eq_false c3, decide_eq_false fun z => c3 (Int32.le_trans hle z)]
            rfl
    · have hnew : ansG σ' t2 j d cS = false := by
        unfold ansG
        rw [h34, decide_eq_false fun z => e ((nI_eq (by omega) (by omega)).mp z).symm, Bool.false_and]
      rw [hnew, Bool.or_false]
      unfold hadS
      rw [hF t2 j e]
  · by_cases e : k = cS
    · subst e
      exact ⟨t, ht, by rw [hacc]; exact ha, h34⟩
    · obtain ⟨t2, q1, q2, q3⟩ := S2 k (by omega)
      exact ⟨t2, q1, by rw [hacc]; exact q2, by rw [(hrow k e).1]; exact q3⟩
  · by_cases e : k = cS
    · subst e
      rw [h35, hday]
      exact Int32.le_refl _
    · rw [(hrow k e).2.1, hday]
      exact S3 k (by omega)
  · by_cases e : k = cS
    · subst e
      exact ⟨c, hc2, by rw [h36]; exact hc⟩
    · rw [(hrow k e).2.2]
      exact S4 k (by omega)
end ANS
