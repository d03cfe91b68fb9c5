/-! ===== the law's cases of a trial and a plea ===== -/
theorem gJ_am {a b : hσ} (h : AM a b) (t : Nat) (day : Int32) (k : Nat) : gJ a t day k = gJ b t day k := funext fun i => by
  unfold gJ
  rw [h 23 t (by decide) (by decide) (by decide) (by decide), h (1001 + 2 * t) i (by omega) (by omega) (by omega) (by omega)]
def endS (τ : hσ) (cS t : Nat) (conv : Int32) : hσ := sU (sU (sU (sU (sV (sU (sU (sU (sU (sU τ 32 t (τ 32 t ||| conv)) 34 cS (nI t)) 35 cS (τ 1 0)) 36 cS (τ 23 t)) 33 0 (nI (cS + 1))) (1001 + 2 * t) (gJ τ t (τ 1 0) 0)) 22 t 0) 23 t 0) 28 t 0) 26 t 0
theorem AM_end {s1 τ1 : hσ} {cS t : Nat} {conv day : Int32} (h : AM τ1 s1) (hd : τ1 1 0 = day) : AM (endS τ1 cS t conv) (ansS s1 t conv day) := by
  subst hd
  unfold endS ansS
  rw [show sU (sV s1 (1001 + 2 * t) (gJ s1 t (τ1 1 0) 0)) 32 t (s1 32 t ||| conv) = sV (sU s1 32 t (s1 32 t ||| conv)) (1001 + 2 * t) (gJ s1 t (τ1 1 0) 0) from (sV_sU (by omega)).symm, ← gJ_am h t (τ1 1 0) 0, ← h 32 t (by decide) (by decide) (by decide) (by decide)]
  exact (((((((((h.u 32 t _).m (by omega)).m (by omega)).m (by omega)).m (by omega)).v _ _).u 22 t 0).u 23 t 0).u 28 t 0).u 26 t 0
theorem BM_end {τ1 : hσ} {cS t : Nat} {conv : Int32} : BM (endS τ1 cS t conv) (spendS (sU τ1 32 t (τ1 32 t ||| conv)) cS t) := by
  unfold endS spendS
  rw [sU_ne (show 1 ≠ 32 by decide), sU_ne (show 23 ≠ 32 by decide)]
  exact (((((BM.rf _).v (by omega)).u 22 t 0).u 23 t 0).u 28 t 0).u 26 t 0
theorem Inv_end {cO cF cI cS t : Nat} {τ : hσ} {conv : Int32} (I : Inv cO cF cI cS τ) (ha : accS τ cF t = true) (h6 : cS < 600) : Inv cO cF cI (cS + 1) (endS τ cS t conv) := by
  have ht := acc48 I ha
  have hacc : ∀ t2, accS (endS τ cS t conv) cF t2 = accS τ cF t2 := fun t2 => by
    unfold endS
    simp (disch := omega) only [accS_c, accS_v]
  obtain ⟨o1, o2, o3, o4, ⟨c, hc2, hc⟩, o6, o7, o8, o9, o10⟩ := (I.2.2.2.2.2.1 t ht).2
  obtain ⟨-, -, -, -, -, -, -, -, D, hD, hday⟩ := I.1
  refine ⟨?_, ?_, ?_, ?_, ?_, ?_, ?_⟩
  · exact InvN_c (by omega) (InvN_c (by omega) (InvN_c (by omega) (InvN_c (by omega) (InvN_v (by omega) (InvN_s h6 (InvN_c (by omega) (InvN_c (by omega) (InvN_c (by omega) (InvN_c (by omega) I.1)))))))))
  · exact ExI_c (by omega) (ExI_c (by omega) (ExI_c (by omega) (ExI_c (by omega) (ExI_v (ExI_c (by omega) (ExI_c (by omega) (ExI_c (by omega) (ExI_c (by omega) (ExI_c (by omega) I.2.1)))))))))
  · exact InvO_c (by omega) (InvO_c (by omega) (InvO_c (by omega) (InvO_c (by omega) (InvO_v (by omega) (InvO_c (by omega) (InvO_c (by omega) (InvO_c (by omega) (InvO_c (by omega) (InvO_c (by omega) I.2.2.1)))))))))
  · exact InvI_c (by omega) (InvI_c (by omega) (InvI_c (by omega) (InvI_c (by omega) (InvI_v (by omega) (InvI_c (by omega) (InvI_c (by omega) (InvI_c (by omega) (InvI_c (by omega) (InvI_c (by omega) I.2.2.2.1)))))))))
  · exact InvF_c (by omega) (InvF_c (by omega) (InvF_c (by omega) (InvF_c (by omega) (InvF_v (by omega) (InvF_c (by omega) (InvF_c (by omega) (InvF_c (by omega) (InvF_c (by omega) (InvF_c (by omega) I.2.2.2.2.1)))))))))
  · refine InvT_at (t := t) I.2.2.2.2.2.1 ha hacc (fun t2 g e hg => ?_) (oneT_of (a22 := 0) (a23 := 0) (a24 := τ 24 t) (a26 := 0) (a27 := τ 27 t) (a28 := 0) (a29 := τ 29 t) (a30 := τ 30 t) (a50 := τ 50 t) (a51 := τ 51 t) ?_ ?_ ?_ ?_ ?_ ?_ ?_ ?_ ?_ ?_ ⟨Or.inl rfl, fun _ => ⟨rfl, rfl⟩, fun z => absurd z (by decide), fun z => absurd z (by decide), ⟨0, Nat.two_pow_pos cO, nI_0.symm⟩, o6, o7, ?_, Or.inl rfl, fun z => absurd z (by decide)⟩)
    · unfold endS
      simp (disch := omega) only [sU_nj e, sU_ne, sV_ne]
    all_goals first
      | (unfold endS; simp (disch := omega) only [sU_eq, sU_ne, sV_ne]; done)
      | skip
    obtain ⟨ee, l, k1, k2, k3, k4⟩ := o8
    exact ⟨ee, 0, k1, by omega, k3, nI_0.symm⟩
  · refine InvS_ans I.2.2.2.2.2.2 hacc ha ht ?_ hday hD hc hc2 (fun t2 j e => ?_) (fun j => ?_) ?_ ?_ ?_ (fun k hk => ⟨?_, ?_, ?_⟩)
    all_goals (unfold endS; first | (simp (disch := omega) only [sU_eq, sU_ne, sV_ne, sV_eq]; done) | (simp (disch := omega) only [sU_eq, sU_ne, sV_ne, sU_nj hk]; done))
theorem INV.ans {n : Nat} {M : hM} {A : hAd} {s1 τ1 : hσ} {w : Nat → Int64} {cO cF cI cS t : Nat} {conv day v : Int32} (R : Rep M A (ansS s1 t conv day) (spendS (sU τ1 32 t v) cS t) w) (hv : v = τ1 32 t ||| conv) (hA : AM τ1 s1) (hd : τ1 1 0 = day) (I : Inv cO cF cI cS τ1) (ha : accS τ1 cF t = true) (hn : cS ≤ n) (h6 : cS < 600) : INV (n + 1) M (A 0 0) (A 10 0) (A 12 0) := by
  subst hv
  exact INV.mk R (AM_end hA hd) BM_end (Inv_end I ha h6) (by omega)
theorem ExI_ans {cO cF cI t : Nat} {s : hσ} {conv day : Int32} (h : ExI cO cF cI s) : ExI cO cF cI (ansS s t conv day) := by
  unfold ansS
  exact ExI_c (by omega) (ExI_c (by omega) (ExI_c (by omega) (ExI_c (by omega) (ExI_c (by omega) (ExI_v h)))))
theorem c_ansE {M : hM} {A : hAd} {s τ : hσ} {w : Nat → Int64} (R : Rep M A s τ w) {t : Nat} (h1 : s 112 t = 1) (h2 : s 119 t = 1) (conv day : Int32) {Q : hM → Prop} (k : ∀ M' : hM, Rep M' A (ansS s t conv day) τ w → Q M') : wX0_answerCharges M (A 7 t) conv day Q := by
  obtain ⟨M', e, R'⟩ := c_answer R h1 h2 conv day Q
  rw [e]
  exact k M' R'
theorem spend_0 {τ : hσ} {cS t : Nat} : spendS τ cS t 0 0 = τ 0 0 := by
  unfold spendS
  simp (disch := decide) only [sU_ne]
theorem perm_plea (X : hσ) (t : Nat) (a b c d : Int32) : sU (sU (sU (sU X 31 t a) 32 t b) 37 0 c) 37 2 d = sU (sU (sU (sU X 37 2 d) 37 0 c) 31 t a) 32 t b := by
  rw [sU_comm (f := 37) (j := 0) (f' := 37) (j' := 2) (Or.inr (by decide)), sU_comm (f := 32) (f' := 37) (j' := 2) (Or.inl (by decide)), sU_comm (f := 31) (f' := 37) (j' := 2) (Or.inl (by decide)), sU_comm (f := 32) (f' := 37) (j' := 0) (Or.inl (by decide)), sU_comm (f := 31) (f' := 37) (j' := 0) (Or.inl (by decide))]
theorem disc_ex (z : Int32) : ∃ dd, fX4_discountAfter z = some dd ∧ ∀ F : Int32 → Prop, (if (10 : Int32) < z then (if (30 : Int32) < z then F 10 else F 25) else F 33) = F dd := by
  unfold fX4_discountAfter
  by_cases h1 : (10 : Int32) < z
  · by_cases h2 : (30 : Int32) < z
    · exact ⟨10, by rw [if_pos h1, if_pos h2], fun F => by rw [if_pos h1, if_pos h2]⟩
    · exact ⟨25, by rw [if_pos h1, if_neg h2], fun F => by rw [if_pos h1, if_neg h2]⟩
  · exact ⟨33, by rw [if_neg h1], fun F => by rw [if_neg h1]⟩
section WANS
variable {n : Nat} {M : hM} {x m out : Nat} {p1 p2 p3 p4 p5 p6 : Int32}
theorem case_11 (J : INV n M x m out) (hn6 : n < 600) : lw_11 M x m out p1 p2 p3 p4 p5 p6 (fun M' => INV (n + 1) M' x m out) := by
  obtain ⟨A, σ, w, cO, cF, cI, cS, ⟨rfl, rfl, rfl⟩, R, I, hn⟩ := J
  obtain ⟨hO, hO8, hF, hF6, hI, hI4, hSn, hS6, D, hD, hday⟩ := I.1
  have E := I.2.1
  unfold lw_11 wL_trial wX4_trial
  simp only [↓rd4e R]
  by_cases h : isinP σ cF p1 p2
  · have hh := h
    obtain ⟨f, p, rfl, rfl, hf, hp, ha⟩ := isin_acc h
    have ht := acc48 I ha
    rw [c_acc_t R E hF6 hf hp ha]
    try simp only [m8]
    obtain ⟨o1, o2, o3, o4, o5, o6, o7, o8, o9, o10⟩ := (I.2.2.2.2.2.1 _ ht).2
    have h112 := E.a ha
    have h119 := E.g ha
    by_cases c1 : σ 22 (8 * f + p) = 2
    · by_cases c2 : lackS σ cI (nI f) (nI p) = 0
      · have c2' : lackS σ cI (nI f) (nI p) ≤ 0 := (lackS_0 σ cI (nI f) (nI p)).mpr c2
        obtain ⟨c, hc2, hc⟩ := o5
        obtain ⟨g, hg2, hg⟩ := orN_nI (fun k => decide (k < cO) && (hb (σ 23 (8 * f + p)) (nI k) && strgS σ cI (8 * f + p) k 8 (σ 1 0))) 8 (by omega)
        have hg2 : g < 256 := hg2
        have hpg : prvS σ cO cI (8 * f + p) = nI g := hg
        have hpv : fX4_provenCharges M (A 0 0) (some (A 7 (8 * f + p))) = some (nI g) := by
          rw [c_proven R E hO8 ha, hpg]
        obtain ⟨g2, hg3, hg4⟩ := and_small (c := c) (by have := pw256 cO hO8; omega) (nI g ^^^ (-1))
        rw [← hc] at hg4
        have hb2 : fJ6_bitCount_0f7a4 (σ 23 (8 * f + p) &&& (nI g ^^^ (-1))) = some (nI (popN g2)) := by
          rw [hg4]
          exact sz6 g2 hg3
        have hs2 : fX5_size (σ 23 (8 * f + p) &&& (nI g ^^^ (-1))) = some (nI (popN g2)) := by
          rw [hg4]
          exact sz5 g2 hg3
        have hb1 : fJ6_bitCount_0f7a4 (nI g) = some (nI (popN g)) := sz6 g hg2
        have hs1 : fX5_size (nI g) = some (nI (popN g)) := sz5 g hg2
        obtain ⟨M1, e1, R1⟩ := wr4_7 R (σ 37 0 + nI (popN g))
        simp (disch := omega) only [↓rd0e R h112, c1, c2', ↓(fun (a b : Int32) (g : Int32 → Prop) => oex (c_lackedBy R E a b) g), ↓(fun (g : Int32 → Prop) => oex (hpv) g), ↓(fun (g : Int32 → Prop) => oex (hb1) g), ↓(fun (g : hM → Prop) => oex e1 g), ↓reduceIte, bI_f, bI_t, i10, i20, i30, sx, snf, ↓rd4e R, ↓rd4e R1, ↓rd0e R1 (by simp (disch := omega) only [sU_ne]; exact h112), sU_ne, sU_nj, ↓(fun (g : Int32 → Prop) => oex (hb2) g)]
        obtain ⟨M2, e2, R2⟩ := wr4_8 R1 (σ 37 1 + nI (popN g2))
        simp (disch := omega) only [↓(fun (g : hM → Prop) => oex e2 g), ↓reduceIte, bI_f, bI_t, i10, i20, i30, sx, snf, ↓rd4e R2, ↓rd0e R2 (by simp (disch := omega) only [sU_ne]; exact h112), sU_ne, sU_nj]
        refine c_ansE R2 (by simp (disch := omega) only [sU_ne]; exact h112) (by simp (disch := omega) only [sU_ne]; exact h119) (nI g) (σ 1 0) (fun M3 R3 => ?_)
        have E3 := ExI_ans (t := 8 * f + p) (conv := nI g) (day := σ 1 0) (ExI_c (f := 37) (j := 1) (x := σ 37 1 + nI (popN g2)) (by omega) (ExI_c (f := 37) (j := 0) (x := σ 37 0 + nI (popN g)) (by omega) E))
        obtain ⟨M4, e4, R4⟩ := wrJ R3 E3.out (nI g).toInt64
        refine ⟨M4, e4, ?_⟩
        simp only [wX5_trial, bX5_trial_43, bX5_trial_44, bX5_trial_65, m8]
        obtain ⟨M5, e5, R5⟩ := m_ref R4 0
        have hp5 : prvS (sU σ 0 0 0) cO cI (8 * f + p) = nI g := (prvS_c (Or.inl rfl)).trans hpg
        have hl := fun Q : hM → Int32 → Prop => lm_trial R5 (cO := cO) (cI := cI) (t := 8 * f + p) (by rw [sU_ne (by decide)]; exact hO) hO8 (by rw [sU_ne (by decide)]; exact hI) hI4 ht Q 1000 0 (by omega) (by omega)
        rw [hp5] at hl
        have hl2 : ∀ Q : hM → Int32 → Prop, lX5_trial_79 (A 10 0) Q (nI (8 * f + p)) 1000 M5 0 0 = lX5_trial_79 (A 10 0) Q (nI (8 * f + p)) 1 M5 (nI g) (nI cO) := hl
        simp (disch := omega) only [c1, c2, ↓(fun (g : Int32 → Prop) => oex (m_isIn_t R4 hF hF6 h) g), ↓(fun (a b : Int32) (g : Int32 → Prop) => oex (m_lacking R4 hI hI4 a b) g), ↓reduceIte, bI_f, bI_t, i10, i20, i30, sx, snf, ↓rd5e R4, ↓rdAe R4, e5, hl2]
        rw [lX5_trial_79]
        obtain ⟨M6, e6, R6⟩ := wrC0 R5 (σ 37 0 + nI (popN g))
        simp (disch := omega) only [↓rd5e R5, hO, nI_leI, Nat.le_refl, ↓reduceIte, bI_f, bI_t, i10, i20, i30, sx, snf, ↓rdCe R5, sU_ne, sU_nj, ↓(fun (g : Int32 → Prop) => oex (hs1) g), ↓(fun (g : hM → Prop) => oex e6 g), ↓rd5e R6, ↓rdCe R6, ↓rdAe R6, ↓(fun (g : Int32 → Prop) => oex (hs2) g)]
        obtain ⟨M7, e7, R7⟩ := wrC1 R6 (σ 37 1 + nI (popN g2))
        simp (disch := omega) only [↓(fun (g : hM → Prop) => oex e7 g), ↓rd5e R7, ↓rdAe R7, sU_ne, sU_nj]
        obtain ⟨M8, e8, R8⟩ := wrA R7 (f := 32) (n := 48) (k := 8 * f + p) rfl (by omega) (by decide) (σ 32 (8 * f + p) ||| nI g)
        obtain ⟨M9, e9, R9⟩ := m_spend R8 (cS := cS) (t := 8 * f + p) (by simp (disch := omega) only [sU_ne]; exact hSn) (by omega) ht
        simp only [↓(fun (g : hM → Prop) => oex e8 g), ↓rd5e R8, e9, ↓rd5e R9]
        refine endI0 R9 E3.out (by rw [spend_0]; simp (disch := omega) only [sU_ne, sU_eq]) rfl (INV.ans (n := n) R9 (by simp (disch := omega) only [sU_ne]) ((((AM.rf σ).m (by omega)).u 37 0 _).u 37 1 _) (by simp (disch := omega) only [sU_ne]) (Inv_c (Or.inr (Or.inr (Or.inr rfl))) (Or.inr (Or.inr rfl)) (Inv_c (Or.inr (Or.inr (Or.inr rfl))) (Or.inr (Or.inr rfl)) (I.thr 0))) (by simp (disch := omega) only [accS_c]; exact ha) hn (by omega))
      · have c2' : ¬ lackS σ cI (nI f) (nI p) ≤ 0 := fun z => c2 ((lackS_0 σ cI (nI f) (nI p)).mp z)
        simp only [↓rd0e R h112, ↓(fun (g : Int32 → Prop) => oex (m_isIn_t R hF hF6 h) g), c1, c2, c2', ↓(fun (a b : Int32) (g : Int32 → Prop) => oex (c_lackedBy R E a b) g), ↓(fun (a b : Int32) (g : Int32 → Prop) => oex (m_lacking R hI hI4 a b) g), ↓reduceIte, bI_f, bI_t, i10, i20, i30, sx, snf, ↓rd4e R]
        simp only [wX5_trial, bX5_trial_43, bX5_trial_44, bX5_trial_65, m8]
        obtain ⟨M3, e3, R3⟩ := m_ref R 2
        simp (disch := omega) only [↓rd0e R h112, ↓(fun (g : Int32 → Prop) => oex (m_isIn_t R hF hF6 h) g), c1, c2, c2', ↓(fun (a b : Int32) (g : Int32 → Prop) => oex (c_lackedBy R E a b) g), ↓(fun (a b : Int32) (g : Int32 → Prop) => oex (m_lacking R hI hI4 a b) g), ↓reduceIte, bI_f, bI_t, i10, i20, i30, sx, snf, ↓rd5e R, ↓rdAe R, e3, ↓rd5e R3]
        exact endF R3 (sU_eq _ _ _ _) (INV.same R3 I hn)
    ·
      simp only [↓rd0e R h112, ↓(fun (g : Int32 → Prop) => oex (m_isIn_t R hF hF6 h) g), c1, ↓reduceIte, bI_f, bI_t, i10, i20, i30, sx, snf, ↓rd4e R]
      simp only [wX5_trial, bX5_trial_43, bX5_trial_44, bX5_trial_65, m8]
      obtain ⟨M3, e3, R3⟩ := m_ref R 2
      simp (disch := omega) only [↓rd0e R h112, ↓(fun (g : Int32 → Prop) => oex (m_isIn_t R hF hF6 h) g), c1, ↓reduceIte, bI_f, bI_t, i10, i20, i30, sx, snf, ↓rd5e R, ↓rdAe R, e3, ↓rd5e R3]
      exact endF R3 (sU_eq _ _ _ _) (INV.same R3 I hn)
  · rw [c_acc_f R E hF6 h]
    simp only [↓(fun (g : Int32 → Prop) => oex (m_isIn_f R hF hF6 h) g), ↓reduceIte, bI_f, bI_t, i10, i20, i30, sx, snf, ↓rd4e R]
    simp only [wX5_trial, bX5_trial_43, bX5_trial_44, bX5_trial_65, m8]
    obtain ⟨M3, e3, R3⟩ := m_ref R 1
    simp (disch := omega) only [↓(fun (g : Int32 → Prop) => oex (m_isIn_f R hF hF6 h) g), ↓reduceIte, bI_f, bI_t, i10, i20, i30, sx, snf, ↓rd5e R, ↓rdAe R, e3, ↓rd5e R3]
    exact endF R3 (sU_eq _ _ _ _) (INV.same R3 I hn)
theorem case_12 (J : INV n M x m out) (hn6 : n < 600) : lw_12 M x m out p1 p2 p3 p4 p5 p6 (fun M' => INV (n + 1) M' x m out) := by
  obtain ⟨A, σ, w, cO, cF, cI, cS, ⟨rfl, rfl, rfl⟩, R, I, hn⟩ := J
  obtain ⟨hO, hO8, hF, hF6, hI, hI4, hSn, hS6, D, hD, hday⟩ := I.1
  have E := I.2.1
  unfold lw_12 wL_plea wX4_plea
  simp only [↓rd4e R]
  by_cases h : isinP σ cF p1 p2
  · have hh := h
    obtain ⟨f, p, rfl, rfl, hf, hp, ha⟩ := isin_acc h
    have ht := acc48 I ha
    rw [c_acc_t R E hF6 hf hp ha]
    try simp only [m8]
    obtain ⟨o1, o2, o3, o4, o5, o6, o7, o8, o9, o10⟩ := (I.2.2.2.2.2.1 _ ht).2
    have h112 := E.a ha
    have h119 := E.g ha
    cases g3 : (decide (0 ≤ p3) && decide (p3 < bitN cO)) with
    | false =>
      simp only [↓(fun (g : Int32 → Prop) => oex (m_isIn_t R hF hF6 h) g), ↓(fun (g : Int32 → Prop) => oex (m_areThere R hO p3) g), g3, ↓c_checkTold R hO hO8 p3, Bool.false_eq_true, ↓reduceIte, bI_f, bI_t, i10, i20, i30, sx, snf, ↓rd4e R]
      simp only [wX5_plea, bX5_plea_87, bX5_plea_88, bX5_plea_119, m8]
      obtain ⟨M3, e3, R3⟩ := m_ref R 2
      simp (disch := omega) only [↓(fun (g : Int32 → Prop) => oex (m_isIn_t R hF hF6 h) g), ↓(fun (g : Int32 → Prop) => oex (m_areThere R hO p3) g), g3, ↓c_checkTold R hO hO8 p3, Bool.false_eq_true, ↓reduceIte, bI_f, bI_t, i10, i20, i30, sx, snf, ↓rd5e R, ↓rdAe R, e3, ↓rd5e R3]
      exact endF R3 (sU_eq _ _ _ _) (INV.same R3 I hn)
    | true =>
      obtain ⟨n1, hn1, hn2, rfl⟩ := told_n hO8 g3
      by_cases c1 : σ 22 (8 * f + p) = 2
      · have h24 : σ 24 (8 * f + p) = σ 50 (8 * f + p) := o3 c1
        by_cases c2 : nI n1 = 0
        · have c2' : (nI n1 = 0) = True := eq_true c2
          simp only [↓(fun (g : Int32 → Prop) => oex (m_isIn_t R hF hF6 h) g), ↓(fun (g : Int32 → Prop) => oex (m_areThere R hO (nI n1)) g), g3, ↓c_checkTold R hO hO8 (nI n1), c1, ↓rd0e R h112, c2', ↓reduceIte, bI_f, bI_t, i10, i20, i30, sx, snf, ↓rd4e R]
          simp only [wX5_plea, bX5_plea_87, bX5_plea_88, bX5_plea_119, m8]
          obtain ⟨M3, e3, R3⟩ := m_ref R 3
          simp (disch := omega) only [↓(fun (g : Int32 → Prop) => oex (m_isIn_t R hF hF6 h) g), ↓(fun (g : Int32 → Prop) => oex (m_areThere R hO (nI n1)) g), g3, ↓c_checkTold R hO hO8 (nI n1), c1, ↓rd0e R h112, c2', ↓reduceIte, bI_f, bI_t, i10, i20, i30, sx, snf, ↓rd5e R, ↓rdAe R, e3, ↓rd5e R3]
          exact endF R3 (sU_eq _ _ _ _) (INV.same R3 I hn)
        · by_cases c3 : nI n1 &&& (σ 23 (8 * f + p) ^^^ (-1)) = 0
          · by_cases c4 : heavS σ cO (σ 23 (8 * f + p)) ≤ 2 * heavS σ cO (nI n1)
            · have c4' : ¬ 2 * heavS σ cO (nI n1) < heavS σ cO (σ 23 (8 * f + p)) := Int32.not_lt.mpr c4
              obtain ⟨dd, hd1, hd2⟩ := disc_ex (σ 1 0 - σ 50 (8 * f + p))
              have hb1 : fJ6_bitCount_0f7a4 (nI n1) = some (nI (popN n1)) := sz6 n1 hn2
              have hs1 : fX5_size (nI n1) = some (nI (popN n1)) := sz5 n1 hn2
              obtain ⟨M1, e1, R1⟩ := wr4_9 R (σ 37 2 + 1)
              simp (disch := omega) only [g3, ↓c_checkTold R hO hO8 (nI n1), ↓rd0e R h112, c1, c2, c3, c4, ↓(fun (z : Int32) (g : Int32 → Prop) => oex (c_gravity R E z) g), ↓(fun (g : Int32 → Prop) => oex (hd1) g), ↓(fun (g : hM → Prop) => oex e1 g), ↓reduceIte, bI_f, bI_t, i10, i20, i30, sx, snf, ↓rd4e R, ↓rd4e R1, sU_ne, sU_nj, ↓(fun (g : Int32 → Prop) => oex (hb1) g)]
              obtain ⟨M2, e2, R2⟩ := wr4_7 R1 (σ 37 0 + nI (popN n1))
              simp (disch := omega) only [↓(fun (g : hM → Prop) => oex e2 g), ↓reduceIte, bI_f, bI_t, i10, i20, i30, sx, snf, ↓rd4e R2, ↓rd0e R2 (by simp (disch := omega) only [sU_ne]; exact h112), sU_ne, sU_nj]
              obtain ⟨M3, e3, R3⟩ := wr0_11 R2 (by simp (disch := omega) only [sU_ne]; exact h112) (σ 31 (8 * f + p) + (12 * heavS σ cO (nI n1) * (100 - dd) / 100))
              simp (disch := omega) only [↓(fun (g : hM → Prop) => oex e3 g), ↓reduceIte, bI_f, bI_t, i10, i20, i30, sx, snf, ↓rd4e R3, ↓rd0e R3 (by simp (disch := omega) only [sU_ne]; exact h112), sU_ne, sU_nj]
              refine c_ansE R3 (by simp (disch := omega) only [sU_ne]; exact h112) (by simp (disch := omega) only [sU_ne]; exact h119) (nI n1) (σ 1 0) (fun M4 R4 => ?_)
              have E4 := ExI_ans (t := 8 * f + p) (conv := nI n1) (day := σ 1 0) (ExI_c (f := 31) (j := 8 * f + p) (x := σ 31 (8 * f + p) + (12 * heavS σ cO (nI n1) * (100 - dd) / 100)) (by omega) (ExI_c (f := 37) (j := 0) (x := σ 37 0 + nI (popN n1)) (by omega) (ExI_c (f := 37) (j := 2) (x := σ 37 2 + 1) (by omega) E)))
              obtain ⟨M5, e5, R5⟩ := wrJ R4 E4.out (12 * heavS σ cO (nI n1) * (100 - dd) / 100).toInt64
              refine ⟨M5, e5, ?_⟩
              simp only [wX5_plea, bX5_plea_87, bX5_plea_88, bX5_plea_119, m8]
              obtain ⟨M6, e6, R6⟩ := m_ref R5 0
              simp (disch := omega) only [g3, c1, c2, c3, c4', ↓(fun (g : Int32 → Prop) => oex (m_isIn_t R5 hF hF6 h) g), ↓(fun (g : Int32 → Prop) => oex (m_areThere R5 hO (nI n1)) g), ↓(fun (z : Int32) (g : Int32 → Prop) => oex (m_heavy R5 hO hO8 z) g), ↓reduceIte, bI_f, bI_t, i10, i20, i30, sx, snf, ↓rd5e R5, ↓rdAe R5, e6, ↓rd5e R6, ↓rdAe R6, sU_ne, h24]
              refine Eq.mpr (hd2 (fun d => bX5_plea_167 (A 10 0) _ M6 (nI n1) (nI (8 * f + p)) d)) ?_
              have hh6 : fX5_heavy M6 (A 10 0) (nI n1) = some (heavS σ cO (nI n1)) := by
                rw [m_heavy R6 (c := cO) (by rw [sU_ne (by decide)]; exact hO) hO8, heavS_c (by omega)]
              simp (disch := omega) only [bX5_plea_167, ↓(fun (g : Int32 → Prop) => oex (hh6) g), ↓rd5e R6, ↓rdAe R6, sU_ne]
              obtain ⟨M7, e7, R7⟩ := wrA R6 (f := 31) (n := 48) (k := 8 * f + p) rfl (by omega) (by decide) (σ 31 (8 * f + p) + (12 * heavS σ cO (nI n1) * (100 - dd) / 100))
              simp (disch := omega) only [↓(fun (g : hM → Prop) => oex e7 g), ↓rd5e R7, ↓rdAe R7, sU_ne]
              obtain ⟨M8, e8, R8⟩ := wrA R7 (f := 32) (n := 48) (k := 8 * f + p) rfl (by omega) (by decide) (σ 32 (8 * f + p) ||| nI n1)
              simp (disch := omega) only [↓(fun (g : hM → Prop) => oex e8 g), ↓rd5e R8, ↓rdCe R8, sU_ne, ↓(fun (g : Int32 → Prop) => oex (hs1) g)]
              obtain ⟨M9, e9, R9⟩ := wrC0 R8 (σ 37 0 + nI (popN n1))
              simp (disch := omega) only [↓(fun (g : hM → Prop) => oex e9 g), ↓rd5e R9, ↓rdCe R9, sU_ne, sU_nj]
              obtain ⟨M10, e10, R10⟩ := wrC2 R9 (σ 37 2 + 1)
              obtain ⟨M11, e11, R11⟩ := m_spend R10 (cS := cS) (t := 8 * f + p) (by simp (disch := omega) only [sU_ne]; exact hSn) (by omega) ht
              simp only [↓(fun (g : hM → Prop) => oex e10 g), ↓rd5e R10, e11, ↓rd5e R11]
              have R12 := R11
              rw [perm_plea] at R12
              refine endI0 R11 E4.out (by rw [spend_0]; simp (disch := omega) only [sU_ne, sU_eq]) rfl (INV.ans (n := n) R12 (by simp (disch := omega) only [sU_ne]) (((((AM.rf σ).m (by omega)).u 37 2 _).u 37 0 _).u 31 (8 * f + p) _) (by simp (disch := omega) only [sU_ne]) (Inv_c (Or.inr (Or.inl rfl)) (Or.inl (by simp (disch := omega) only [accS_c]; exact ha)) (Inv_c (Or.inr (Or.inr (Or.inr rfl))) (Or.inr (Or.inr rfl)) (Inv_c (Or.inr (Or.inr (Or.inr rfl))) (Or.inr (Or.inr rfl)) (I.thr 0)))) (by simp (disch := omega) only [accS_c]; exact ha) hn (by omega))
            · have c4' : 2 * heavS σ cO (nI n1) < heavS σ cO (σ 23 (8 * f + p)) := Int32.not_le.mp c4
              simp only [↓(fun (g : Int32 → Prop) => oex (m_isIn_t R hF hF6 h) g), ↓(fun (g : Int32 → Prop) => oex (m_areThere R hO (nI n1)) g), g3, ↓c_checkTold R hO hO8 (nI n1), c1, ↓rd0e R h112, c2, c3, c4, c4', ↓(fun (z : Int32) (g : Int32 → Prop) => oex (c_gravity R E z) g), ↓(fun (z : Int32) (g : Int32 → Prop) => oex (m_heavy R hO hO8 z) g), ↓reduceIte, bI_f, bI_t, i10, i20, i30, sx, snf, ↓rd4e R]
              simp only [wX5_plea, bX5_plea_87, bX5_plea_88, bX5_plea_119, m8]
              obtain ⟨M3, e3, R3⟩ := m_ref R 3
              simp (disch := omega) only [↓(fun (g : Int32 → Prop) => oex (m_isIn_t R hF hF6 h) g), ↓(fun (g : Int32 → Prop) => oex (m_areThere R hO (nI n1)) g), g3, ↓c_checkTold R hO hO8 (nI n1), c1, ↓rd0e R h112, c2, c3, c4, c4', ↓(fun (z : Int32) (g : Int32 → Prop) => oex (c_gravity R E z) g), ↓(fun (z : Int32) (g : Int32 → Prop) => oex (m_heavy R hO hO8 z) g), ↓reduceIte, bI_f, bI_t, i10, i20, i30, sx, snf, ↓rd5e R, ↓rdAe R, e3, ↓rd5e R3]
              exact endF R3 (sU_eq _ _ _ _) (INV.same R3 I hn)
          ·
            simp only [↓(fun (g : Int32 → Prop) => oex (m_isIn_t R hF hF6 h) g), ↓(fun (g : Int32 → Prop) => oex (m_areThere R hO (nI n1)) g), g3, ↓c_checkTold R hO hO8 (nI n1), c1, ↓rd0e R h112, c2, c3, ↓reduceIte, bI_f, bI_t, i10, i20, i30, sx, snf, ↓rd4e R]
            simp only [wX5_plea, bX5_plea_87, bX5_plea_88, bX5_plea_119, m8]
            obtain ⟨M3, e3, R3⟩ := m_ref R 3
            simp (disch := omega) only [↓(fun (g : Int32 → Prop) => oex (m_isIn_t R hF hF6 h) g), ↓(fun (g : Int32 → Prop) => oex (m_areThere R hO (nI n1)) g), g3, ↓c_checkTold R hO hO8 (nI n1), c1, ↓rd0e R h112, c2, c3, ↓reduceIte, bI_f, bI_t, i10, i20, i30, sx, snf, ↓rd5e R, ↓rdAe R, e3, ↓rd5e R3]
            exact endF R3 (sU_eq _ _ _ _) (INV.same R3 I hn)
      ·
        simp only [↓(fun (g : Int32 → Prop) => oex (m_isIn_t R hF hF6 h) g), ↓(fun (g : Int32 → Prop) => oex (m_areThere R hO (nI n1)) g), g3, ↓c_checkTold R hO hO8 (nI n1), c1, ↓rd0e R h112, ↓reduceIte, bI_f, bI_t, i10, i20, i30, sx, snf, ↓rd4e R]
        simp only [wX5_plea, bX5_plea_87, bX5_plea_88, bX5_plea_119, m8]
        obtain ⟨M3, e3, R3⟩ := m_ref R 3
        simp (disch := omega) only [↓(fun (g : Int32 → Prop) => oex (m_isIn_t R hF hF6 h) g), ↓(fun (g : Int32 → Prop) => oex (m_areThere R hO (nI n1)) g), g3, ↓c_checkTold R hO hO8 (nI n1), c1, ↓rd0e R h112, ↓reduceIte, bI_f, bI_t, i10, i20, i30, sx, snf, ↓rd5e R, ↓rdAe R, e3, ↓rd5e R3]
        exact endF R3 (sU_eq _ _ _ _) (INV.same R3 I hn)
  · rw [c_acc_f R E hF6 h]
    simp only [↓(fun (g : Int32 → Prop) => oex (m_isIn_f R hF hF6 h) g), ↓(fun (g : Int32 → Prop) => oex (m_areThere R hO p3) g), ↓reduceIte, bI_f, bI_t, i10, i20, i30, sx, snf, ↓rd4e R]
    simp only [wX5_plea, bX5_plea_87, bX5_plea_88, bX5_plea_119, m8]
    obtain ⟨M3, e3, R3⟩ := m_ref R 1
    simp (disch := omega) only [↓(fun (g : Int32 → Prop) => oex (m_isIn_f R hF hF6 h) g), ↓(fun (g : Int32 → Prop) => oex (m_areThere R hO p3) g), ↓reduceIte, bI_f, bI_t, i10, i20, i30, sx, snf, ↓rd5e R, ↓rdAe R, e3, ↓rd5e R3]
    exact endF R3 (sU_eq _ _ _ _) (INV.same R3 I hn)
end WANS
