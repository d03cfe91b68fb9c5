/-! ===== the law's cases that write ===== -/
theorem INV.mk {n : Nat} {M : hM} {A : hAd} {s τ : hσ} {w : Nat → Int64} {cO cF cI cS : Nat} (R : Rep M A s τ w) {σ' : hσ} (h1 : AM σ' s) (h2 : BM σ' τ) (I : Inv cO cF cI cS σ') (hn : cS ≤ n) : INV n M (A 0 0) (A 10 0) (A 12 0) := ⟨A, σ', w, cO, cF, cI, cS, ⟨rfl, rfl, rfl⟩, R.fin h1 h2, I, hn⟩
section WRITE
variable {n : Nat} {M : hM} {x m out : Nat} {p1 p2 p3 p4 p5 p6 : Int32}
theorem case_5 (J : INV n M x m out) : lw_5 M x m out p1 p2 p3 p4 p5 p6 (fun M' => INV (n + 1) M' x m out) := by
  obtain ⟨A, σ, w, cO, cF, cI, cS, ⟨rfl, rfl, rfl⟩, R, I, hn⟩ := J
  obtain ⟨hO, hO8, hF, hF6, hI, hI4, hSn, hS6, D, hD, hday⟩ := I.1
  have E := I.2.1
  unfold lw_5 wL_admit wX4_admit
  simp only [↓rd4e R]
  by_cases h : ∃ k, k < cI ∧ p1 = nI k
  · have q3 : inR p1 0 (σ 11 0 - 1) = true := by
      rw [hI]
      obtain ⟨a, ha, e⟩ := h
      exact (inR_pre (by omega)).mpr ⟨a, ha, e⟩
    obtain ⟨k, hk, rfl⟩ := h
    have h40 : k < 40 := by omega
    by_cases c1 : σ 16 k = 1
    · by_cases c2 : σ 19 k = -1
      · obtain ⟨M1, e1, R1⟩ := wr2_7 R (E.i hk) (σ 1 0)
        simp only [↓(fun (g : Option Nat → Prop) => oex (c_itemAt_t R E h40 hk) g), ↓rd2e R (E.i hk), c1, c2, ↓(fun (g : hM → Prop) => oex e1 g), ↓reduceIte, bI_f, bI_t, i10, i20, i30, sx, snf, ↓rd4e R]
        simp only [wX5_admit, bX5_admit_35, bX5_admit_40, m8]
        obtain ⟨M3, e3, R3⟩ := m_ref R1 0
        simp (disch := omega) only [q3, c1, c2, ↓(fun (g : Int32 → Prop) => oex (m_isItem R1 (nI k)) g), ↓reduceIte, bI_f, bI_t, i10, i20, i30, sx, snf, ↓rd5e R1, ↓rdAe R1, e3, ↓rd5e R3, sU_ne]
        obtain ⟨M4, e4, R4⟩ := wrA R3 (f := 19) (n := 40) (k := k) rfl (by omega) (by decide) (σ 1 0)
        simp only [↓(fun (g : hM → Prop) => oex e4 g), ↓rd5e R4]
        exact endF R4 (by rw [sU_ne (by decide), sU_eq]) (INV.mk R4 (((AM.rf σ).m (by omega)).u 19 k (σ 1 0)) (((BM.rf σ).u 0 0 0).u 19 k (σ 1 0)) ⟨(InvN_c (by omega) (InvN_c (by omega) I.1)), (ExI_c (by omega) (ExI_c (by omega) I.2.1)), (InvO_c (by omega) (InvO_c (by omega) I.2.2.1)), (InvI_c (by omega) (InvI_c (by omega) I.2.2.2.1)), (InvF_c (by omega) (InvF_c (by omega) I.2.2.2.2.1)), (InvT_c (by omega) (InvT_c (by omega) I.2.2.2.2.2.1)), (InvS_c (by omega) (InvS_c (by omega) I.2.2.2.2.2.2))⟩ (by omega))
      ·
        simp only [↓(fun (g : Option Nat → Prop) => oex (c_itemAt_t R E h40 hk) g), ↓rd2e R (E.i hk), c1, c2, q3, ↓(fun (g : Int32 → Prop) => oex (m_isItem R (nI k)) g), ↓reduceIte, bI_f, bI_t, i10, i20, i30, sx, snf, ↓rd4e R]
        simp only [wX5_admit, bX5_admit_35, bX5_admit_40, m8]
        obtain ⟨M3, e3, R3⟩ := m_ref R 2
        simp (disch := omega) only [↓(fun (g : Option Nat → Prop) => oex (c_itemAt_t R E h40 hk) g), ↓rd2e R (E.i hk), c1, c2, q3, ↓(fun (g : Int32 → Prop) => oex (m_isItem R (nI k)) g), ↓reduceIte, bI_f, bI_t, i10, i20, i30, sx, snf, ↓rd5e R, ↓rdAe R, e3, ↓rd5e R3]
        exact endF R3 (sU_eq _ _ _ _) (INV.same R3 I hn)
    ·
      simp only [↓(fun (g : Option Nat → Prop) => oex (c_itemAt_t R E h40 hk) g), ↓rd2e R (E.i hk), c1, c2, q3, ↓(fun (g : Int32 → Prop) => oex (m_isItem R (nI k)) g), ↓reduceIte, bI_f, bI_t, i10, i20, i30, sx, snf, ↓rd4e R]
      simp only [wX5_admit, bX5_admit_35, bX5_admit_40, m8]
      obtain ⟨M3, e3, R3⟩ := m_ref R 2
      simp (disch := omega) only [↓(fun (g : Option Nat → Prop) => oex (c_itemAt_t R E h40 hk) g), ↓rd2e R (E.i hk), c1, c2, q3, ↓(fun (g : Int32 → Prop) => oex (m_isItem R (nI k)) g), ↓reduceIte, bI_f, bI_t, i10, i20, i30, sx, snf, ↓rd5e R, ↓rdAe R, e3, ↓rd5e R3]
      exact endF R3 (sU_eq _ _ _ _) (INV.same R3 I hn)
  · have q3 : inR p1 0 (σ 11 0 - 1) = false := by
      rw [hI, ← Bool.not_eq_true, inR_pre (by omega)]
      exact h
    simp only [q3, ↓(fun (g : Option Nat → Prop) => oex (c_itemAt_f R E h) g), ↓(fun (g : Int32 → Prop) => oex (m_isItem R p1) g), ↓reduceIte, bI_f, bI_t, i10, i20, i30, sx, snf, ↓rd4e R]
    simp only [wX5_admit, bX5_admit_35, bX5_admit_40, m8]
    obtain ⟨M3, e3, R3⟩ := m_ref R 1
    simp (disch := omega) only [q3, ↓(fun (g : Option Nat → Prop) => oex (c_itemAt_f R E h) g), ↓(fun (g : Int32 → Prop) => oex (m_isItem R p1) g), ↓reduceIte, bI_f, bI_t, i10, i20, i30, sx, snf, ↓rd5e R, ↓rdAe R, e3, ↓rd5e R3]
    exact endF R3 (sU_eq _ _ _ _) (INV.same R3 I hn)
theorem case_6 (J : INV n M x m out) : lw_6 M x m out p1 p2 p3 p4 p5 p6 (fun M' => INV (n + 1) M' x m out) := by
  obtain ⟨A, σ, w, cO, cF, cI, cS, ⟨rfl, rfl, rfl⟩, R, I, hn⟩ := J
  obtain ⟨hO, hO8, hF, hF6, hI, hI4, hSn, hS6, D, hD, hday⟩ := I.1
  have E := I.2.1
  unfold lw_6 wL_show wX4_show
  simp only [↓rd4e R]
  by_cases h : ∃ k, k < cI ∧ p1 = nI k
  · have q3 : inR p1 0 (σ 11 0 - 1) = true := by
      rw [hI]
      obtain ⟨a, ha, e⟩ := h
      exact (inR_pre (by omega)).mpr ⟨a, ha, e⟩
    obtain ⟨k, hk, rfl⟩ := h
    have h40 : k < 40 := by omega
    cases g4 : inR p2 0 7 with
    | false =>
      simp only [↓(fun (g : Option Nat → Prop) => oex (c_itemAt_t R E h40 hk) g), q3, g4, ↓(fun (g : Int32 → Prop) => oex (in4 p2 0 7) g), ↓(fun (g : Int32 → Prop) => oex (in5 p2 0 7) g), ↓(fun (g : Int32 → Prop) => oex (m_isItem R (nI k)) g), ↓reduceIte, bI_f, bI_t, i10, i20, i30, sx, snf, ↓rd4e R]
      simp only [wX5_show, bX5_show_22, bX5_show_23, bX5_show_59, bX5_show_64, m8]
      obtain ⟨M3, e3, R3⟩ := m_ref R 1
      simp (disch := omega) only [↓(fun (g : Option Nat → Prop) => oex (c_itemAt_t R E h40 hk) g), q3, g4, ↓(fun (g : Int32 → Prop) => oex (in4 p2 0 7) g), ↓(fun (g : Int32 → Prop) => oex (in5 p2 0 7) g), ↓(fun (g : Int32 → Prop) => oex (m_isItem R (nI k)) g), ↓reduceIte, bI_f, bI_t, i10, i20, i30, sx, snf, ↓rd5e R, ↓rdAe R, e3, ↓rd5e R3]
      exact endF R3 (sU_eq _ _ _ _) (INV.same R3 I hn)
    | true =>
      cases c1 : hb (σ 15 k) p2 with
      | false =>
        simp only [↓(fun (g : Option Nat → Prop) => oex (c_itemAt_t R E h40 hk) g), q3, g4, c1, ↓(fun (g : Int32 → Prop) => oex (in4 p2 0 7) g), ↓(fun (g : Int32 → Prop) => oex (in5 p2 0 7) g), ↓(fun (g : Int32 → Prop) => oex (m_isItem R (nI k)) g), ↓rd2e R (E.i hk), ↓(fun (g : Int32 → Prop) => oex (c_isAgainst R (E.i hk) p2) g), ↓(fun (g : Int32 → Prop) => oex (c_wasShownTo R (E.i hk) p2) g), ↓(fun (a b : Int32) (g : Int32 → Prop) => oex (has5 a b) g), ↓reduceIte, bI_f, bI_t, i10, i20, i30, sx, snf, ↓rd4e R]
        simp only [wX5_show, bX5_show_22, bX5_show_23, bX5_show_59, bX5_show_64, m8]
        obtain ⟨M3, e3, R3⟩ := m_ref R 2
        simp (disch := omega) only [↓(fun (g : Option Nat → Prop) => oex (c_itemAt_t R E h40 hk) g), q3, g4, c1, ↓(fun (g : Int32 → Prop) => oex (in4 p2 0 7) g), ↓(fun (g : Int32 → Prop) => oex (in5 p2 0 7) g), ↓(fun (g : Int32 → Prop) => oex (m_isItem R (nI k)) g), ↓rd2e R (E.i hk), ↓(fun (g : Int32 → Prop) => oex (c_isAgainst R (E.i hk) p2) g), ↓(fun (g : Int32 → Prop) => oex (c_wasShownTo R (E.i hk) p2) g), ↓(fun (a b : Int32) (g : Int32 → Prop) => oex (has5 a b) g), ↓reduceIte, bI_f, bI_t, i10, i20, i30, sx, snf, ↓rd5e R, ↓rdAe R, e3, ↓rd5e R3]
        exact endF R3 (sU_eq _ _ _ _) (INV.same R3 I hn)
      | true =>
        cases c2 : hb (σ 20 k) p2 with
        | true =>
          simp only [↓(fun (g : Option Nat → Prop) => oex (c_itemAt_t R E h40 hk) g), q3, g4, c1, ↓(fun (g : Int32 → Prop) => oex (in4 p2 0 7) g), ↓(fun (g : Int32 → Prop) => oex (in5 p2 0 7) g), ↓(fun (g : Int32 → Prop) => oex (m_isItem R (nI k)) g), ↓rd2e R (E.i hk), ↓(fun (g : Int32 → Prop) => oex (c_isAgainst R (E.i hk) p2) g), ↓(fun (g : Int32 → Prop) => oex (c_wasShownTo R (E.i hk) p2) g), ↓(fun (a b : Int32) (g : Int32 → Prop) => oex (has5 a b) g), c2, ↓reduceIte, bI_f, bI_t, i10, i20, i30, sx, snf, ↓rd4e R]
          simp only [wX5_show, bX5_show_22, bX5_show_23, bX5_show_59, bX5_show_64, m8]
          obtain ⟨M3, e3, R3⟩ := m_ref R 2
          simp (disch := omega) only [↓(fun (g : Option Nat → Prop) => oex (c_itemAt_t R E h40 hk) g), q3, g4, c1, ↓(fun (g : Int32 → Prop) => oex (in4 p2 0 7) g), ↓(fun (g : Int32 → Prop) => oex (in5 p2 0 7) g), ↓(fun (g : Int32 → Prop) => oex (m_isItem R (nI k)) g), ↓rd2e R (E.i hk), ↓(fun (g : Int32 → Prop) => oex (c_isAgainst R (E.i hk) p2) g), ↓(fun (g : Int32 → Prop) => oex (c_wasShownTo R (E.i hk) p2) g), ↓(fun (a b : Int32) (g : Int32 → Prop) => oex (has5 a b) g), c2, ↓reduceIte, bI_f, bI_t, i10, i20, i30, sx, snf, ↓rd5e R, ↓rdAe R, e3, ↓rd5e R3]
          exact endF R3 (sU_eq _ _ _ _) (INV.same R3 I hn)
        | false =>
          obtain ⟨M1, e1, R1⟩ := wr2_8 R (E.i hk) (σ 20 k ||| (1 <<< (p2 &&& 31)))
          have E1 : ExI cO cF cI (sU σ 20 k (σ 20 k ||| (1 <<< (p2 &&& 31)))) := ExI_c (by omega) E
          simp only [↓(fun (g : Option Nat → Prop) => oex (c_itemAt_t R E h40 hk) g), ↓rd2e R (E.i hk), c1, c2, g4, ↓(fun (g : Int32 → Prop) => oex (in4 p2 0 7) g), ↓(fun (g : Int32 → Prop) => oex (c_isAgainst R (E.i hk) p2) g), ↓(fun (g : Int32 → Prop) => oex (c_wasShownTo R (E.i hk) p2) g), ↓(fun (g : hM → Prop) => oex e1 g), ↓reduceIte, bI_f, bI_t, i10, i20, i30, sx, snf, ↓rd4e R, ↓rd2e R1 (E1.i hk), ↓rd4e R1, ↓(fun (a b : Int32) (g : Int32 → Prop) => oex (c_lackedBy R1 E1 a b) g)]
          obtain ⟨M2, e2, R2⟩ := wrJ R1 E1.out (lackS (sU σ 20 k (σ 20 k ||| (1 <<< (p2 &&& 31)))) cI (sU σ 20 k (σ 20 k ||| (1 <<< (p2 &&& 31))) 12 k) p2).toInt64
          refine ⟨M2, e2, ?_⟩
          simp only [wX5_show, bX5_show_22, bX5_show_23, bX5_show_59, bX5_show_64, m8]
          obtain ⟨M3, e3, R3⟩ := m_ref R2 0
          simp (disch := omega) only [q3, g4, c1, c2, ↓(fun (g : Int32 → Prop) => oex (in5 p2 0 7) g), ↓(fun (g : Int32 → Prop) => oex (m_isItem R2 (nI k)) g), ↓(fun (a b : Int32) (g : Int32 → Prop) => oex (has5 a b) g), ↓reduceIte, bI_f, bI_t, i10, i20, i30, sx, snf, ↓rd5e R2, ↓rdAe R2, e3, ↓rd5e R3, ↓rdAe R3, sU_ne]
          obtain ⟨M4, e4, R4⟩ := wrA R3 (f := 20) (n := 40) (k := k) rfl (by omega) (by decide) (σ 20 k ||| (1 <<< (p2 &&& 31)))
          simp (disch := omega) only [↓(fun (g : hM → Prop) => oex e4 g), ↓rd5e R4, ↓rdAe R4, sU_ne, ↓(fun (a b : Int32) (g : Int32 → Prop) => oex (m_lacking R4 (c := cI) (by rw [sU_ne (by decide), sU_ne (by decide)]; exact hI) hI4 a b) g)]
          refine endI0 R4 E1.out (by rw [sU_ne (by decide), sU_eq]) ?_ (INV.mk R4 (((AM.rf σ).m (by omega)).u 20 k (σ 20 k ||| (1 <<< (p2 &&& 31)))) (((BM.rf σ).u 0 0 0).u 20 k (σ 20 k ||| (1 <<< (p2 &&& 31)))) ⟨(InvN_c (by omega) (InvN_c (by omega) I.1)), (ExI_c (by omega) (ExI_c (by omega) I.2.1)), (InvO_c (by omega) (InvO_c (by omega) I.2.2.1)), (fun k2 hk2 => by
            have q := I.2.2.2.1 k2 hk2
            have ne : k2 ≠ k := by omega
            rw [sU_nj ne, sU_ne (by decide), sU_ne (by decide), sU_ne (by decide)]
            exact q), (InvF_c (by omega) (InvF_c (by omega) I.2.2.2.2.1)), (InvT_c (by omega) (InvT_c (by omega) I.2.2.2.2.2.1)), (InvS_c (by omega) (InvS_c (by omega) I.2.2.2.2.2.2))⟩ (by omega))
          rw [lackS_ao ((AO.thr σ 0).u 20 k _), sU_ne (show 12 ≠ 20 by decide)]
          rfl
  · have q3 : inR p1 0 (σ 11 0 - 1) = false := by
      rw [hI, ← Bool.not_eq_true, inR_pre (by omega)]
      exact h
    simp only [q3, ↓(fun (g : Option Nat → Prop) => oex (c_itemAt_f R E h) g), ↓(fun (g : Int32 → Prop) => oex (m_isItem R p1) g), ↓reduceIte, bI_f, bI_t, i10, i20, i30, sx, snf, ↓rd4e R]
    simp only [wX5_show, bX5_show_22, bX5_show_23, bX5_show_59, bX5_show_64, m8]
    obtain ⟨M3, e3, R3⟩ := m_ref R 1
    simp (disch := omega) only [q3, ↓(fun (g : Option Nat → Prop) => oex (c_itemAt_f R E h) g), ↓(fun (g : Int32 → Prop) => oex (m_isItem R p1) g), ↓reduceIte, bI_f, bI_t, i10, i20, i30, sx, snf, ↓rd5e R, ↓rdAe R, e3, ↓rd5e R3]
    exact endF R3 (sU_eq _ _ _ _) (INV.same R3 I hn)
theorem case_7 (J : INV n M x m out) : lw_7 M x m out p1 p2 p3 p4 p5 p6 (fun M' => INV (n + 1) M' x m out) := by
  obtain ⟨A, σ, w, cO, cF, cI, cS, ⟨rfl, rfl, rfl⟩, R, I, hn⟩ := J
  obtain ⟨hO, hO8, hF, hF6, hI, hI4, hSn, hS6, D, hD, hday⟩ := I.1
  have E := I.2.1
  unfold lw_7 wL_withhold wX4_withhold
  simp only [↓rd4e R]
  by_cases h : ∃ k, k < cI ∧ p1 = nI k
  · have q3 : inR p1 0 (σ 11 0 - 1) = true := by
      rw [hI]
      obtain ⟨a, ha, e⟩ := h
      exact (inR_pre (by omega)).mpr ⟨a, ha, e⟩
    obtain ⟨k, hk, rfl⟩ := h
    have h40 : k < 40 := by omega
    by_cases c1 : σ 17 k = 0
    ·
      simp only [↓(fun (g : Option Nat → Prop) => oex (c_itemAt_t R E h40 hk) g), q3, c1, ↓(fun (g : Int32 → Prop) => oex (m_isItem R (nI k)) g), ↓rd2e R (E.i hk), ↓reduceIte, bI_f, bI_t, i10, i20, i30, sx, snf, ↓rd4e R]
      simp only [wX5_withhold, bX5_withhold_33, bX5_withhold_38, m8]
      obtain ⟨M3, e3, R3⟩ := m_ref R 2
      simp (disch := omega) only [↓(fun (g : Option Nat → Prop) => oex (c_itemAt_t R E h40 hk) g), q3, c1, ↓(fun (g : Int32 → Prop) => oex (m_isItem R (nI k)) g), ↓rd2e R (E.i hk), ↓reduceIte, bI_f, bI_t, i10, i20, i30, sx, snf, ↓rd5e R, ↓rdAe R, e3, ↓rd5e R3]
      exact endF R3 (sU_eq _ _ _ _) (INV.same R3 I hn)
    · by_cases c2 : σ 21 k = 0
      · obtain ⟨M1, e1, R1⟩ := wr2_9 R (E.i hk) 1 (Or.inr rfl)
        simp only [↓(fun (g : Option Nat → Prop) => oex (c_itemAt_t R E h40 hk) g), ↓rd2e R (E.i hk), c1, c2, ↓(fun (g : hM → Prop) => oex e1 g), ↓reduceIte, bI_f, bI_t, i10, i20, i30, sx, snf, ↓rd4e R]
        simp only [wX5_withhold, bX5_withhold_33, bX5_withhold_38, m8]
        obtain ⟨M3, e3, R3⟩ := m_ref R1 0
        simp (disch := omega) only [q3, c1, c2, ↓(fun (g : Int32 → Prop) => oex (m_isItem R1 (nI k)) g), ↓reduceIte, bI_f, bI_t, i10, i20, i30, sx, snf, ↓rd5e R1, ↓rdAe R1, e3, ↓rd5e R3, sU_ne]
        obtain ⟨M4, e4, R4⟩ := wrB R3 (f := 21) (n := 40) (k := k) rfl (by omega) (by decide) 1 (Or.inr rfl)
        simp only [↓(fun (g : hM → Prop) => oex e4 g), ↓rd5e R4]
        exact endF R4 (by rw [sU_ne (by decide), sU_eq]) (INV.mk R4 (((AM.rf σ).m (by omega)).u 21 k 1) (((BM.rf σ).u 0 0 0).u 21 k 1) ⟨(InvN_c (by omega) (InvN_c (by omega) I.1)), (ExI_c (by omega) (ExI_c (by omega) I.2.1)), (InvO_c (by omega) (InvO_c (by omega) I.2.2.1)), (fun k2 hk2 => by
          have q := I.2.2.2.1 k2 hk2
          have ne : k2 ≠ k := by omega
          rw [sU_ne (by decide), sU_nj ne, sU_ne (by decide), sU_ne (by decide)]
          exact q), (InvF_c (by omega) (InvF_c (by omega) I.2.2.2.2.1)), (InvT_c (by omega) (InvT_c (by omega) I.2.2.2.2.2.1)), (InvS_c (by omega) (InvS_c (by omega) I.2.2.2.2.2.2))⟩ (by omega))
      ·
        simp only [↓(fun (g : Option Nat → Prop) => oex (c_itemAt_t R E h40 hk) g), q3, c1, ↓(fun (g : Int32 → Prop) => oex (m_isItem R (nI k)) g), ↓rd2e R (E.i hk), c2, ↓reduceIte, bI_f, bI_t, i10, i20, i30, sx, snf, ↓rd4e R]
        simp only [wX5_withhold, bX5_withhold_33, bX5_withhold_38, m8]
        obtain ⟨M3, e3, R3⟩ := m_ref R 2
        simp (disch := omega) only [↓(fun (g : Option Nat → Prop) => oex (c_itemAt_t R E h40 hk) g), q3, c1, ↓(fun (g : Int32 → Prop) => oex (m_isItem R (nI k)) g), ↓rd2e R (E.i hk), c2, ↓reduceIte, bI_f, bI_t, i10, i20, i30, sx, snf, ↓rd5e R, ↓rdAe R, e3, ↓rd5e R3]
        exact endF R3 (sU_eq _ _ _ _) (INV.same R3 I hn)
  · have q3 : inR p1 0 (σ 11 0 - 1) = false := by
      rw [hI, ← Bool.not_eq_true, inR_pre (by omega)]
      exact h
    simp only [q3, ↓(fun (g : Option Nat → Prop) => oex (c_itemAt_f R E h) g), ↓(fun (g : Int32 → Prop) => oex (m_isItem R p1) g), ↓reduceIte, bI_f, bI_t, i10, i20, i30, sx, snf, ↓rd4e R]
    simp only [wX5_withhold, bX5_withhold_33, bX5_withhold_38, m8]
    obtain ⟨M3, e3, R3⟩ := m_ref R 1
    simp (disch := omega) only [q3, ↓(fun (g : Option Nat → Prop) => oex (c_itemAt_f R E h) g), ↓(fun (g : Int32 → Prop) => oex (m_isItem R p1) g), ↓reduceIte, bI_f, bI_t, i10, i20, i30, sx, snf, ↓rd5e R, ↓rdAe R, e3, ↓rd5e R3]
    exact endF R3 (sU_eq _ _ _ _) (INV.same R3 I hn)
theorem leftM_c2 {s : hσ} {f j t : Nat} {x : Int32} (hf : f ≠ 22 ∧ f ≠ 27 ∧ f ≠ 28 ∧ f ≠ 29) : leftM (sU s f j x) t = leftM s t := by
  unfold leftM
  simp (disch := omega) only [sU_ne]
theorem ceilS_V (s : hσ) (t : Nat) : ceilS s t = ceilV (s 30 t) := rfl
theorem told_n {c : Nat} (hc : c ≤ 8) {a : Int32} (h : (decide (0 ≤ a) && decide (a < bitN c)) = true) : ∃ n, n < 2 ^ c ∧ n < 256 ∧ a = nI n := by
  rw [Bool.and_eq_true, decide_eq_true_eq, decide_eq_true_eq, bitN_nI (by omega)] at h
  obtain ⟨j, hj, rfl⟩ := nI_of (Int32.not_lt.mpr h.1)
  have h2 := pw256 c hc
  have h3 := (nI_ltI hj (by omega)).mp h.2
  exact ⟨j, h3, by omega, rfl⟩
theorem oneT_same {cO t : Nat} {s s' : hσ} (h : ∀ f, f ≠ 0 → f ≠ 26 → s' f t = s f t) (q : oneT cO s t) (h1 : s' 26 t = 0 ∨ s' 26 t = 1) (h2 : s' 26 t = 1 → s' 22 t ≠ 1 ∧ 0 < leftM s' t) : oneT cO s' t := by
  obtain ⟨o1, o2, o3, o4, o5, o6, o7, o8, o9, o10⟩ := q
  unfold oneT
  unfold ceilS at *
  rw [h 22 (by decide) (by decide), h 23 (by decide) (by decide), h 24 (by decide) (by decide), h 27 (by decide) (by decide), h 28 (by decide) (by decide), h 29 (by decide) (by decide), h 30 (by decide) (by decide), h 50 (by decide) (by decide), h 51 (by decide) (by decide)]
  rw [h 22 (by decide) (by decide)] at h2
  exact ⟨o1, o2, o3, o4, o5, o6, o7, o8, h1, h2⟩
theorem case_13 (J : INV n M x m out) : lw_13 M x m out p1 p2 p3 p4 p5 p6 (fun M' => INV (n + 1) M' x m out) := by
  obtain ⟨A, σ, w, cO, cF, cI, cS, ⟨rfl, rfl, rfl⟩, R, I, hn⟩ := J
  obtain ⟨hO, hO8, hF, hF6, hI, hI4, hSn, hS6, D, hD, hday⟩ := I.1
  have E := I.2.1
  unfold lw_13 wL_arrest wX4_arrest
  simp only [↓rd4e R]
  by_cases h : isinP σ cF p1 p2
  · have hh := h
    obtain ⟨f, p, rfl, rfl, hf, hp, ha⟩ := isin_acc h
    have ht := acc48 I ha
    rw [c_acc_t R E hF6 hf hp ha]
    try simp only [m8]
    obtain ⟨o1, o2, o3, o4, o5, o6, o7, o8, o9, o10⟩ := (I.2.2.2.2.2.1 _ ht).2
    have hdl : fX0_daysLeft M (A 7 (8 * f + p)) = some (leftM σ (8 * f + p)) := by
      rw [c_daysLeft R (E.a ha), ← o7]
      rfl
    have hml : fX5_leftOf M (A 10 0) (nI (8 * f + p)) = some (leftM σ (8 * f + p)) := m_leftOf R ht
    by_cases c1 : σ 22 (8 * f + p) = 1
    ·
      simp only [↓rd0e R (E.a ha), ↓(fun (g : Int32 → Prop) => oex (hdl) g), ↓(fun (g : Int32 → Prop) => oex (hml) g), ↓(fun (g : Int32 → Prop) => oex (m_isIn_t R hF hF6 h) g), c1, ↓reduceIte, bI_f, bI_t, i10, i20, i30, sx, snf, ↓rd4e R]
      simp only [wX5_arrest, bX5_arrest_54, bX5_arrest_59, m8]
      obtain ⟨M3, e3, R3⟩ := m_ref R 2
      simp (disch := omega) only [↓rd0e R (E.a ha), ↓(fun (g : Int32 → Prop) => oex (hdl) g), ↓(fun (g : Int32 → Prop) => oex (hml) g), ↓(fun (g : Int32 → Prop) => oex (m_isIn_t R hF hF6 h) g), c1, ↓reduceIte, bI_f, bI_t, i10, i20, i30, sx, snf, ↓rd5e R, ↓rdAe R, e3, ↓rd5e R3]
      exact endF R3 (sU_eq _ _ _ _) (INV.same R3 I hn)
    · by_cases c2 : σ 26 (8 * f + p) = 0
      · by_cases c3 : 0 < leftM σ (8 * f + p)
        · obtain ⟨M1, e1, R1⟩ := wr0_7 R (E.a ha) 1 (Or.inr rfl)
          simp only [↓rd0e R (E.a ha), ↓(fun (g : Int32 → Prop) => oex (hdl) g), c1, c2, c3, ↓(fun (g : hM → Prop) => oex e1 g), ↓reduceIte, bI_f, bI_t, i10, i20, i30, sx, snf, ↓rd4e R]
          have E1 : ExI cO cF cI (sU σ 26 (8 * f + p) 1) := ExI_c (by omega) E
          obtain ⟨M2, e2, R2⟩ := wrJ R1 E1.out (leftM σ (8 * f + p)).toInt64
          refine ⟨M2, e2, ?_⟩
          have hm2 : fX5_leftOf M2 (A 10 0) (nI (8 * f + p)) = some (leftM σ (8 * f + p)) := m_leftOf R2 ht
          simp only [wX5_arrest, bX5_arrest_54, bX5_arrest_59, m8]
          obtain ⟨M3, e3, R3⟩ := m_ref R2 0
          simp (disch := omega) only [c1, c2, c3, ↓(fun (g : Int32 → Prop) => oex (m_isIn_t R2 hF hF6 h) g), ↓reduceIte, bI_f, bI_t, i10, i20, i30, sx, snf, ↓rd5e R2, ↓rdAe R2, e3, ↓rd5e R3, ↓(fun (g : Int32 → Prop) => oex (hm2) g)]
          obtain ⟨M4, e4, R4⟩ := wrB R3 (f := 26) (n := 48) (k := 8 * f + p) rfl (by omega) (by decide) 1 (Or.inr rfl)
          have hm4 : fX5_leftOf M4 (A 10 0) (nI (8 * f + p)) = some (leftM σ (8 * f + p)) := (m_leftOf R4 ht).trans (congrArg some ((leftM_c2 (by omega)).trans (leftM_c2 (by omega))))
          simp only [↓(fun (g : hM → Prop) => oex e4 g), ↓rd5e R4, ↓(fun (g : Int32 → Prop) => oex (hm4) g)]
          exact endI0 R4 E1.out (by rw [sU_ne (by decide), sU_eq]) rfl (INV.mk R4 (((AM.rf σ).m (by omega)).u 26 (8 * f + p) 1) (((BM.rf σ).u 0 0 0).u 26 (8 * f + p) 1) ⟨(InvN_c (by omega) (InvN_c (by omega) I.1)), (ExI_c (by omega) (ExI_c (by omega) I.2.1)), (InvO_c (by omega) (InvO_c (by omega) I.2.2.1)), (InvI_c (by omega) (InvI_c (by omega) I.2.2.2.1)), (InvF_c (by omega) (InvF_c (by omega) I.2.2.2.2.1)), (InvT_at (t := 8 * f + p) I.2.2.2.2.2.1 ha (fun t2 => by simp (disch := omega) only [accS_c]) (fun t2 g e hg => by simp (disch := omega) only [sU_nj e, sU_ne]) (by
            refine oneT_same (s := σ) (fun g hg1 hg2 => by simp (disch := omega) only [sU_ne]) ⟨o1, o2, o3, o4, o5, o6, o7, o8, o9, o10⟩ (Or.inr (by rw [sU_eq])) (fun _ => ?_)
            rw [sU_ne (by decide), sU_ne (by decide), leftM_c2 (by omega), leftM_c2 (by omega)]
            exact ⟨c1, c3⟩)), (InvS_c (by omega) (InvS_c (by omega) I.2.2.2.2.2.2))⟩ (by omega))
        ·
          simp only [↓rd0e R (E.a ha), ↓(fun (g : Int32 → Prop) => oex (hdl) g), ↓(fun (g : Int32 → Prop) => oex (hml) g), ↓(fun (g : Int32 → Prop) => oex (m_isIn_t R hF hF6 h) g), c1, c2, c3, ↓reduceIte, bI_f, bI_t, i10, i20, i30, sx, snf, ↓rd4e R]
          simp only [wX5_arrest, bX5_arrest_54, bX5_arrest_59, m8]
          obtain ⟨M3, e3, R3⟩ := m_ref R 2
          simp (disch := omega) only [↓rd0e R (E.a ha), ↓(fun (g : Int32 → Prop) => oex (hdl) g), ↓(fun (g : Int32 → Prop) => oex (hml) g), ↓(fun (g : Int32 → Prop) => oex (m_isIn_t R hF hF6 h) g), c1, c2, c3, ↓reduceIte, bI_f, bI_t, i10, i20, i30, sx, snf, ↓rd5e R, ↓rdAe R, e3, ↓rd5e R3]
          exact endF R3 (sU_eq _ _ _ _) (INV.same R3 I hn)
      ·
        simp only [↓rd0e R (E.a ha), ↓(fun (g : Int32 → Prop) => oex (hdl) g), ↓(fun (g : Int32 → Prop) => oex (hml) g), ↓(fun (g : Int32 → Prop) => oex (m_isIn_t R hF hF6 h) g), c1, c2, ↓reduceIte, bI_f, bI_t, i10, i20, i30, sx, snf, ↓rd4e R]
        simp only [wX5_arrest, bX5_arrest_54, bX5_arrest_59, m8]
        obtain ⟨M3, e3, R3⟩ := m_ref R 2
        simp (disch := omega) only [↓rd0e R (E.a ha), ↓(fun (g : Int32 → Prop) => oex (hdl) g), ↓(fun (g : Int32 → Prop) => oex (hml) g), ↓(fun (g : Int32 → Prop) => oex (m_isIn_t R hF hF6 h) g), c1, c2, ↓reduceIte, bI_f, bI_t, i10, i20, i30, sx, snf, ↓rd5e R, ↓rdAe R, e3, ↓rd5e R3]
        exact endF R3 (sU_eq _ _ _ _) (INV.same R3 I hn)
  · rw [c_acc_f R E hF6 h]
    simp only [↓(fun (g : Int32 → Prop) => oex (m_isIn_f R hF hF6 h) g), ↓reduceIte, bI_f, bI_t, i10, i20, i30, sx, snf, ↓rd4e R]
    simp only [wX5_arrest, bX5_arrest_54, bX5_arrest_59, m8]
    obtain ⟨M3, e3, R3⟩ := m_ref R 1
    simp (disch := omega) only [↓(fun (g : Int32 → Prop) => oex (m_isIn_f R hF hF6 h) g), ↓reduceIte, bI_f, bI_t, i10, i20, i30, sx, snf, ↓rd5e R, ↓rdAe R, e3, ↓rd5e R3]
    exact endF R3 (sU_eq _ _ _ _) (INV.same R3 I hn)
theorem case_15 (J : INV n M x m out) : lw_15 M x m out p1 p2 p3 p4 p5 p6 (fun M' => INV (n + 1) M' x m out) := by
  obtain ⟨A, σ, w, cO, cF, cI, cS, ⟨rfl, rfl, rfl⟩, R, I, hn⟩ := J
  obtain ⟨hO, hO8, hF, hF6, hI, hI4, hSn, hS6, D, hD, hday⟩ := I.1
  have E := I.2.1
  unfold lw_15 wL_release wX4_release
  simp only [↓rd4e R]
  by_cases h : isinP σ cF p1 p2
  · have hh := h
    obtain ⟨f, p, rfl, rfl, hf, hp, ha⟩ := isin_acc h
    have ht := acc48 I ha
    rw [c_acc_t R E hF6 hf hp ha]
    try simp only [m8]
    obtain ⟨o1, o2, o3, o4, o5, o6, o7, o8, o9, o10⟩ := (I.2.2.2.2.2.1 _ ht).2
    by_cases c1 : σ 26 (8 * f + p) = 0
    ·
      simp only [↓rd0e R (E.a ha), ↓(fun (g : Int32 → Prop) => oex (m_isIn_t R hF hF6 h) g), c1, ↓reduceIte, bI_f, bI_t, i10, i20, i30, sx, snf, ↓rd4e R]
      simp only [wX5_release, bX5_release_39, m8]
      obtain ⟨M3, e3, R3⟩ := m_ref R 2
      simp (disch := omega) only [↓rd0e R (E.a ha), ↓(fun (g : Int32 → Prop) => oex (m_isIn_t R hF hF6 h) g), c1, ↓reduceIte, bI_f, bI_t, i10, i20, i30, sx, snf, ↓rd5e R, ↓rdAe R, e3, ↓rd5e R3]
      exact endF R3 (sU_eq _ _ _ _) (INV.same R3 I hn)
    · obtain ⟨M1, e1, R1⟩ := wr0_7 R (E.a ha) 0 (Or.inl rfl)
      simp only [↓rd0e R (E.a ha), c1, ↓(fun (g : hM → Prop) => oex e1 g), ↓reduceIte, bI_f, bI_t, i10, i20, i30, sx, snf, ↓rd4e R]
      simp only [wX5_release, bX5_release_39, m8]
      obtain ⟨M3, e3, R3⟩ := m_ref R1 0
      simp (disch := omega) only [c1, ↓(fun (g : Int32 → Prop) => oex (m_isIn_t R1 hF hF6 h) g), ↓reduceIte, bI_f, bI_t, i10, i20, i30, sx, snf, ↓rd5e R1, ↓rdAe R1, e3, ↓rd5e R3]
      obtain ⟨M4, e4, R4⟩ := wrB R3 (f := 26) (n := 48) (k := 8 * f + p) rfl (by omega) (by decide) 0 (Or.inl rfl)
      simp only [↓(fun (g : hM → Prop) => oex e4 g), ↓rd5e R4]
      exact endF R4 (by rw [sU_ne (by decide), sU_eq]) (INV.mk R4 (((AM.rf σ).m (by omega)).u 26 (8 * f + p) 0) (((BM.rf σ).u 0 0 0).u 26 (8 * f + p) 0) ⟨(InvN_c (by omega) (InvN_c (by omega) I.1)), (ExI_c (by omega) (ExI_c (by omega) I.2.1)), (InvO_c (by omega) (InvO_c (by omega) I.2.2.1)), (InvI_c (by omega) (InvI_c (by omega) I.2.2.2.1)), (InvF_c (by omega) (InvF_c (by omega) I.2.2.2.2.1)), (InvT_at (t := 8 * f + p) I.2.2.2.2.2.1 ha (fun t2 => by simp (disch := omega) only [accS_c]) (fun t2 g e hg => by simp (disch := omega) only [sU_nj e, sU_ne]) (oneT_same (s := σ) (fun g hg1 hg2 => by simp (disch := omega) only [sU_ne]) ⟨o1, o2, o3, o4, o5, o6, o7, o8, o9, o10⟩ (Or.inl (by rw [sU_eq])) (fun z => by rw [sU_eq] at z; cases z))), (InvS_c (by omega) (InvS_c (by omega) I.2.2.2.2.2.2))⟩ (by omega))
  · rw [c_acc_f R E hF6 h]
    simp only [↓(fun (g : Int32 → Prop) => oex (m_isIn_f R hF hF6 h) g), ↓reduceIte, bI_f, bI_t, i10, i20, i30, sx, snf, ↓rd4e R]
    simp only [wX5_release, bX5_release_39, m8]
    obtain ⟨M3, e3, R3⟩ := m_ref R 1
    simp (disch := omega) only [↓(fun (g : Int32 → Prop) => oex (m_isIn_f R hF hF6 h) g), ↓reduceIte, bI_f, bI_t, i10, i20, i30, sx, snf, ↓rd5e R, ↓rdAe R, e3, ↓rd5e R3]
    exact endF R3 (sU_eq _ _ _ _) (INV.same R3 I hn)
theorem case_9 (J : INV n M x m out) : lw_9 M x m out p1 p2 p3 p4 p5 p6 (fun M' => INV (n + 1) M' x m out) := by
  obtain ⟨A, σ, w, cO, cF, cI, cS, ⟨rfl, rfl, rfl⟩, R, I, hn⟩ := J
  obtain ⟨hO, hO8, hF, hF6, hI, hI4, hSn, hS6, D, hD, hday⟩ := I.1
  have E := I.2.1
  unfold lw_9 wL_drop wX4_drop
  simp only [↓rd4e R]
  by_cases h : isinP σ cF p1 p2
  · have hh := h
    obtain ⟨f, p, rfl, rfl, hf, hp, ha⟩ := isin_acc h
    have ht := acc48 I ha
    rw [c_acc_t R E hF6 hf hp ha]
    try simp only [m8]
    obtain ⟨o1, o2, o3, o4, o5, o6, o7, o8, o9, o10⟩ := (I.2.2.2.2.2.1 _ ht).2
    have h112 := E.a ha
    by_cases c1 : σ 22 (8 * f + p) = 0
    · obtain ⟨M1, e1, R1⟩ := wr0_2 R h112 1
      simp (disch := omega) only [↓rd0e R h112, c1, ↓(fun (g : hM → Prop) => oex e1 g), ↓reduceIte, bI_f, bI_t, i10, i20, i30, sx, snf, ↓rd4e R, ↓rd4e R1, sU_ne]
      obtain ⟨M2, e2, R2⟩ := wr0_5 R1 (by simp (disch := omega) only [sU_ne]; exact h112) (σ 1 0)
      simp (disch := omega) only [↓(fun (g : hM → Prop) => oex e2 g), ↓rd4e R2, sU_ne, sU_eq, ↓reduceIte, bI_f, bI_t, i10, i20, i30, sx, snf]
      obtain ⟨M3, e3, R3⟩ := wr0_6 R2 (by simp (disch := omega) only [sU_ne]; exact h112) 0 (Or.inl rfl)
      simp (disch := omega) only [↓(fun (g : hM → Prop) => oex e3 g), ↓rd4e R3, sU_ne, sU_eq, ↓reduceIte, bI_f, bI_t, i10, i20, i30, sx, snf]
      obtain ⟨M4, e4, R4⟩ := wr0_7 R3 (by simp (disch := omega) only [sU_ne]; exact h112) 0 (Or.inl rfl)
      simp (disch := omega) only [↓(fun (g : hM → Prop) => oex e4 g), ↓rd4e R4, sU_ne, sU_eq, ↓reduceIte, bI_f, bI_t, i10, i20, i30, sx, snf]
      obtain ⟨M5, e5, R5⟩ := wr4_10 R4 (σ 37 3 + 1)
      simp (disch := omega) only [↓(fun (g : hM → Prop) => oex e5 g), ↓rd4e R5, sU_ne, sU_eq, ↓reduceIte, bI_f, bI_t, i10, i20, i30, sx, snf]
      simp only [wX5_drop, bX5_drop_39, m8]
      obtain ⟨M6, e6, R6⟩ := m_ref R5 0
      simp (disch := omega) only [c1, ↓(fun (g : Int32 → Prop) => oex (m_isIn_t R5 hF hF6 h) g), ↓reduceIte, bI_f, bI_t, i10, i20, i30, sx, snf, ↓rd5e R5, ↓rdAe R5, e6, ↓rd5e R6, ↓rdAe R6]
      obtain ⟨M7, e7, R7⟩ := wrA R6 (f := 22) (n := 48) (k := 8 * f + p) rfl (by omega) (by decide) 1
      simp (disch := omega) only [↓(fun (g : hM → Prop) => oex e7 g), ↓rd5e R7, ↓rdAe R7, ↓rdCe R7, sU_ne, sU_eq, ↓reduceIte, bI_f, bI_t, i10, i20, i30, sx, snf]
      obtain ⟨M8, e8, R8⟩ := wrA R7 (f := 24) (n := 48) (k := 8 * f + p) rfl (by omega) (by decide) (σ 1 0)
      simp (disch := omega) only [↓(fun (g : hM → Prop) => oex e8 g), ↓rd5e R8, ↓rdAe R8, ↓rdCe R8, sU_ne, sU_eq, ↓reduceIte, bI_f, bI_t, i10, i20, i30, sx, snf]
      obtain ⟨M9, e9, R9⟩ := wrB R8 (f := 25) (n := 48) (k := 8 * f + p) rfl (by omega) (by decide) 0 (Or.inl rfl)
      simp (disch := omega) only [↓(fun (g : hM → Prop) => oex e9 g), ↓rd5e R9, ↓rdAe R9, ↓rdCe R9, sU_ne, sU_eq, ↓reduceIte, bI_f, bI_t, i10, i20, i30, sx, snf]
      obtain ⟨M10, e10, R10⟩ := wrB R9 (f := 26) (n := 48) (k := 8 * f + p) rfl (by omega) (by decide) 0 (Or.inl rfl)
      simp (disch := omega) only [↓(fun (g : hM → Prop) => oex e10 g), ↓rd5e R10, ↓rdAe R10, ↓rdCe R10, sU_ne, sU_eq, ↓reduceIte, bI_f, bI_t, i10, i20, i30, sx, snf]
      obtain ⟨M11, e11, R11⟩ := wrC3 R10 (σ 37 3 + 1)
      simp (disch := omega) only [↓(fun (g : hM → Prop) => oex e11 g), ↓rd5e R11, ↓rdAe R11, ↓rdCe R11, sU_ne, sU_eq, ↓reduceIte, bI_f, bI_t, i10, i20, i30, sx, snf]
      exact endF R11 (by simp (disch := omega) only [sU_eq, sU_ne]) (INV.mk R11 ((((((((AM.rf σ).m (by omega)).u 22 (8 * f + p) 1).u 51 (8 * f + p) (σ 1 0)).m (by omega)).u 25 (8 * f + p) 0).u 26 (8 * f + p) 0).u 37 3 (σ 37 3 + 1)) ((((((((BM.rf σ).u 0 0 0).u 22 (8 * f + p) 1).m (by omega)).u 24 (8 * f + p) (σ 1 0)).u 25 (8 * f + p) 0).u 26 (8 * f + p) 0).u 37 3 (σ 37 3 + 1)) ⟨(InvN_c (by omega) (InvN_c (by omega) (InvN_c (by omega) (InvN_c (by omega) (InvN_c (by omega) (InvN_c (by omega) (InvN_c (by omega) I.1))))))), (ExI_c (by omega) (ExI_c (by omega) (ExI_c (by omega) (ExI_c (by omega) (ExI_c (by omega) (ExI_c (by omega) (ExI_c (by omega) I.2.1))))))), (InvO_c (by omega) (InvO_c (by omega) (InvO_c (by omega) (InvO_c (by omega) (InvO_c (by omega) (InvO_c (by omega) (InvO_c (by omega) I.2.2.1))))))), (InvI_c (by omega) (InvI_c (by omega) (InvI_c (by omega) (InvI_c (by omega) (InvI_c (by omega) (InvI_c (by omega) (InvI_c (by omega) I.2.2.2.1))))))), (InvF_c (by omega) (InvF_c (by omega) (InvF_c (by omega) (InvF_c (by omega) (InvF_c (by omega) (InvF_c (by omega) (InvF_c (by omega) I.2.2.2.2.1))))))), (InvT_at (t := 8 * f + p) I.2.2.2.2.2.1 ha (fun t2 => by simp (disch := omega) only [accS_c]) (fun t2 g e hg => by simp (disch := omega) only [sU_nj e, sU_ne]) (oneT_of (a22 := 1) (a23 := (σ 23 (8 * f + p))) (a24 := (σ 1 0)) (a26 := 0) (a27 := (σ 27 (8 * f + p))) (a28 := (σ 28 (8 * f + p))) (a29 := (σ 29 (8 * f + p))) (a30 := (σ 30 (8 * f + p))) (a50 := (σ 50 (8 * f + p))) (a51 := (σ 1 0)) (by simp (disch := omega) only [sU_eq, sU_ne]) (by simp (disch := omega) only [sU_eq, sU_ne]) (by simp (disch := omega) only [sU_eq, sU_ne]) (by simp (disch := omega) only [sU_eq, sU_ne]) (by simp (disch := omega) only [sU_eq, sU_ne]) (by simp (disch := omega) only [sU_eq, sU_ne]) (by simp (disch := omega) only [sU_eq, sU_ne]) (by simp (disch := omega) only [sU_eq, sU_ne]) (by simp (disch := omega) only [sU_eq, sU_ne]) (by simp (disch := omega) only [sU_eq, sU_ne]) ⟨Or.inr (Or.inl rfl), fun _ => o2 (by rw [c1]; decide), fun z => absurd z (by decide), fun _ => rfl, o5, o6, o7, o8, Or.inl rfl, fun z => absurd z (by decide)⟩)), (InvS_c (by omega) (InvS_c (by omega) (InvS_c (by omega) (InvS_c (by omega) (InvS_c (by omega) (InvS_c (by omega) (InvS_c (by omega) I.2.2.2.2.2.2)))))))⟩ (by omega))
    ·
      simp only [↓rd0e R (E.a ha), ↓(fun (g : Int32 → Prop) => oex (m_isIn_t R hF hF6 h) g), c1, ↓reduceIte, bI_f, bI_t, i10, i20, i30, sx, snf, ↓rd4e R]
      simp only [wX5_drop, bX5_drop_39, m8]
      obtain ⟨M3, e3, R3⟩ := m_ref R 2
      simp (disch := omega) only [↓rd0e R (E.a ha), ↓(fun (g : Int32 → Prop) => oex (m_isIn_t R hF hF6 h) g), c1, ↓reduceIte, bI_f, bI_t, i10, i20, i30, sx, snf, ↓rd5e R, ↓rdAe R, e3, ↓rd5e R3]
      exact endF R3 (sU_eq _ _ _ _) (INV.same R3 I hn)
  · rw [c_acc_f R E hF6 h]
    simp only [↓(fun (g : Int32 → Prop) => oex (m_isIn_f R hF hF6 h) g), ↓reduceIte, bI_f, bI_t, i10, i20, i30, sx, snf, ↓rd4e R]
    simp only [wX5_drop, bX5_drop_39, m8]
    obtain ⟨M3, e3, R3⟩ := m_ref R 1
    simp (disch := omega) only [↓(fun (g : Int32 → Prop) => oex (m_isIn_f R hF hF6 h) g), ↓reduceIte, bI_f, bI_t, i10, i20, i30, sx, snf, ↓rd5e R, ↓rdAe R, e3, ↓rd5e R3]
    exact endF R3 (sU_eq _ _ _ _) (INV.same R3 I hn)
theorem case_14 (J : INV n M x m out) : lw_14 M x m out p1 p2 p3 p4 p5 p6 (fun M' => INV (n + 1) M' x m out) := by
  obtain ⟨A, σ, w, cO, cF, cI, cS, ⟨rfl, rfl, rfl⟩, R, I, hn⟩ := J
  obtain ⟨hO, hO8, hF, hF6, hI, hI4, hSn, hS6, D, hD, hday⟩ := I.1
  have E := I.2.1
  unfold lw_14 wL_extend wX4_extend
  simp only [↓rd4e R]
  by_cases h : isinP σ cF p1 p2
  · have hh := h
    obtain ⟨f, p, rfl, rfl, hf, hp, ha⟩ := isin_acc h
    have ht := acc48 I ha
    rw [c_acc_t R E hF6 hf hp ha]
    try simp only [m8]
    obtain ⟨o1, o2, o3, o4, o5, o6, o7, o8, o9, o10⟩ := (I.2.2.2.2.2.1 _ ht).2
    have h112 := E.a ha
    cases g3 : inR p3 1 2 with
    | false =>
      simp only [↓rd0e R (E.a ha), ↓(fun (g : Int32 → Prop) => oex (m_isIn_t R hF hF6 h) g), g3, ↓(fun (g : Int32 → Prop) => oex (in4 p3 1 2) g), ↓(fun (g : Int32 → Prop) => oex (in5 p3 1 2) g), ↓(fun (a b : Int32) (g : Int32 → Prop) => oex (has4 a b) g), ↓(fun (a b : Int32) (g : Int32 → Prop) => oex (has5 a b) g), ↓reduceIte, bI_f, bI_t, i10, i20, i30, sx, snf, ↓rd4e R]
      simp only [wX5_extend, bX5_extend_67, bX5_extend_72, m8]
      obtain ⟨M3, e3, R3⟩ := m_ref R 2
      simp (disch := omega) only [↓rd0e R (E.a ha), ↓(fun (g : Int32 → Prop) => oex (m_isIn_t R hF hF6 h) g), g3, ↓(fun (g : Int32 → Prop) => oex (in4 p3 1 2) g), ↓(fun (g : Int32 → Prop) => oex (in5 p3 1 2) g), ↓(fun (a b : Int32) (g : Int32 → Prop) => oex (has4 a b) g), ↓(fun (a b : Int32) (g : Int32 → Prop) => oex (has5 a b) g), ↓reduceIte, bI_f, bI_t, i10, i20, i30, sx, snf, ↓rd5e R, ↓rdAe R, e3, ↓rd5e R3]
      exact endF R3 (sU_eq _ _ _ _) (INV.same R3 I hn)
    | true =>
      by_cases c1 : σ 22 (8 * f + p) = 0
      · cases c2 : hb (σ 30 (8 * f + p)) p3 with
        | true =>
          simp only [↓rd0e R (E.a ha), ↓(fun (g : Int32 → Prop) => oex (m_isIn_t R hF hF6 h) g), g3, ↓(fun (g : Int32 → Prop) => oex (in4 p3 1 2) g), ↓(fun (g : Int32 → Prop) => oex (in5 p3 1 2) g), ↓(fun (a b : Int32) (g : Int32 → Prop) => oex (has4 a b) g), ↓(fun (a b : Int32) (g : Int32 → Prop) => oex (has5 a b) g), c1, c2, ↓reduceIte, bI_f, bI_t, i10, i20, i30, sx, snf, ↓rd4e R]
          simp only [wX5_extend, bX5_extend_67, bX5_extend_72, m8]
          obtain ⟨M3, e3, R3⟩ := m_ref R 3
          simp (disch := omega) only [↓rd0e R (E.a ha), ↓(fun (g : Int32 → Prop) => oex (m_isIn_t R hF hF6 h) g), g3, ↓(fun (g : Int32 → Prop) => oex (in4 p3 1 2) g), ↓(fun (g : Int32 → Prop) => oex (in5 p3 1 2) g), ↓(fun (a b : Int32) (g : Int32 → Prop) => oex (has4 a b) g), ↓(fun (a b : Int32) (g : Int32 → Prop) => oex (has5 a b) g), c1, c2, ↓reduceIte, bI_f, bI_t, i10, i20, i30, sx, snf, ↓rd5e R, ↓rdAe R, e3, ↓rd5e R3]
          exact endF R3 (sU_eq _ _ _ _) (INV.same R3 I hn)
        | false =>
          have hq : ∃ q, (q = 1 ∨ q = 2) ∧ p3 = nI q := by
            obtain ⟨z1, z2⟩ := inR_t.mp g3
            have z0 : ¬ p3 < 0 := fun z => by
              have := Int32.lt_iff_toInt_lt.mp z
              have := Int32.le_iff_toInt_le.mp z1
              rw [show (1 : Int32).toInt = 1 by decide] at this
              rw [show (0 : Int32).toInt = 0 by decide] at *
              omega
            obtain ⟨q, hq, rfl⟩ := nI_of z0
            have z3 := (nI_leI (a := 1) (by decide) hq).mp z1
            have z4 := (nI_leI (b := 2) hq (by decide)).mp z2
            exact ⟨q, by omega, rfl⟩
          obtain ⟨q, hq, rfl⟩ := hq
          obtain ⟨r, hr, er⟩ := o6
          obtain ⟨x1, x2, x3⟩ := extV r hr q hq (by rw [← er]; exact c2)
          rw [← er] at x1 x2 x3
          obtain ⟨M1, e1, R1⟩ := wr0_10 R h112 (σ 30 (8 * f + p) ||| (1 <<< (nI q &&& 31)))
          have hcl : fX0_ceilingWhileOpen M1 (A 7 (8 * f + p)) = some (σ 29 (8 * f + p) + 2 * nI q) := by
            rw [c_ceiling R1 (by simp (disch := omega) only [sU_ne]; exact h112), o7]
            refine congrArg some ?_
            show ceilV (sU σ 30 (8 * f + p) (σ 30 (8 * f + p) ||| (1 <<< (nI q &&& 31))) 30 (8 * f + p)) = _
            rw [sU_eq, x1]
            rfl
          have E1 : ExI cO cF cI (sU σ 30 (8 * f + p) (σ 30 (8 * f + p) ||| (1 <<< (nI q &&& 31)))) := ExI_c (by omega) E
          simp (disch := omega) only [↓rd0e R h112, c1, c2, g3, ↓(fun (g : Int32 → Prop) => oex (in4 (nI q) 1 2) g), ↓(fun (a b : Int32) (g : Int32 → Prop) => oex (has4 a b) g), ↓(fun (g : hM → Prop) => oex e1 g), ↓reduceIte, bI_f, bI_t, i10, i20, i30, sx, snf, ↓rd4e R, ↓rd4e R1, ↓rd0e R1 (by simp (disch := omega) only [sU_ne]; exact h112), sU_ne, ↓(fun (g : Int32 → Prop) => oex (hcl) g)]
          obtain ⟨M2, e2, R2⟩ := wrJ R1 E1.out (σ 29 (8 * f + p) + 2 * nI q).toInt64
          refine ⟨M2, e2, ?_⟩
          simp only [wX5_extend, bX5_extend_67, bX5_extend_72, m8]
          obtain ⟨M3, e3, R3⟩ := m_ref R2 0
          simp (disch := omega) only [c1, c2, g3, ↓(fun (g : Int32 → Prop) => oex (m_isIn_t R2 hF hF6 h) g), ↓(fun (g : Int32 → Prop) => oex (in5 (nI q) 1 2) g), ↓(fun (a b : Int32) (g : Int32 → Prop) => oex (has5 a b) g), ↓reduceIte, bI_f, bI_t, i10, i20, i30, sx, snf, ↓rd5e R2, ↓rdAe R2, e3, ↓rd5e R3, ↓rdAe R3, sU_ne]
          obtain ⟨M4, e4, R4⟩ := wrA R3 (f := 30) (n := 48) (k := 8 * f + p) rfl (by omega) (by decide) (σ 30 (8 * f + p) ||| (1 <<< (nI q &&& 31)))
          simp (disch := omega) only [↓(fun (g : hM → Prop) => oex e4 g), ↓rd5e R4, ↓rdAe R4, ↓rdCe R4, sU_ne, sU_eq, ↓reduceIte, bI_f, bI_t, i10, i20, i30, sx, snf]
          obtain ⟨M5, e5, R5⟩ := wrA R4 (f := 29) (n := 48) (k := 8 * f + p) rfl (by omega) (by decide) (σ 29 (8 * f + p) + 2 * nI q)
          simp (disch := omega) only [↓(fun (g : hM → Prop) => oex e5 g), ↓rd5e R5, ↓rdAe R5, ↓rdCe R5, sU_ne, sU_eq, ↓reduceIte, bI_f, bI_t, i10, i20, i30, sx, snf]
          exact endI0 R5 E1.out (by simp (disch := omega) only [sU_eq, sU_ne]) rfl (INV.mk R5 ((((AM.rf σ).m (by omega)).u 30 (8 * f + p) (σ 30 (8 * f + p) ||| (1 <<< (nI q &&& 31)))).m (by omega)) ((((BM.rf σ).u 0 0 0).u 30 (8 * f + p) (σ 30 (8 * f + p) ||| (1 <<< (nI q &&& 31)))).u 29 (8 * f + p) (σ 29 (8 * f + p) + 2 * nI q)) ⟨(InvN_c (by omega) (InvN_c (by omega) (InvN_c (by omega) I.1))), (ExI_c (by omega) (ExI_c (by omega) (ExI_c (by omega) I.2.1))), (InvO_c (by omega) (InvO_c (by omega) (InvO_c (by omega) I.2.2.1))), (InvI_c (by omega) (InvI_c (by omega) (InvI_c (by omega) I.2.2.2.1))), (InvF_c (by omega) (InvF_c (by omega) (InvF_c (by omega) I.2.2.2.2.1))), (InvT_at (t := 8 * f + p) I.2.2.2.2.2.1 ha (fun t2 => by simp (disch := omega) only [accS_c]) (fun t2 g e hg => by simp (disch := omega) only [sU_nj e, sU_ne]) (oneT_of (a22 := (σ 22 (8 * f + p))) (a23 := (σ 23 (8 * f + p))) (a24 := (σ 24 (8 * f + p))) (a26 := (σ 26 (8 * f + p))) (a27 := (σ 27 (8 * f + p))) (a28 := (σ 28 (8 * f + p))) (a29 := (σ 29 (8 * f + p) + 2 * nI q)) (a30 := (σ 30 (8 * f + p) ||| (1 <<< (nI q &&& 31)))) (a50 := (σ 50 (8 * f + p))) (a51 := (σ 51 (8 * f + p))) (by simp (disch := omega) only [sU_eq, sU_ne]) (by simp (disch := omega) only [sU_eq, sU_ne]) (by simp (disch := omega) only [sU_eq, sU_ne]) (by simp (disch := omega) only [sU_eq, sU_ne]) (by simp (disch := omega) only [sU_eq, sU_ne]) (by simp (disch := omega) only [sU_eq, sU_ne]) (by simp (disch := omega) only [sU_eq, sU_ne]) (by simp (disch := omega) only [sU_eq, sU_ne]) (by simp (disch := omega) only [sU_eq, sU_ne]) (by simp (disch := omega) only [sU_eq, sU_ne]) ⟨o1, o2, o3, o4, o5, x2, by rw [x1, o7]; rfl, o8, o9, fun z => by
            obtain ⟨y1, y2⟩ := o10 z
            refine ⟨y1, ?_⟩
            unfold leftM at y2
            rw [if_neg (by rw [c1]; decide)] at y2 ⊢
            obtain ⟨ee, l, k1, k2, k3, k4⟩ := o8
            rw [k3] at y2 ⊢
            rw [o7] at y2 ⊢
            exact x3 ee k1 y2⟩)), (InvS_c (by omega) (InvS_c (by omega) (InvS_c (by omega) I.2.2.2.2.2.2)))⟩ (by omega))
      ·
        simp only [↓rd0e R (E.a ha), ↓(fun (g : Int32 → Prop) => oex (m_isIn_t R hF hF6 h) g), g3, ↓(fun (g : Int32 → Prop) => oex (in4 p3 1 2) g), ↓(fun (g : Int32 → Prop) => oex (in5 p3 1 2) g), ↓(fun (a b : Int32) (g : Int32 → Prop) => oex (has4 a b) g), ↓(fun (a b : Int32) (g : Int32 → Prop) => oex (has5 a b) g), c1, ↓reduceIte, bI_f, bI_t, i10, i20, i30, sx, snf, ↓rd4e R]
        simp only [wX5_extend, bX5_extend_67, bX5_extend_72, m8]
        obtain ⟨M3, e3, R3⟩ := m_ref R 3
        simp (disch := omega) only [↓rd0e R (E.a ha), ↓(fun (g : Int32 → Prop) => oex (m_isIn_t R hF hF6 h) g), g3, ↓(fun (g : Int32 → Prop) => oex (in4 p3 1 2) g), ↓(fun (g : Int32 → Prop) => oex (in5 p3 1 2) g), ↓(fun (a b : Int32) (g : Int32 → Prop) => oex (has4 a b) g), ↓(fun (a b : Int32) (g : Int32 → Prop) => oex (has5 a b) g), c1, ↓reduceIte, bI_f, bI_t, i10, i20, i30, sx, snf, ↓rd5e R, ↓rdAe R, e3, ↓rd5e R3]
        exact endF R3 (sU_eq _ _ _ _) (INV.same R3 I hn)
  · rw [c_acc_f R E hF6 h]
    simp only [↓(fun (g : Int32 → Prop) => oex (m_isIn_f R hF hF6 h) g), ↓(fun (g : Int32 → Prop) => oex (in5 p3 1 2) g), ↓reduceIte, bI_f, bI_t, i10, i20, i30, sx, snf, ↓rd4e R]
    simp only [wX5_extend, bX5_extend_67, bX5_extend_72, m8]
    obtain ⟨M3, e3, R3⟩ := m_ref R 1
    simp (disch := omega) only [↓(fun (g : Int32 → Prop) => oex (m_isIn_f R hF hF6 h) g), ↓(fun (g : Int32 → Prop) => oex (in5 p3 1 2) g), ↓reduceIte, bI_f, bI_t, i10, i20, i30, sx, snf, ↓rd5e R, ↓rdAe R, e3, ↓rd5e R3]
    exact endF R3 (sU_eq _ _ _ _) (INV.same R3 I hn)
theorem case_8 (J : INV n M x m out) : lw_8 M x m out p1 p2 p3 p4 p5 p6 (fun M' => INV (n + 1) M' x m out) := by
  obtain ⟨A, σ, w, cO, cF, cI, cS, ⟨rfl, rfl, rfl⟩, R, I, hn⟩ := J
  obtain ⟨hO, hO8, hF, hF6, hI, hI4, hSn, hS6, D, hD, hday⟩ := I.1
  have E := I.2.1
  unfold lw_8 wL_charge wX4_charge
  simp only [↓rd4e R]
  by_cases h : isinP σ cF p1 p2
  · have hh := h
    obtain ⟨f, p, rfl, rfl, hf, hp, ha⟩ := isin_acc h
    have ht := acc48 I ha
    rw [c_acc_t R E hF6 hf hp ha]
    try simp only [m8]
    obtain ⟨o1, o2, o3, o4, o5, o6, o7, o8, o9, o10⟩ := (I.2.2.2.2.2.1 _ ht).2
    have h112 := E.a ha
    cases g3 : (decide (0 ≤ p3) && decide (p3 < bitN cO)) with
    | false =>
      simp only [↓(fun (g : Int32 → Prop) => oex (m_isIn_t R hF hF6 h) g), ↓(fun (g : Int32 → Prop) => oex (m_areThere R hO p3) g), g3, ↓c_checkTold R hO hO8 p3, Bool.false_eq_true, ↓reduceIte, bI_f, bI_t, i10, i20, i30, sx, snf, ↓rd4e R]
      simp only [wX5_charge, bX5_charge_61, bX5_charge_62, bX5_charge_93, m8]
      obtain ⟨M3, e3, R3⟩ := m_ref R 2
      simp (disch := omega) only [↓(fun (g : Int32 → Prop) => oex (m_isIn_t R hF hF6 h) g), ↓(fun (g : Int32 → Prop) => oex (m_areThere R hO p3) g), g3, ↓c_checkTold R hO hO8 p3, Bool.false_eq_true, ↓reduceIte, bI_f, bI_t, i10, i20, i30, sx, snf, ↓rd5e R, ↓rdAe R, e3, ↓rd5e R3]
      exact endF R3 (sU_eq _ _ _ _) (INV.same R3 I hn)
    | true =>
      obtain ⟨n1, hn1, hn2, rfl⟩ := told_n hO8 g3
      by_cases c1 : σ 22 (8 * f + p) = 0
      · have hcr : fX4_isRight M (A 0 0) (nI n1) (canS σ cO cI (8 * f + p) (σ 1 0)) = some (bI (rtB (canB σ cO cI (8 * f + p) (σ 1 0)) (mateB σ cO) n1)) := c_isRight R E hn2 _
        have heq : rtB (canB σ cO cI (8 * f + p) (σ 1 0)) (mateB σ cO) n1 = mrS σ cO cI (8 * f + p) n1 (σ 1 0) := by
          rw [Bool.eq_iff_iff, rtB_iff]
          exact (mrS_iff hO8 I.hS hn1).symm
        rw [heq] at hcr
        cases c2 : mrS σ cO cI (8 * f + p) n1 (σ 1 0) with
        | false =>
          simp only [↓(fun (g : Int32 → Prop) => oex (m_isIn_t R hF hF6 h) g), ↓(fun (g : Int32 → Prop) => oex (m_areThere R hO (nI n1)) g), g3, ↓c_checkTold R hO hO8 (nI n1), c1, c2, ↓rd0e R h112, ↓(fun (g : Int32 → Prop) => oex (c_chargeable R E hO8 ha (σ 1 0)) g), ↓(fun (g : Int32 → Prop) => oex (hcr) g), ↓(fun (g : Int32 → Prop) => oex (m_isRight R hO hO8 (cI := cI) (t := 8 * f + p) hn2 (σ 1 0) (fun k hk => i_why R I ha hk _)) g), ↓reduceIte, bI_f, bI_t, i10, i20, i30, sx, snf, ↓rd4e R]
          simp only [wX5_charge, bX5_charge_61, bX5_charge_62, bX5_charge_93, m8]
          obtain ⟨M3, e3, R3⟩ := m_ref R 3
          simp (disch := omega) only [↓(fun (g : Int32 → Prop) => oex (m_isIn_t R hF hF6 h) g), ↓(fun (g : Int32 → Prop) => oex (m_areThere R hO (nI n1)) g), g3, ↓c_checkTold R hO hO8 (nI n1), c1, c2, ↓rd0e R h112, ↓(fun (g : Int32 → Prop) => oex (c_chargeable R E hO8 ha (σ 1 0)) g), ↓(fun (g : Int32 → Prop) => oex (hcr) g), ↓(fun (g : Int32 → Prop) => oex (m_isRight R hO hO8 (cI := cI) (t := 8 * f + p) hn2 (σ 1 0) (fun k hk => i_why R I ha hk _)) g), ↓reduceIte, bI_f, bI_t, i10, i20, i30, sx, snf, ↓rd5e R, ↓rdAe R, e3, ↓rd5e R3]
          exact endF R3 (sU_eq _ _ _ _) (INV.same R3 I hn)
        | true =>
          obtain ⟨M1, e1, R1⟩ := wr0_2 R h112 2
          simp (disch := omega) only [g3, ↓c_checkTold R hO hO8 (nI n1), c1, c2, ↓rd0e R h112, ↓(fun (g : Int32 → Prop) => oex (c_chargeable R E hO8 ha (σ 1 0)) g), ↓(fun (g : Int32 → Prop) => oex (hcr) g), ↓(fun (g : hM → Prop) => oex e1 g), ↓reduceIte, bI_f, bI_t, i10, i20, i30, sx, snf, ↓rd4e R, ↓rd4e R1, sU_ne]
          obtain ⟨M2, e2, R2⟩ := wr0_3 R1 (by simp (disch := omega) only [sU_ne]; exact h112) (nI n1)
          simp (disch := omega) only [↓(fun (g : hM → Prop) => oex e2 g), ↓rd4e R2, sU_ne, sU_eq, ↓reduceIte, bI_f, bI_t, i10, i20, i30, sx, snf]
          have E3 : ExI cO cF cI (sU (sU (sU σ 22 (8 * f + p) 2) 23 (8 * f + p) (nI n1)) 50 (8 * f + p) (σ 1 0)) := ExI_c (by omega) (ExI_c (by omega) (ExI_c (by omega) E))
          obtain ⟨M3, e3, R3⟩ := wr0_4 R2 (by simp (disch := omega) only [sU_ne]; exact h112) (σ 1 0)
          have hgv : fX4_gravityOf M3 (A 0 0) (nI n1) = some (heavS σ cO (nI n1)) := by
            rw [c_gravity R3 E3, heavS_c (by omega), heavS_c (by omega), heavS_c (by omega)]
          simp (disch := omega) only [↓(fun (g : hM → Prop) => oex e3 g), ↓reduceIte, bI_f, bI_t, i10, i20, i30, sx, snf, ↓rd4e R3, ↓(fun (g : Int32 → Prop) => oex (hgv) g)]
          obtain ⟨M4, e4, R4⟩ := wrJ R3 E3.out (heavS σ cO (nI n1)).toInt64
          refine ⟨M4, e4, ?_⟩
          simp only [wX5_charge, bX5_charge_61, bX5_charge_62, bX5_charge_93, m8]
          obtain ⟨M5, e5, R5⟩ := m_ref R4 0
          simp (disch := omega) only [g3, c1, c2, ↓(fun (g : Int32 → Prop) => oex (m_isIn_t R4 hF hF6 h) g), ↓(fun (g : Int32 → Prop) => oex (m_areThere R4 hO (nI n1)) g), ↓(fun (g : Int32 → Prop) => oex (m_isRight R4 hO hO8 (cI := cI) (t := 8 * f + p) hn2 (σ 1 0) (fun k hk => i_why R4 I ha hk _)) g), ↓reduceIte, bI_f, bI_t, i10, i20, i30, sx, snf, ↓rd5e R4, ↓rdAe R4, e5, ↓rd5e R5, ↓rdAe R5, sU_ne]
          obtain ⟨M6, e6, R6⟩ := wrA R5 (f := 22) (n := 48) (k := 8 * f + p) rfl (by omega) (by decide) 2
          simp (disch := omega) only [↓(fun (g : hM → Prop) => oex e6 g), ↓rd5e R6, ↓rdAe R6, ↓rdCe R6, sU_ne, sU_eq, ↓reduceIte, bI_f, bI_t, i10, i20, i30, sx, snf]
          obtain ⟨M7, e7, R7⟩ := wrA R6 (f := 23) (n := 48) (k := 8 * f + p) rfl (by omega) (by decide) (nI n1)
          simp (disch := omega) only [↓(fun (g : hM → Prop) => oex e7 g), ↓rd5e R7, ↓rdAe R7, ↓rdCe R7, sU_ne, sU_eq, ↓reduceIte, bI_f, bI_t, i10, i20, i30, sx, snf]
          obtain ⟨M8, e8, R8⟩ := wrA R7 (f := 24) (n := 48) (k := 8 * f + p) rfl (by omega) (by decide) (σ 1 0)
          simp (disch := omega) only [↓(fun (g : hM → Prop) => oex e8 g), ↓rd5e R8, ↓rdAe R8, ↓rdCe R8, sU_ne, sU_eq, ↓reduceIte, bI_f, bI_t, i10, i20, i30, sx, snf]
          obtain ⟨M9, e9, R9⟩ := wrA R8 (f := 28) (n := 48) (k := 8 * f + p) rfl (by omega) (by decide) 0
          have hhv : fX5_heavy M9 (A 10 0) (nI n1) = some (heavS σ cO (nI n1)) := by
            rw [m_heavy R9 (c := cO) (by simp (disch := omega) only [sU_ne]; exact hO) hO8]
            simp (disch := omega) only [heavS_c]
          simp (disch := omega) only [↓(fun (g : hM → Prop) => oex e9 g), ↓reduceIte, bI_f, bI_t, i10, i20, i30, sx, snf, ↓rd5e R9, ↓(fun (g : Int32 → Prop) => oex (hhv) g)]
          have z28 : σ 28 (8 * f + p) = 0 := (o2 (by rw [c1]; decide)).2
          exact endI0 R9 E3.out (by simp (disch := omega) only [sU_eq, sU_ne]) rfl (INV.mk R9 (((((((AM.rf σ).m (by omega)).u 22 (8 * f + p) 2).u 23 (8 * f + p) (nI n1)).u 50 (8 * f + p) (σ 1 0)).m (by omega)).o (by simp (disch := omega) only [sU_ne]; exact z28)) (((((((BM.rf σ).u 0 0 0).u 22 (8 * f + p) 2).u 23 (8 * f + p) (nI n1)).m (by omega)).u 24 (8 * f + p) (σ 1 0)).u 28 (8 * f + p) 0) ⟨(InvN_c (by omega) (InvN_c (by omega) (InvN_c (by omega) (InvN_c (by omega) (InvN_c (by omega) (InvN_c (by omega) I.1)))))), (ExI_c (by omega) (ExI_c (by omega) (ExI_c (by omega) (ExI_c (by omega) (ExI_c (by omega) (ExI_c (by omega) I.2.1)))))), (InvO_c (by omega) (InvO_c (by omega) (InvO_c (by omega) (InvO_c (by omega) (InvO_c (by omega) (InvO_c (by omega) I.2.2.1)))))), (InvI_c (by omega) (InvI_c (by omega) (InvI_c (by omega) (InvI_c (by omega) (InvI_c (by omega) (InvI_c (by omega) I.2.2.2.1)))))), (InvF_c (by omega) (InvF_c (by omega) (InvF_c (by omega) (InvF_c (by omega) (InvF_c (by omega) (InvF_c (by omega) I.2.2.2.2.1)))))), (InvT_at (t := 8 * f + p) I.2.2.2.2.2.1 ha (fun t2 => by simp (disch := omega) only [accS_c]) (fun t2 g e hg => by simp (disch := omega) only [sU_nj e, sU_ne]) (oneT_of (a22 := 2) (a23 := (nI n1)) (a24 := (σ 1 0)) (a26 := (σ 26 (8 * f + p))) (a27 := (σ 27 (8 * f + p))) (a28 := 0) (a29 := (σ 29 (8 * f + p))) (a30 := (σ 30 (8 * f + p))) (a50 := (σ 1 0)) (a51 := (σ 51 (8 * f + p))) (by simp (disch := omega) only [sU_eq, sU_ne]) (by simp (disch := omega) only [sU_eq, sU_ne]) (by simp (disch := omega) only [sU_eq, sU_ne]) (by simp (disch := omega) only [sU_eq, sU_ne]) (by simp (disch := omega) only [sU_eq, sU_ne]) (by simp (disch := omega) only [sU_eq, sU_ne]) (by simp (disch := omega) only [sU_eq, sU_ne]) (by simp (disch := omega) only [sU_eq, sU_ne]) (by simp (disch := omega) only [sU_eq, sU_ne]) (by simp (disch := omega) only [sU_eq, sU_ne]) ⟨Or.inr (Or.inr rfl), fun z => absurd rfl z, fun _ => rfl, fun z => absurd z (by decide), ⟨n1, hn1, rfl⟩, o6, o7, by
            obtain ⟨ee, l, k1, k2, k3, k4⟩ := o8
            exact ⟨ee, 0, k1, by omega, k3, rfl⟩, o9, fun _ => ⟨by decide, by rw [if_pos rfl]; decide⟩⟩)), (InvS_c (by omega) (InvS_c (by omega) (InvS_c (by omega) (InvS_c (by omega) (InvS_c (by omega) (InvS_c (by omega) I.2.2.2.2.2.2))))))⟩ (by omega))
      ·
        simp only [↓(fun (g : Int32 → Prop) => oex (m_isIn_t R hF hF6 h) g), ↓(fun (g : Int32 → Prop) => oex (m_areThere R hO (nI n1)) g), g3, ↓c_checkTold R hO hO8 (nI n1), c1, ↓rd0e R h112, ↓reduceIte, bI_f, bI_t, i10, i20, i30, sx, snf, ↓rd4e R]
        simp only [wX5_charge, bX5_charge_61, bX5_charge_62, bX5_charge_93, m8]
        obtain ⟨M3, e3, R3⟩ := m_ref R 3
        simp (disch := omega) only [↓(fun (g : Int32 → Prop) => oex (m_isIn_t R hF hF6 h) g), ↓(fun (g : Int32 → Prop) => oex (m_areThere R hO (nI n1)) g), g3, ↓c_checkTold R hO hO8 (nI n1), c1, ↓rd0e R h112, ↓reduceIte, bI_f, bI_t, i10, i20, i30, sx, snf, ↓rd5e R, ↓rdAe R, e3, ↓rd5e R3]
        exact endF R3 (sU_eq _ _ _ _) (INV.same R3 I hn)
  · rw [c_acc_f R E hF6 h]
    simp only [↓(fun (g : Int32 → Prop) => oex (m_isIn_f R hF hF6 h) g), ↓(fun (g : Int32 → Prop) => oex (m_areThere R hO p3) g), ↓reduceIte, bI_f, bI_t, i10, i20, i30, sx, snf, ↓rd4e R]
    simp only [wX5_charge, bX5_charge_61, bX5_charge_62, bX5_charge_93, m8]
    obtain ⟨M3, e3, R3⟩ := m_ref R 1
    simp (disch := omega) only [↓(fun (g : Int32 → Prop) => oex (m_isIn_f R hF hF6 h) g), ↓(fun (g : Int32 → Prop) => oex (m_areThere R hO p3) g), ↓reduceIte, bI_f, bI_t, i10, i20, i30, sx, snf, ↓rd5e R, ↓rdAe R, e3, ↓rd5e R3]
    exact endF R3 (sU_eq _ _ _ _) (INV.same R3 I hn)
theorem case_10 (J : INV n M x m out) : lw_10 M x m out p1 p2 p3 p4 p5 p6 (fun M' => INV (n + 1) M' x m out) := by
  obtain ⟨A, σ, w, cO, cF, cI, cS, ⟨rfl, rfl, rfl⟩, R, I, hn⟩ := J
  obtain ⟨hO, hO8, hF, hF6, hI, hI4, hSn, hS6, D, hD, hday⟩ := I.1
  have E := I.2.1
  unfold lw_10 wL_review wX4_review
  simp only [↓rd4e R]
  by_cases h : isinP σ cF p1 p2
  · have hh := h
    obtain ⟨f, p, rfl, rfl, hf, hp, ha⟩ := isin_acc h
    have ht := acc48 I ha
    rw [c_acc_t R E hF6 hf hp ha]
    try simp only [m8]
    obtain ⟨o1, o2, o3, o4, o5, o6, o7, o8, o9, o10⟩ := (I.2.2.2.2.2.1 _ ht).2
    have h112 := E.a ha
    by_cases c1 : σ 22 (8 * f + p) = 1
    · have h24 : σ 24 (8 * f + p) = σ 51 (8 * f + p) := o4 c1
      by_cases c2 : 30 < σ 1 0 - σ 51 (8 * f + p)
      ·
        simp only [↓rd0e R (E.a ha), ↓(fun (g : Int32 → Prop) => oex (m_isIn_t R hF hF6 h) g), c1, c2, h24, ↓reduceIte, bI_f, bI_t, i10, i20, i30, sx, snf, ↓rd4e R]
        simp only [wX5_review, bX5_review_61, bX5_review_62, bX5_review_83, m8]
        obtain ⟨M3, e3, R3⟩ := m_ref R 2
        simp (disch := omega) only [↓rd0e R (E.a ha), ↓(fun (g : Int32 → Prop) => oex (m_isIn_t R hF hF6 h) g), c1, c2, h24, ↓reduceIte, bI_f, bI_t, i10, i20, i30, sx, snf, ↓rd5e R, ↓rdAe R, e3, ↓rd5e R3]
        exact endF R3 (sU_eq _ _ _ _) (INV.same R3 I hn)
      · by_cases c3 : σ 25 (8 * f + p) = 0
        · have hor : canS σ cO cI (8 * f + p) (σ 51 (8 * f + p)) = 0 ↔ exN (fun k => decide (whyS σ cO cI (8 * f + p) k (σ 51 (8 * f + p)) = 0)) cO = false := by
            unfold canS
            rw [orN_0, exN_f]
            constructor
            · intro q k hk
              have := q k (by omega)
              rwa [decide_eq_true hk, Bool.true_and] at this
            · intro q k hk
              by_cases hk2 : k < cO
              · rw [q k hk2, Bool.and_false]
              · rw [decide_eq_false hk2, Bool.false_and]
          obtain ⟨M1, e1, R1⟩ := wr0_6 R h112 1 (Or.inr rfl)
          have E1 : ExI cO cF cI (sU σ 25 (8 * f + p) 1) := ExI_c (by omega) E
          have hch : fX4_chargeable M1 (A 0 0) (some (A 7 (8 * f + p))) (σ 51 (8 * f + p)) = some (canS σ cO cI (8 * f + p) (σ 51 (8 * f + p))) := by
            rw [c_chargeable R1 E1 hO8 (by rw [accS_c (by omega)]; exact ha), canS_c (by omega)]
          simp (disch := omega) only [↓rd0e R h112, c1, c2, c3, ↓(fun (g : hM → Prop) => oex e1 g), ↓reduceIte, bI_f, bI_t, i10, i20, i30, sx, snf, ↓rd4e R, ↓rd4e R1, ↓rd0e R1 (by simp (disch := omega) only [sU_ne]; exact h112), sU_ne]
          simp only [↓(fun (g : Int32 → Prop) => oex (hch) g)]
          have T1 : Inv cO cF cI cS (sU (sU σ 0 0 0) 25 (8 * f + p) 1) := by
            exact ⟨(InvN_c (by omega) (InvN_c (by omega) I.1)), (ExI_c (by omega) (ExI_c (by omega) I.2.1)), (InvO_c (by omega) (InvO_c (by omega) I.2.2.1)), (InvI_c (by omega) (InvI_c (by omega) I.2.2.2.1)), (InvF_c (by omega) (InvF_c (by omega) I.2.2.2.2.1)), (InvT_at (t := 8 * f + p) I.2.2.2.2.2.1 ha (fun t2 => by simp (disch := omega) only [accS_c]) (fun t2 g e hg => by simp (disch := omega) only [sU_nj e, sU_ne]) (oneT_of (a22 := (σ 22 (8 * f + p))) (a23 := (σ 23 (8 * f + p))) (a24 := (σ 24 (8 * f + p))) (a26 := (σ 26 (8 * f + p))) (a27 := (σ 27 (8 * f + p))) (a28 := (σ 28 (8 * f + p))) (a29 := (σ 29 (8 * f + p))) (a30 := (σ 30 (8 * f + p))) (a50 := (σ 50 (8 * f + p))) (a51 := (σ 51 (8 * f + p))) (by simp (disch := omega) only [sU_eq, sU_ne]) (by simp (disch := omega) only [sU_eq, sU_ne]) (by simp (disch := omega) only [sU_eq, sU_ne]) (by simp (disch := omega) only [sU_eq, sU_ne]) (by simp (disch := omega) only [sU_eq, sU_ne]) (by simp (disch := omega) only [sU_eq, sU_ne]) (by simp (disch := omega) only [sU_eq, sU_ne]) (by simp (disch := omega) only [sU_eq, sU_ne]) (by simp (disch := omega) only [sU_eq, sU_ne]) (by simp (disch := omega) only [sU_eq, sU_ne]) ⟨o1, o2, o3, o4, o5, o6, o7, o8, o9, o10⟩)), (InvS_c (by omega) (InvS_c (by omega) I.2.2.2.2.2.2))⟩
          cases c4 : exN (fun k => decide (whyS σ cO cI (8 * f + p) k (σ 51 (8 * f + p)) = 0)) cO with
          | false =>
            have c5 := hor.mpr c4
            simp only [c5, ↓reduceIte, bI_f, bI_t, i10, i20, i30, sx, snf]
            obtain ⟨M4, e4, R4⟩ := wrJ R1 E1.out 0
            refine ⟨M4, e4, ?_⟩
            simp only [wX5_review, bX5_review_61, bX5_review_62, bX5_review_83, m8]
            obtain ⟨M5, e5, R5⟩ := m_ref R4 0
            simp (disch := omega) only [c1, c2, c3, h24, ↓(fun (g : Int32 → Prop) => oex (m_isIn_t R4 hF hF6 h) g), ↓reduceIte, bI_f, bI_t, i10, i20, i30, sx, snf, ↓rd5e R4, ↓rdAe R4, e5, ↓rd5e R5, ↓rdAe R5, sU_ne]
            obtain ⟨M6, e6, R6⟩ := wrB R5 (f := 25) (n := 48) (k := 8 * f + p) rfl (by omega) (by decide) 1 (Or.inr rfl)
            have hlr := l_review R6 (cO := cO) (t := 8 * f + p) (by simp (disch := omega) only [sU_ne]; exact hO) hO8 ht (v := fun k => whyS σ cO cI (8 * f + p) k (σ 51 (8 * f + p))) (fun k hk => by
              rw [i_why R6 T1 (by rw [accS_c (by omega), accS_c (by omega)]; exact ha) hk, whyS_c (by omega), whyS_c (by omega), sU_ne (by decide), sU_ne (by decide), h24])
            have hl2 : ∀ Q : hM → Int32 → Prop, lX5_review_105 (A 10 0) Q (nI (8 * f + p)) 1000 M6 0 0 = _ := fun Q => hlr Q 1000 0 (by omega) (by omega)
            simp only [↓(fun (g : hM → Prop) => oex e6 g), hl2, c4, ↓reduceIte, bI_f, bI_t, i10, i20, i30, sx, snf, bX5_review_166, bX5_review_184]
            obtain ⟨M7, e7, R7⟩ := wrA R6 (f := 22) (n := 48) (k := 8 * f + p) rfl (by omega) (by decide) 1
            simp (disch := omega) only [↓(fun (g : hM → Prop) => oex e7 g), ↓reduceIte, bI_f, bI_t, i10, i20, i30, sx, snf, ↓rd5e R7, ↓rdCe R7, sU_ne]
            obtain ⟨M8, e8, R8⟩ := wrC4 R7 (σ 37 4 + 0)
            simp only [↓(fun (g : hM → Prop) => oex e8 g), ↓reduceIte, bI_f, bI_t, i10, i20, i30, sx, snf, ↓rd5e R8, true_or, or_true, true_and]
            exact endZ0 R8 E1.out (by simp (disch := omega) only [sU_eq, sU_ne]) rfl (INV.mk R8 (((((AM.rf σ).m (by omega)).u 25 (8 * f + p) 1).o (by rw [sU_ne (by decide)]; exact c1)).o (by rw [sU_ne (by decide), Int32.add_zero])) (((((BM.rf σ).u 0 0 0).u 25 (8 * f + p) 1).u 22 (8 * f + p) 1).u 37 4 (σ 37 4 + 0)) ⟨(InvN_c (by omega) (InvN_c (by omega) (InvN_c (by omega) (InvN_c (by omega) I.1)))), (ExI_c (by omega) (ExI_c (by omega) (ExI_c (by omega) (ExI_c (by omega) I.2.1)))), (InvO_c (by omega) (InvO_c (by omega) (InvO_c (by omega) (InvO_c (by omega) I.2.2.1)))), (InvI_c (by omega) (InvI_c (by omega) (InvI_c (by omega) (InvI_c (by omega) I.2.2.2.1)))), (InvF_c (by omega) (InvF_c (by omega) (InvF_c (by omega) (InvF_c (by omega) I.2.2.2.2.1)))), (InvT_at (t := 8 * f + p) I.2.2.2.2.2.1 ha (fun t2 => by simp (disch := omega) only [accS_c]) (fun t2 g e hg => by simp (disch := omega) only [sU_nj e, sU_ne]) (oneT_of (a22 := 1) (a23 := (σ 23 (8 * f + p))) (a24 := (σ 24 (8 * f + p))) (a26 := (σ 26 (8 * f + p))) (a27 := (σ 27 (8 * f + p))) (a28 := (σ 28 (8 * f + p))) (a29 := (σ 29 (8 * f + p))) (a30 := (σ 30 (8 * f + p))) (a50 := (σ 50 (8 * f + p))) (a51 := (σ 51 (8 * f + p))) (by simp (disch := omega) only [sU_eq, sU_ne]) (by simp (disch := omega) only [sU_eq, sU_ne]) (by simp (disch := omega) only [sU_eq, sU_ne]) (by simp (disch := omega) only [sU_eq, sU_ne]) (by simp (disch := omega) only [sU_eq, sU_ne]) (by simp (disch := omega) only [sU_eq, sU_ne]) (by simp (disch := omega) only [sU_eq, sU_ne]) (by simp (disch := omega) only [sU_eq, sU_ne]) (by simp (disch := omega) only [sU_eq, sU_ne]) (by simp (disch := omega) only [sU_eq, sU_ne]) ⟨Or.inr (Or.inl rfl), fun _ => o2 (by rw [c1]; decide), fun z => absurd z (by decide), fun _ => h24, o5, o6, o7, o8, o9, fun z => absurd c1 (o10 z).1⟩)), (InvS_c (by omega) (InvS_c (by omega) (InvS_c (by omega) (InvS_c (by omega) I.2.2.2.2.2.2))))⟩ (by omega))
          | true =>
            have c5 : ¬ canS σ cO cI (8 * f + p) (σ 51 (8 * f + p)) = 0 := fun z => by rw [hor.mp z] at c4; cases c4
            obtain ⟨M2, e2, R2⟩ := wr0_2 R1 (by simp (disch := omega) only [sU_ne]; exact h112) 0
            simp (disch := omega) only [c5, ↓(fun (g : hM → Prop) => oex e2 g), ↓reduceIte, bI_f, bI_t, i10, i20, i30, sx, snf, ↓rd4e R2, sU_ne]
            obtain ⟨M3, e3, R3⟩ := wr4_11 R2 (σ 37 4 + 1)
            simp only [↓(fun (g : hM → Prop) => oex e3 g), ↓reduceIte, bI_f, bI_t, i10, i20, i30, sx, snf]
            have E3 : ExI cO cF cI (sU (sU (sU σ 25 (8 * f + p) 1) 22 (8 * f + p) 0) 37 4 (σ 37 4 + 1)) := ExI_c (by omega) (ExI_c (by omega) E1)
            obtain ⟨M4, e4, R4⟩ := wrJ R3 E3.out 1
            refine ⟨M4, e4, ?_⟩
            simp only [wX5_review, bX5_review_61, bX5_review_62, bX5_review_83, m8]
            obtain ⟨M5, e5, R5⟩ := m_ref R4 0
            simp (disch := omega) only [c1, c2, c3, h24, ↓(fun (g : Int32 → Prop) => oex (m_isIn_t R4 hF hF6 h) g), ↓reduceIte, bI_f, bI_t, i10, i20, i30, sx, snf, ↓rd5e R4, ↓rdAe R4, e5, ↓rd5e R5, ↓rdAe R5, sU_ne]
            obtain ⟨M6, e6, R6⟩ := wrB R5 (f := 25) (n := 48) (k := 8 * f + p) rfl (by omega) (by decide) 1 (Or.inr rfl)
            have hlr := l_review R6 (cO := cO) (t := 8 * f + p) (by simp (disch := omega) only [sU_ne]; exact hO) hO8 ht (v := fun k => whyS σ cO cI (8 * f + p) k (σ 51 (8 * f + p))) (fun k hk => by
              rw [i_why R6 T1 (by rw [accS_c (by omega), accS_c (by omega)]; exact ha) hk, whyS_c (by omega), whyS_c (by omega), sU_ne (by decide), sU_ne (by decide), h24])
            have hl2 : ∀ Q : hM → Int32 → Prop, lX5_review_105 (A 10 0) Q (nI (8 * f + p)) 1000 M6 0 0 = _ := fun Q => hlr Q 1000 0 (by omega) (by omega)
            simp only [↓(fun (g : hM → Prop) => oex e6 g), hl2, c4, ↓reduceIte, bI_f, bI_t, i10, i20, i30, sx, snf, Bool.true_eq_false, bX5_review_166, bX5_review_184]
            obtain ⟨M7, e7, R7⟩ := wrA R6 (f := 22) (n := 48) (k := 8 * f + p) rfl (by omega) (by decide) 0
            simp (disch := omega) only [↓(fun (g : hM → Prop) => oex e7 g), ↓reduceIte, bI_f, bI_t, i10, i20, i30, sx, snf, ↓rd5e R7, ↓rdCe R7, sU_ne]
            obtain ⟨M8, e8, R8⟩ := wrC4 R7 (σ 37 4 + 1)
            simp only [↓(fun (g : hM → Prop) => oex e8 g), ↓reduceIte, bI_f, bI_t, i10, i20, i30, sx, snf, ↓rd5e R8, true_or, or_true, true_and]
            exact endZ0 R8 E3.out (by simp (disch := omega) only [sU_eq, sU_ne]) rfl (INV.mk R8 (((((AM.rf σ).m (by omega)).u 25 (8 * f + p) 1).u 22 (8 * f + p) 0).u 37 4 (σ 37 4 + 1)) (((((BM.rf σ).u 0 0 0).u 25 (8 * f + p) 1).u 22 (8 * f + p) 0).u 37 4 (σ 37 4 + 1)) ⟨(InvN_c (by omega) (InvN_c (by omega) (InvN_c (by omega) (InvN_c (by omega) I.1)))), (ExI_c (by omega) (ExI_c (by omega) (ExI_c (by omega) (ExI_c (by omega) I.2.1)))), (InvO_c (by omega) (InvO_c (by omega) (InvO_c (by omega) (InvO_c (by omega) I.2.2.1)))), (InvI_c (by omega) (InvI_c (by omega) (InvI_c (by omega) (InvI_c (by omega) I.2.2.2.1)))), (InvF_c (by omega) (InvF_c (by omega) (InvF_c (by omega) (InvF_c (by omega) I.2.2.2.2.1)))), (InvT_at (t := 8 * f + p) I.2.2.2.2.2.1 ha (fun t2 => by simp (disch := omega) only [accS_c]) (fun t2 g e hg => by simp (disch := omega) only [sU_nj e, sU_ne]) (oneT_of (a22 := 0) (a23 := (σ 23 (8 * f + p))) (a24 := (σ 24 (8 * f + p))) (a26 := (σ 26 (8 * f + p))) (a27 := (σ 27 (8 * f + p))) (a28 := (σ 28 (8 * f + p))) (a29 := (σ 29 (8 * f + p))) (a30 := (σ 30 (8 * f + p))) (a50 := (σ 50 (8 * f + p))) (a51 := (σ 51 (8 * f + p))) (by simp (disch := omega) only [sU_eq, sU_ne]) (by simp (disch := omega) only [sU_eq, sU_ne]) (by simp (disch := omega) only [sU_eq, sU_ne]) (by simp (disch := omega) only [sU_eq, sU_ne]) (by simp (disch := omega) only [sU_eq, sU_ne]) (by simp (disch := omega) only [sU_eq, sU_ne]) (by simp (disch := omega) only [sU_eq, sU_ne]) (by simp (disch := omega) only [sU_eq, sU_ne]) (by simp (disch := omega) only [sU_eq, sU_ne]) (by simp (disch := omega) only [sU_eq, sU_ne]) ⟨Or.inl rfl, fun _ => o2 (by rw [c1]; decide), fun z => absurd z (by decide), fun z => absurd z (by decide), o5, o6, o7, o8, o9, fun z => absurd c1 (o10 z).1⟩)), (InvS_c (by omega) (InvS_c (by omega) (InvS_c (by omega) (InvS_c (by omega) I.2.2.2.2.2.2))))⟩ (by omega))
        ·
          simp only [↓rd0e R (E.a ha), ↓(fun (g : Int32 → Prop) => oex (m_isIn_t R hF hF6 h) g), c1, c2, c3, h24, ↓reduceIte, bI_f, bI_t, i10, i20, i30, sx, snf, ↓rd4e R]
          simp only [wX5_review, bX5_review_61, bX5_review_62, bX5_review_83, m8]
          obtain ⟨M3, e3, R3⟩ := m_ref R 2
          simp (disch := omega) only [↓rd0e R (E.a ha), ↓(fun (g : Int32 → Prop) => oex (m_isIn_t R hF hF6 h) g), c1, c2, c3, h24, ↓reduceIte, bI_f, bI_t, i10, i20, i30, sx, snf, ↓rd5e R, ↓rdAe R, e3, ↓rd5e R3]
          exact endF R3 (sU_eq _ _ _ _) (INV.same R3 I hn)
    ·
      simp only [↓rd0e R (E.a ha), ↓(fun (g : Int32 → Prop) => oex (m_isIn_t R hF hF6 h) g), c1, ↓reduceIte, bI_f, bI_t, i10, i20, i30, sx, snf, ↓rd4e R]
      simp only [wX5_review, bX5_review_61, bX5_review_62, bX5_review_83, m8]
      obtain ⟨M3, e3, R3⟩ := m_ref R 2
      simp (disch := omega) only [↓rd0e R (E.a ha), ↓(fun (g : Int32 → Prop) => oex (m_isIn_t R hF hF6 h) g), c1, ↓reduceIte, bI_f, bI_t, i10, i20, i30, sx, snf, ↓rd5e R, ↓rdAe R, e3, ↓rd5e R3]
      exact endF R3 (sU_eq _ _ _ _) (INV.same R3 I hn)
  · rw [c_acc_f R E hF6 h]
    simp only [↓(fun (g : Int32 → Prop) => oex (m_isIn_f R hF hF6 h) g), ↓reduceIte, bI_f, bI_t, i10, i20, i30, sx, snf, ↓rd4e R]
    simp only [wX5_review, bX5_review_61, bX5_review_62, bX5_review_83, m8]
    obtain ⟨M3, e3, R3⟩ := m_ref R 1
    simp (disch := omega) only [↓(fun (g : Int32 → Prop) => oex (m_isIn_f R hF hF6 h) g), ↓reduceIte, bI_f, bI_t, i10, i20, i30, sx, snf, ↓rd5e R, ↓rdAe R, e3, ↓rd5e R3]
    exact endF R3 (sU_eq _ _ _ _) (INV.same R3 I hn)
end WRITE
