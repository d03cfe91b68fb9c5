/-! ===== the law's case of an item ===== -/
theorem i4040 : ((40 : Int32) < 40) = False := eq_false (by decide)
theorem ob2 {M : hM} {q : Nat} (a1 a2 a3 a4 a5 a6 a7 : Int32) (h6 : a6 = 0 ∨ a6 = 1) (Q : hM → Prop) : wX2_init (hst M q (.inr (2, [.int 0, .int 0, .int 0, .int 0, .int 0, .int 0, .int 0, .int 0, .int 0, .int 0]))) q a1 a2 a3 a4 a5 a6 a7 Q = Q (hst M q (.inr (2, [.int a1, .int a2, .int a3, .int a4, .int a5, .int a6, .int a7, .int (-1), .int 0, .int 0]))) := by
  unfold wX2_init
  refine (oex (pV_at (hst_s _ _ _) (by simp)) _).trans ?_
  refine (oex (pV_at (hst_s _ _ _) (by simp)) _).trans ?_
  refine (oex (pV_at (hst_s _ _ _) (by simp)) _).trans ?_
  refine (oex (pV_at (hst_s _ _ _) (by simp)) _).trans ?_
  refine (oex (pV_at (hst_s _ _ _) (by simp)) _).trans ?_
  refine (oex (pV_at (hst_s _ _ _) (by simp)) _).trans ?_
  refine (oex (pZ_at (hst_s _ _ _) h6 (by simp)) _).trans ?_
  refine (oex (pV_at (hst_s _ _ _) (by simp)) _).trans ?_
  rw [hst_ss, hst_ss, hst_ss, hst_ss, hst_ss, hst_ss, hst_ss, hst_ss]
  rfl
theorem at_off {M : hM} {A : hAd} {s τ : hσ} {w : Nat → Int64} (R : Rep M A s τ w) {q : Nat} (hq : M q = none) (x : hE) : hst M q x (A 0 0) = some (c0 A s) := by
  have hne : A 0 0 ≠ q := fun z => by
    rw [← z, at0 R] at hq
    cases hq
  rw [hst_n _ _ hne]
  exact at0 R
theorem new9 {M : hM} {A : hAd} {s τ : hσ} {w : Nat → Int64} (R : Rep M A s τ w) {t : Nat} (h1 : s 116 t = 0) (a1 a2 a3 a4 a5 a6 : Int32) (h6 : a6 = 0 ∨ a6 = 1) (Q : Nat → hM → Prop) (k : ∀ (M' : hM) (A' : hAd), Rep M' A' (sU (sU (sU (sU (sU (sU (sU (sU (sU (sU (sU s 113 t 1) 12 t a1) 13 t a2) 14 t a3) 15 t a4) 16 t a5) 17 t a6) 18 t (s 1 0)) 19 t (-1)) 20 t 0) 21 t 0) τ w → A' 0 0 = A 0 0 → A' 3 0 = A 3 0 → A' 10 0 = A 10 0 → A' 12 0 = A 12 0 → Q (A' 9 t) M') : ∀ q : Nat, M q = none → ∃ x, gI (hst M q (.inr (2, [.int 0, .int 0, .int 0, .int 0, .int 0, .int 0, .int 0, .int 0, .int 0, .int 0]))) 4 6 (some (A 0 0)) = some x ∧ wX2_init (hst M q (.inr (2, [.int 0, .int 0, .int 0, .int 0, .int 0, .int 0, .int 0, .int 0, .int 0, .int 0]))) q a1 a2 a3 a4 a5 a6 x (Q q) := fun q hq => by
  refine ⟨s 1 0, gI_at (at_off R hq _) rfl, ?_⟩
  rw [ob2 _ _ _ _ _ _ _ h6]
  have h := k _ _ (nw9 R hq h1 a1 a2 a3 a4 a5 a6 (s 1 0) (-1) 0 0) (aU_off (by omega)) (aU_off (by omega)) (aU_off (by omega)) (aU_off (by omega))
  rw [aU_eq] at h
  exact h
def itS (σ : hσ) (c : Nat) (a1 a2 a3 a4 a5 a6 a7 : Int32) : hσ := sU (sU (sU (sU (sU (sU (sU (sU (sU (sU (sU (sU (sU (sU σ 0 0 0) 113 c 1) 12 c a1) 13 c a2) 14 c a3) 15 c a4) 16 c a5) 17 c a6) 18 c a7) 19 c (-1)) 20 c 0) 21 c 0) 116 c 1) 11 0 (nI (c + 1))
theorem itS_x {σ : hσ} {c : Nat} {a1 a2 a3 a4 a5 a6 a7 : Int32} (g k : Nat) (h : g ≠ 0 ∧ (g < 11 ∨ 21 < g) ∧ g ≠ 113 ∧ g ≠ 116) : itS σ c a1 a2 a3 a4 a5 a6 a7 g k = σ g k := by
  unfold itS
  simp (disch := omega) only [sU_ne]
theorem Inv_item {cO cF cI cS : Nat} {σ : hσ} {a1 a2 a3 a4 a5 a6 a7 : Int32} (I : Inv cO cF cI cS σ) (h40 : cI < 40) : Inv cO cF (cI + 1) cS (itS σ cI a1 a2 a3 a4 a5 a6 a7) := by
  have key : ∀ g, g = 113 ∨ g = 116 → ∀ k, itS σ cI a1 a2 a3 a4 a5 a6 a7 g k = if k = cI then 1 else σ g k := by
    rintro g (rfl | rfl) k
    · by_cases e : k = cI
      · subst e
        unfold itS
        rw [if_pos rfl]
        simp (disch := omega) only [sU_ne, sU_eq]
      · unfold itS
        rw [if_neg e]
        simp (disch := omega) only [sU_ne, sU_nj e]
    · by_cases e : k = cI
      · subst e
        unfold itS
        rw [if_pos rfl]
        simp (disch := omega) only [sU_ne, sU_eq]
      · unfold itS
        rw [if_neg e]
        simp (disch := omega) only [sU_ne, sU_nj e]
  have hacc : ∀ t, accS (itS σ cI a1 a2 a3 a4 a5 a6 a7) cF t = accS σ cF t := fun t => by
    unfold accS
    rw [itS_x 9 _ (by decide)]
  obtain ⟨hO, hO8, hF, hF6, hI, hI4, hSn, hS6, D, hD, hday⟩ := I.1
  have E := I.2.1
  refine ⟨⟨?_, hO8, ?_, hF6, ?_, by omega, ?_, hS6, D, hD, ?_⟩, ⟨fun k => ?_, fun k => ?_, fun k => ?_, fun k => ?_, fun k => ?_, fun k => ?_, fun k => ?_, fun t => ?_, fun t => ?_, fun f p => ?_, ?_⟩, ?_, fun k hk => ?_, ?_, ?_, ?_⟩
  · rw [itS_x 2 _ (by decide)]
    exact hO
  · rw [itS_x 7 _ (by decide)]
    exact hF
  · unfold itS
    rw [sU_eq]
  · rw [itS_x 33 _ (by decide)]
    exact hSn
  · rw [itS_x 1 _ (by decide)]
    exact hday
  · rw [itS_x 110 _ (by decide)]
    exact E.1 k
  · rw [itS_x 114 _ (by decide)]
    exact E.2.1 k
  · rw [itS_x 111 _ (by decide)]
    exact E.2.2.1 k
  · rw [itS_x 115 _ (by decide)]
    exact E.2.2.2.1 k
  · rw [itS_x 118 _ (by decide)]
    exact E.2.2.2.2.1 k
  · rw [key 113 (Or.inl rfl) k, up1, E.2.2.2.2.2.1 k]
  · rw [key 116 (Or.inr rfl) k, up1, E.2.2.2.2.2.2.1 k]
  · rw [itS_x 112 _ (by decide), hacc]
    exact E.2.2.2.2.2.2.2.1 t
  · rw [itS_x 119 _ (by decide), hacc]
    exact E.2.2.2.2.2.2.2.2.1 t
  · rw [itS_x (1000 + 2 * f) _ (by omega), hacc]
    exact E.2.2.2.2.2.2.2.2.2.1 f p
  · rw [itS_x 120 _ (by decide)]
    exact E.out
  · exact (InvO_c (by omega) (InvO_c (by omega) (InvO_c (by omega) (InvO_c (by omega) (InvO_c (by omega) (InvO_c (by omega) (InvO_c (by omega) (InvO_c (by omega) (InvO_c (by omega) (InvO_c (by omega) (InvO_c (by omega) (InvO_c (by omega) (InvO_c (by omega) (InvO_c (by omega) I.2.2.1))))))))))))))
  · have q := I.2.2.2.1 k (by omega)
    have ne : k ≠ cI := by omega
    unfold itS
    simp (disch := omega) only [sU_ne, sU_nj ne]
    exact q
  · exact (InvF_c (by omega) (InvF_c (by omega) (InvF_c (by omega) (InvF_c (by omega) (InvF_c (by omega) (InvF_c (by omega) (InvF_c (by omega) (InvF_c (by omega) (InvF_c (by omega) (InvF_c (by omega) (InvF_c (by omega) (InvF_c (by omega) (InvF_c (by omega) (InvF_c (by omega) I.2.2.2.2.1))))))))))))))
  · exact (InvT_c (by omega) (InvT_c (by omega) (InvT_c (by omega) (InvT_c (by omega) (InvT_c (by omega) (InvT_c (by omega) (InvT_c (by omega) (InvT_c (by omega) (InvT_c (by omega) (InvT_c (by omega) (InvT_c (by omega) (InvT_c (by omega) (InvT_c (by omega) (InvT_c (by omega) I.2.2.2.2.2.1))))))))))))))
  · exact (InvS_c (by omega) (InvS_c (by omega) (InvS_c (by omega) (InvS_c (by omega) (InvS_c (by omega) (InvS_c (by omega) (InvS_c (by omega) (InvS_c (by omega) (InvS_c (by omega) (InvS_c (by omega) (InvS_c (by omega) (InvS_c (by omega) (InvS_c (by omega) (InvS_c (by omega) I.2.2.2.2.2.2))))))))))))))
section WITEM
variable {n : Nat} {M : hM} {x m out : Nat} {p1 p2 p3 p4 p5 p6 : Int32}
theorem item_core (J : INV n M x m out) (b : Int32) (hb01 : b = 0 ∨ b = 1) : wL_item M (some x) p1 p2 p3 p4 p5 b (some out) (fun M56 x55 => ∃ y59, hC M56 5 (some m) = some y59 ∧ wX5_item M56 m p1 p2 p3 p4 p5 b (fun M60 x58 => ∃ y62, hC M60 5 (some m) = some y62 ∧ ∃ x61, fX5_thrown M60 m = some x61 ∧ if (x61 : Int32) = x55 then (if (x55 : Int32) = 0 then (∃ x65, aJ M60 2 (some out) 0 = some x65 ∧ if ((lg_cmp x65 (Int32.toInt64 x58)) : Int32) = 0 then INV (n + 1) M60 x m out else False) else INV (n + 1) M60 x m out) else False)) := by
  obtain ⟨A, σ, w, cO, cF, cI, cS, ⟨rfl, rfl, rfl⟩, R, I, hn⟩ := J
  obtain ⟨hO, hO8, hF, hF6, hI, hI4, hSn, hS6, D, hD, hday⟩ := I.1
  have E := I.2.1
  unfold wL_item wX4_item
  simp only [↓rd4e R]
  by_cases h : ∃ f, f < cF ∧ p1 = nI f
  · have q1 : inR p1 0 (σ 7 0 - 1) = true := by
      rw [hF]
      obtain ⟨f, hf, e⟩ := h
      exact (inR_pre (by omega)).mpr ⟨f, hf, e⟩
    obtain ⟨f, hf, rfl⟩ := h
    have hf6 : f < 6 := by omega
    cases g2 : inR p2 0 9 with
    | false =>
      simp only [↓(fun (g : Option Nat → Prop) => oex (c_fileAt_t R E hf6 hf) g), ↓rd1e R (E.f hf), q1, ↓(fun (g : Int32 → Prop) => oex (in5 (nI f) 0 (σ 7 0 - 1)) g), ↓(fun (g : Int32 → Prop) => oex (in4 p2 0 9) g), ↓(fun (g : Int32 → Prop) => oex (in5 p2 0 9) g), ↓(fun (g : Int32 → Prop) => oex (in4 p3 (-9) 9) g), ↓(fun (g : Int32 → Prop) => oex (in5 p3 (-9) 9) g), ↓(fun (g : Int32 → Prop) => oex (in4 p5 0 2) g), ↓(fun (g : Int32 → Prop) => oex (in5 p5 0 2) g), g2, ↓reduceIte, bI_f, bI_t, i10, i20, i30, sx, snf, ↓rd4e R]
      simp only [wX5_item, bX5_item_28, bX5_item_29, bX5_item_84, bX5_item_85, bX5_item_120, m8]
      obtain ⟨M3, e3, R3⟩ := m_ref R 1
      simp (disch := omega) only [↓(fun (g : Option Nat → Prop) => oex (c_fileAt_t R E hf6 hf) g), ↓rd1e R (E.f hf), q1, ↓(fun (g : Int32 → Prop) => oex (in5 (nI f) 0 (σ 7 0 - 1)) g), ↓(fun (g : Int32 → Prop) => oex (in4 p2 0 9) g), ↓(fun (g : Int32 → Prop) => oex (in5 p2 0 9) g), ↓(fun (g : Int32 → Prop) => oex (in4 p3 (-9) 9) g), ↓(fun (g : Int32 → Prop) => oex (in5 p3 (-9) 9) g), ↓(fun (g : Int32 → Prop) => oex (in4 p5 0 2) g), ↓(fun (g : Int32 → Prop) => oex (in5 p5 0 2) g), g2, ↓reduceIte, bI_f, bI_t, i10, i20, i30, sx, snf, ↓rd5e R, ↓rdAe R, e3, ↓rd5e R3]
      exact endF R3 (sU_eq _ _ _ _) (INV.same R3 I hn)
    | true =>
      cases g3 : inR p3 (-9) 9 with
      | false =>
        simp only [↓(fun (g : Option Nat → Prop) => oex (c_fileAt_t R E hf6 hf) g), ↓rd1e R (E.f hf), q1, ↓(fun (g : Int32 → Prop) => oex (in5 (nI f) 0 (σ 7 0 - 1)) g), ↓(fun (g : Int32 → Prop) => oex (in4 p2 0 9) g), ↓(fun (g : Int32 → Prop) => oex (in5 p2 0 9) g), ↓(fun (g : Int32 → Prop) => oex (in4 p3 (-9) 9) g), ↓(fun (g : Int32 → Prop) => oex (in5 p3 (-9) 9) g), ↓(fun (g : Int32 → Prop) => oex (in4 p5 0 2) g), ↓(fun (g : Int32 → Prop) => oex (in5 p5 0 2) g), g2, g3, ↓reduceIte, bI_f, bI_t, i10, i20, i30, sx, snf, ↓rd4e R]
        simp only [wX5_item, bX5_item_28, bX5_item_29, bX5_item_84, bX5_item_85, bX5_item_120, m8]
        obtain ⟨M3, e3, R3⟩ := m_ref R 2
        simp (disch := omega) only [↓(fun (g : Option Nat → Prop) => oex (c_fileAt_t R E hf6 hf) g), ↓rd1e R (E.f hf), q1, ↓(fun (g : Int32 → Prop) => oex (in5 (nI f) 0 (σ 7 0 - 1)) g), ↓(fun (g : Int32 → Prop) => oex (in4 p2 0 9) g), ↓(fun (g : Int32 → Prop) => oex (in5 p2 0 9) g), ↓(fun (g : Int32 → Prop) => oex (in4 p3 (-9) 9) g), ↓(fun (g : Int32 → Prop) => oex (in5 p3 (-9) 9) g), ↓(fun (g : Int32 → Prop) => oex (in4 p5 0 2) g), ↓(fun (g : Int32 → Prop) => oex (in5 p5 0 2) g), g2, g3, ↓reduceIte, bI_f, bI_t, i10, i20, i30, sx, snf, ↓rd5e R, ↓rdAe R, e3, ↓rd5e R3]
        exact endF R3 (sU_eq _ _ _ _) (INV.same R3 I hn)
      | true =>
        by_cases c3 : p3 = 0
        · have c3' : (p3 = 0) = True := eq_true c3
          simp only [↓(fun (g : Option Nat → Prop) => oex (c_fileAt_t R E hf6 hf) g), ↓rd1e R (E.f hf), q1, ↓(fun (g : Int32 → Prop) => oex (in5 (nI f) 0 (σ 7 0 - 1)) g), ↓(fun (g : Int32 → Prop) => oex (in4 p2 0 9) g), ↓(fun (g : Int32 → Prop) => oex (in5 p2 0 9) g), ↓(fun (g : Int32 → Prop) => oex (in4 p3 (-9) 9) g), ↓(fun (g : Int32 → Prop) => oex (in5 p3 (-9) 9) g), ↓(fun (g : Int32 → Prop) => oex (in4 p5 0 2) g), ↓(fun (g : Int32 → Prop) => oex (in5 p5 0 2) g), g2, g3, c3', ↓reduceIte, bI_f, bI_t, i10, i20, i30, sx, snf, ↓rd4e R]
          simp only [wX5_item, bX5_item_28, bX5_item_29, bX5_item_84, bX5_item_85, bX5_item_120, m8]
          obtain ⟨M3, e3, R3⟩ := m_ref R 2
          simp (disch := omega) only [↓(fun (g : Option Nat → Prop) => oex (c_fileAt_t R E hf6 hf) g), ↓rd1e R (E.f hf), q1, ↓(fun (g : Int32 → Prop) => oex (in5 (nI f) 0 (σ 7 0 - 1)) g), ↓(fun (g : Int32 → Prop) => oex (in4 p2 0 9) g), ↓(fun (g : Int32 → Prop) => oex (in5 p2 0 9) g), ↓(fun (g : Int32 → Prop) => oex (in4 p3 (-9) 9) g), ↓(fun (g : Int32 → Prop) => oex (in5 p3 (-9) 9) g), ↓(fun (g : Int32 → Prop) => oex (in4 p5 0 2) g), ↓(fun (g : Int32 → Prop) => oex (in5 p5 0 2) g), g2, g3, c3', ↓reduceIte, bI_f, bI_t, i10, i20, i30, sx, snf, ↓rd5e R, ↓rdAe R, e3, ↓rd5e R3]
          exact endF R3 (sU_eq _ _ _ _) (INV.same R3 I hn)
        · by_cases c4 : p4 = 0
          · have hha : fX1_hasAll M (A 5 f) p4 = some 0 := by
              unfold fX1_hasAll
              rw [if_pos c4]
            have c6 : p4 ≤ 0 := by
              rw [c4]
              exact Int32.le_refl _
            simp only [↓(fun (g : Option Nat → Prop) => oex (c_fileAt_t R E hf6 hf) g), ↓rd1e R (E.f hf), q1, ↓(fun (g : Int32 → Prop) => oex (in5 (nI f) 0 (σ 7 0 - 1)) g), ↓(fun (g : Int32 → Prop) => oex (in4 p2 0 9) g), ↓(fun (g : Int32 → Prop) => oex (in5 p2 0 9) g), ↓(fun (g : Int32 → Prop) => oex (in4 p3 (-9) 9) g), ↓(fun (g : Int32 → Prop) => oex (in5 p3 (-9) 9) g), ↓(fun (g : Int32 → Prop) => oex (in4 p5 0 2) g), ↓(fun (g : Int32 → Prop) => oex (in5 p5 0 2) g), g2, g3, c3, ↓(fun (g : Int32 → Prop) => oex (hha) g), c6, ↓reduceIte, bI_f, bI_t, i10, i20, i30, sx, snf, ↓rd4e R]
            simp only [wX5_item, bX5_item_28, bX5_item_29, bX5_item_84, bX5_item_85, bX5_item_120, m8]
            obtain ⟨M3, e3, R3⟩ := m_ref R 2
            simp (disch := omega) only [↓(fun (g : Option Nat → Prop) => oex (c_fileAt_t R E hf6 hf) g), ↓rd1e R (E.f hf), q1, ↓(fun (g : Int32 → Prop) => oex (in5 (nI f) 0 (σ 7 0 - 1)) g), ↓(fun (g : Int32 → Prop) => oex (in4 p2 0 9) g), ↓(fun (g : Int32 → Prop) => oex (in5 p2 0 9) g), ↓(fun (g : Int32 → Prop) => oex (in4 p3 (-9) 9) g), ↓(fun (g : Int32 → Prop) => oex (in5 p3 (-9) 9) g), ↓(fun (g : Int32 → Prop) => oex (in4 p5 0 2) g), ↓(fun (g : Int32 → Prop) => oex (in5 p5 0 2) g), g2, g3, c3, ↓(fun (g : Int32 → Prop) => oex (hha) g), c6, ↓reduceIte, bI_f, bI_t, i10, i20, i30, sx, snf, ↓rd5e R, ↓rdAe R, e3, ↓rd5e R3]
            exact endF R3 (sU_eq _ _ _ _) (INV.same R3 I hn)
          · by_cases c5 : p4 &&& (σ 9 f ^^^ (-1)) = 0
            · have hha : fX1_hasAll M (A 5 f) p4 = some 1 := by
                unfold fX1_hasAll
                rw [if_neg c4, obind (rd1 R (E.f hf)).2.2.2.1, if_pos c5]
              have c6 : ¬ p4 ≤ 0 := by
                obtain ⟨a, ha, e⟩ := I.2.2.2.2.1 f hf
                obtain ⟨z, hz, e2⟩ := and_small (c := a) ha p4
                have e3 := andnot.mp c5
                rw [e, Int32.and_comm, e2] at e3
                rw [← e3]
                refine nI_nle (Nat.pos_of_ne_zero fun q => c4 ?_) (by omega)
                rw [← e3, q]
                exact nI_0
              cases g5 : inR p5 0 2 with
              | false =>
                simp only [↓(fun (g : Option Nat → Prop) => oex (c_fileAt_t R E hf6 hf) g), ↓rd1e R (E.f hf), q1, ↓(fun (g : Int32 → Prop) => oex (in5 (nI f) 0 (σ 7 0 - 1)) g), ↓(fun (g : Int32 → Prop) => oex (in4 p2 0 9) g), ↓(fun (g : Int32 → Prop) => oex (in5 p2 0 9) g), ↓(fun (g : Int32 → Prop) => oex (in4 p3 (-9) 9) g), ↓(fun (g : Int32 → Prop) => oex (in5 p3 (-9) 9) g), ↓(fun (g : Int32 → Prop) => oex (in4 p5 0 2) g), ↓(fun (g : Int32 → Prop) => oex (in5 p5 0 2) g), g2, g3, c3, ↓(fun (g : Int32 → Prop) => oex (hha) g), c5, c6, g5, ↓reduceIte, bI_f, bI_t, i10, i20, i30, sx, snf, ↓rd4e R]
                simp only [wX5_item, bX5_item_28, bX5_item_29, bX5_item_84, bX5_item_85, bX5_item_120, m8]
                obtain ⟨M3, e3, R3⟩ := m_ref R 2
                simp (disch := omega) only [↓(fun (g : Option Nat → Prop) => oex (c_fileAt_t R E hf6 hf) g), ↓rd1e R (E.f hf), q1, ↓(fun (g : Int32 → Prop) => oex (in5 (nI f) 0 (σ 7 0 - 1)) g), ↓(fun (g : Int32 → Prop) => oex (in4 p2 0 9) g), ↓(fun (g : Int32 → Prop) => oex (in5 p2 0 9) g), ↓(fun (g : Int32 → Prop) => oex (in4 p3 (-9) 9) g), ↓(fun (g : Int32 → Prop) => oex (in5 p3 (-9) 9) g), ↓(fun (g : Int32 → Prop) => oex (in4 p5 0 2) g), ↓(fun (g : Int32 → Prop) => oex (in5 p5 0 2) g), g2, g3, c3, ↓(fun (g : Int32 → Prop) => oex (hha) g), c5, c6, g5, ↓reduceIte, bI_f, bI_t, i10, i20, i30, sx, snf, ↓rd5e R, ↓rdAe R, e3, ↓rd5e R3]
                exact endF R3 (sU_eq _ _ _ _) (INV.same R3 I hn)
              | true =>
                by_cases c7 : cI < 40
                · have hz1 : nI cI < 40 := t40 c7
                  have hz2 : ¬ nI cI = 40 := fun z => by
                    have := (nI_eq (a := cI) (b := 40) (by omega) (by decide)).mp z
                    omega
                  simp only [↓(fun (g : Option Nat → Prop) => oex (c_fileAt_t R E hf6 hf) g), ↓rd1e R (E.f hf), q1, ↓(fun (g : Int32 → Prop) => oex (in5 (nI f) 0 (σ 7 0 - 1)) g), ↓(fun (g : Int32 → Prop) => oex (in4 p2 0 9) g), ↓(fun (g : Int32 → Prop) => oex (in5 p2 0 9) g), ↓(fun (g : Int32 → Prop) => oex (in4 p3 (-9) 9) g), ↓(fun (g : Int32 → Prop) => oex (in5 p3 (-9) 9) g), ↓(fun (g : Int32 → Prop) => oex (in4 p5 0 2) g), ↓(fun (g : Int32 → Prop) => oex (in5 p5 0 2) g), g2, g3, c3, ↓(fun (g : Int32 → Prop) => oex (hha) g), g5, c5, c6, hI, hz1, ↓rdLe R, ↓reduceIte, bI_f, bI_t, i10, i20, i30, sx, snf, ↓rd4e R]
                  refine new9 R ((E.2.2.2.2.2.2.1 cI).trans (bI_df (by omega))) (nI f) p2 p3 p4 p5 b hb01 _ (fun M1 A1 R1 e0 e1 e10 e12 => ?_)
                  simp only [← e0, ← e1, ← e10, ← e12]
                  obtain ⟨M2, e2, R2⟩ := wrR3 R1 c7 (by simp (disch := omega) only [sU_ne, sU_eq])
                  obtain ⟨M3, e3, R3⟩ := wr4_5 R2 (nI (cI + 1))
                  simp (disch := omega) only [↓(fun (g : hM → Prop) => oex e2 g), ↓rd4e R2, sU_ne, hI, nI_1, ↓(fun (g : hM → Prop) => oex e3 g), ↓rd4e R3, sU_eq, nI_pred, ↓reduceIte, bI_f, bI_t, i10, i20, i30, sx, snf]
                  have h120 : sU (sU (sU (sU (sU (sU (sU (sU (sU (sU (sU (sU (sU σ 113 cI 1) 12 cI (nI f)) 13 cI p2) 14 cI p3) 15 cI p4) 16 cI p5) 17 cI b) 18 cI (σ 1 0)) 19 cI (-1)) 20 cI 0) 21 cI 0) 116 cI 1) 11 0 (nI (cI + 1)) 120 0 = 1 := by
                    simp (disch := omega) only [sU_ne]
                    exact E.out
                  obtain ⟨M4, e4, R4⟩ := wrJ R3 h120 (nI cI).toInt64
                  refine ⟨M4, e4, ?_⟩
                  simp only [wX5_item, bX5_item_28, bX5_item_29, bX5_item_84, bX5_item_85, bX5_item_120, m8]
                  obtain ⟨M5, e5, R5⟩ := m_ref R4 0
                  simp (disch := omega) only [↓(fun (g : Int32 → Prop) => oex (in5 (nI f) 0 (σ 7 0 - 1)) g), ↓(fun (g : Int32 → Prop) => oex (in4 p2 0 9) g), ↓(fun (g : Int32 → Prop) => oex (in5 p2 0 9) g), ↓(fun (g : Int32 → Prop) => oex (in4 p3 (-9) 9) g), ↓(fun (g : Int32 → Prop) => oex (in5 p3 (-9) 9) g), ↓(fun (g : Int32 → Prop) => oex (in4 p5 0 2) g), ↓(fun (g : Int32 → Prop) => oex (in5 p5 0 2) g), q1, g2, g3, c3, c5, c6, g5, hI, hz2, ↓reduceIte, bI_f, bI_t, i10, i20, i30, sx, snf, ↓rd5e R4, ↓rdAe R4, e5, ↓rd5e R5, sU_ne]
                  obtain ⟨M6, e6, R6⟩ := wrA R5 (f := 12) (n := 40) (k := cI) rfl c7 (by decide) (nI f)
                  simp (disch := omega) only [↓(fun (g : hM → Prop) => oex e6 g), ↓rd5e R6, sU_ne, hI]
                  obtain ⟨M7, e7, R7⟩ := wrA R6 (f := 13) (n := 40) (k := cI) rfl c7 (by decide) p2
                  simp (disch := omega) only [↓(fun (g : hM → Prop) => oex e7 g), ↓rd5e R7, sU_ne, hI]
                  obtain ⟨M8, e8, R8⟩ := wrA R7 (f := 14) (n := 40) (k := cI) rfl c7 (by decide) p3
                  simp (disch := omega) only [↓(fun (g : hM → Prop) => oex e8 g), ↓rd5e R8, sU_ne, hI]
                  obtain ⟨M9, e9, R9⟩ := wrA R8 (f := 15) (n := 40) (k := cI) rfl c7 (by decide) p4
                  simp (disch := omega) only [↓(fun (g : hM → Prop) => oex e9 g), ↓rd5e R9, sU_ne, hI]
                  obtain ⟨M10, e10, R10⟩ := wrA R9 (f := 16) (n := 40) (k := cI) rfl c7 (by decide) p5
                  simp (disch := omega) only [↓(fun (g : hM → Prop) => oex e10 g), ↓rd5e R10, sU_ne, hI]
                  obtain ⟨M11, e11, R11⟩ := wrB R10 (f := 17) (n := 40) (k := cI) rfl c7 (by decide) b hb01
                  simp (disch := omega) only [↓(fun (g : hM → Prop) => oex e11 g), ↓rd5e R11, sU_ne, hI]
                  obtain ⟨M12, e12, R12⟩ := wrA R11 (f := 18) (n := 40) (k := cI) rfl c7 (by decide) (σ 1 0)
                  simp (disch := omega) only [↓(fun (g : hM → Prop) => oex e12 g), ↓rd5e R12, sU_ne, hI]
                  obtain ⟨M13, e13, R13⟩ := wrA R12 (f := 19) (n := 40) (k := cI) rfl c7 (by decide) (-1)
                  simp (disch := omega) only [↓(fun (g : hM → Prop) => oex e13 g), ↓rd5e R13, sU_ne, hI]
                  obtain ⟨M14, e14, R14⟩ := wr5_11 R13 (nI (cI + 1))
                  simp (disch := omega) only [nI_1, ↓(fun (g : hM → Prop) => oex e14 g), ↓rd5e R14, sU_eq, nI_pred]
                  refine endI0 R14 h120 (by simp (disch := omega) only [sU_ne, sU_eq]) rfl (INV.mk (σ' := itS σ cI (nI f) p2 p3 p4 p5 b (σ 1 0)) R14 ?_ ?_ (Inv_item I c7) (by omega))
                  · exact ((((((((((((((AM.rf σ).m (by omega)).u 113 cI 1).u 12 cI (nI f)).u 13 cI p2).u 14 cI p3).u 15 cI p4).u 16 cI p5).u 17 cI b).u 18 cI (σ 1 0)).u 19 cI (-1)).u 20 cI 0).u 21 cI 0).u 116 cI 1).u 11 0 _
                  · exact ((((((((((((((BM.rf σ).u 0 0 0).m (by omega)).u 12 cI (nI f)).u 13 cI p2).u 14 cI p3).u 15 cI p4).u 16 cI p5).u 17 cI b).u 18 cI (σ 1 0)).u 19 cI (-1)).o (by simp (disch := omega) only [sU_ne]; exact (I.2.2.2.1 cI (Nat.le_refl _)).1)).o (by simp (disch := omega) only [sU_ne]; exact (I.2.2.2.1 cI (Nat.le_refl _)).2)).m (by omega)).u 11 0 _
                · have hI' : σ 11 0 = 40 := by
                    rw [hI, show cI = 40 by omega]
                    rfl
                  simp only [↓(fun (g : Option Nat → Prop) => oex (c_fileAt_t R E hf6 hf) g), ↓rd1e R (E.f hf), q1, ↓(fun (g : Int32 → Prop) => oex (in5 (nI f) 0 (σ 7 0 - 1)) g), ↓(fun (g : Int32 → Prop) => oex (in4 p2 0 9) g), ↓(fun (g : Int32 → Prop) => oex (in5 p2 0 9) g), ↓(fun (g : Int32 → Prop) => oex (in4 p3 (-9) 9) g), ↓(fun (g : Int32 → Prop) => oex (in5 p3 (-9) 9) g), ↓(fun (g : Int32 → Prop) => oex (in4 p5 0 2) g), ↓(fun (g : Int32 → Prop) => oex (in5 p5 0 2) g), g2, g3, c3, ↓(fun (g : Int32 → Prop) => oex (hha) g), c5, c6, g5, hI', i4040, ↓rdLe R, ↓reduceIte, bI_f, bI_t, i10, i20, i30, sx, snf, ↓rd4e R]
                  simp only [wX5_item, bX5_item_28, bX5_item_29, bX5_item_84, bX5_item_85, bX5_item_120, m8]
                  obtain ⟨M3, e3, R3⟩ := m_ref R 3
                  simp (disch := omega) only [↓(fun (g : Option Nat → Prop) => oex (c_fileAt_t R E hf6 hf) g), ↓rd1e R (E.f hf), q1, ↓(fun (g : Int32 → Prop) => oex (in5 (nI f) 0 (σ 7 0 - 1)) g), ↓(fun (g : Int32 → Prop) => oex (in4 p2 0 9) g), ↓(fun (g : Int32 → Prop) => oex (in5 p2 0 9) g), ↓(fun (g : Int32 → Prop) => oex (in4 p3 (-9) 9) g), ↓(fun (g : Int32 → Prop) => oex (in5 p3 (-9) 9) g), ↓(fun (g : Int32 → Prop) => oex (in4 p5 0 2) g), ↓(fun (g : Int32 → Prop) => oex (in5 p5 0 2) g), g2, g3, c3, ↓(fun (g : Int32 → Prop) => oex (hha) g), c5, c6, g5, hI', i4040, ↓rdLe R, ↓reduceIte, bI_f, bI_t, i10, i20, i30, sx, snf, ↓rd5e R, ↓rdAe R, e3, ↓rd5e R3]
                  exact endF R3 (sU_eq _ _ _ _) (INV.same R3 I hn)
            · have hha : fX1_hasAll M (A 5 f) p4 = some 0 := by
                unfold fX1_hasAll
                rw [if_neg c4, obind (rd1 R (E.f hf)).2.2.2.1, if_neg c5]
              by_cases c6 : p4 ≤ 0
              ·
                simp only [↓(fun (g : Option Nat → Prop) => oex (c_fileAt_t R E hf6 hf) g), ↓rd1e R (E.f hf), q1, ↓(fun (g : Int32 → Prop) => oex (in5 (nI f) 0 (σ 7 0 - 1)) g), ↓(fun (g : Int32 → Prop) => oex (in4 p2 0 9) g), ↓(fun (g : Int32 → Prop) => oex (in5 p2 0 9) g), ↓(fun (g : Int32 → Prop) => oex (in4 p3 (-9) 9) g), ↓(fun (g : Int32 → Prop) => oex (in5 p3 (-9) 9) g), ↓(fun (g : Int32 → Prop) => oex (in4 p5 0 2) g), ↓(fun (g : Int32 → Prop) => oex (in5 p5 0 2) g), g2, g3, c3, ↓(fun (g : Int32 → Prop) => oex (hha) g), c5, c6, ↓reduceIte, bI_f, bI_t, i10, i20, i30, sx, snf, ↓rd4e R]
                simp only [wX5_item, bX5_item_28, bX5_item_29, bX5_item_84, bX5_item_85, bX5_item_120, m8]
                obtain ⟨M3, e3, R3⟩ := m_ref R 2
                simp (disch := omega) only [↓(fun (g : Option Nat → Prop) => oex (c_fileAt_t R E hf6 hf) g), ↓rd1e R (E.f hf), q1, ↓(fun (g : Int32 → Prop) => oex (in5 (nI f) 0 (σ 7 0 - 1)) g), ↓(fun (g : Int32 → Prop) => oex (in4 p2 0 9) g), ↓(fun (g : Int32 → Prop) => oex (in5 p2 0 9) g), ↓(fun (g : Int32 → Prop) => oex (in4 p3 (-9) 9) g), ↓(fun (g : Int32 → Prop) => oex (in5 p3 (-9) 9) g), ↓(fun (g : Int32 → Prop) => oex (in4 p5 0 2) g), ↓(fun (g : Int32 → Prop) => oex (in5 p5 0 2) g), g2, g3, c3, ↓(fun (g : Int32 → Prop) => oex (hha) g), c5, c6, ↓reduceIte, bI_f, bI_t, i10, i20, i30, sx, snf, ↓rd5e R, ↓rdAe R, e3, ↓rd5e R3]
                exact endF R3 (sU_eq _ _ _ _) (INV.same R3 I hn)
              ·
                simp only [↓(fun (g : Option Nat → Prop) => oex (c_fileAt_t R E hf6 hf) g), ↓rd1e R (E.f hf), q1, ↓(fun (g : Int32 → Prop) => oex (in5 (nI f) 0 (σ 7 0 - 1)) g), ↓(fun (g : Int32 → Prop) => oex (in4 p2 0 9) g), ↓(fun (g : Int32 → Prop) => oex (in5 p2 0 9) g), ↓(fun (g : Int32 → Prop) => oex (in4 p3 (-9) 9) g), ↓(fun (g : Int32 → Prop) => oex (in5 p3 (-9) 9) g), ↓(fun (g : Int32 → Prop) => oex (in4 p5 0 2) g), ↓(fun (g : Int32 → Prop) => oex (in5 p5 0 2) g), g2, g3, c3, ↓(fun (g : Int32 → Prop) => oex (hha) g), c5, c6, ↓reduceIte, bI_f, bI_t, i10, i20, i30, sx, snf, ↓rd4e R]
                simp only [wX5_item, bX5_item_28, bX5_item_29, bX5_item_84, bX5_item_85, bX5_item_120, m8]
                obtain ⟨M3, e3, R3⟩ := m_ref R 2
                simp (disch := omega) only [↓(fun (g : Option Nat → Prop) => oex (c_fileAt_t R E hf6 hf) g), ↓rd1e R (E.f hf), q1, ↓(fun (g : Int32 → Prop) => oex (in5 (nI f) 0 (σ 7 0 - 1)) g), ↓(fun (g : Int32 → Prop) => oex (in4 p2 0 9) g), ↓(fun (g : Int32 → Prop) => oex (in5 p2 0 9) g), ↓(fun (g : Int32 → Prop) => oex (in4 p3 (-9) 9) g), ↓(fun (g : Int32 → Prop) => oex (in5 p3 (-9) 9) g), ↓(fun (g : Int32 → Prop) => oex (in4 p5 0 2) g), ↓(fun (g : Int32 → Prop) => oex (in5 p5 0 2) g), g2, g3, c3, ↓(fun (g : Int32 → Prop) => oex (hha) g), c5, c6, ↓reduceIte, bI_f, bI_t, i10, i20, i30, sx, snf, ↓rd5e R, ↓rdAe R, e3, ↓rd5e R3]
                exact endF R3 (sU_eq _ _ _ _) (INV.same R3 I hn)
  · have q1 : inR p1 0 (σ 7 0 - 1) = false := by
      rw [hF, ← Bool.not_eq_true, inR_pre (by omega)]
      exact h
    simp only [q1, ↓(fun (g : Option Nat → Prop) => oex (c_fileAt_f R E h) g), ↓(fun (g : Int32 → Prop) => oex (in5 p1 0 (σ 7 0 - 1)) g), ↓reduceIte, bI_f, bI_t, i10, i20, i30, sx, snf, ↓rd4e R]
    simp only [wX5_item, bX5_item_28, bX5_item_29, bX5_item_84, bX5_item_85, bX5_item_120, m8]
    obtain ⟨M3, e3, R3⟩ := m_ref R 1
    simp (disch := omega) only [q1, ↓(fun (g : Option Nat → Prop) => oex (c_fileAt_f R E h) g), ↓(fun (g : Int32 → Prop) => oex (in5 p1 0 (σ 7 0 - 1)) g), ↓reduceIte, bI_f, bI_t, i10, i20, i30, sx, snf, ↓rd5e R, ↓rdAe R, e3, ↓rd5e R3]
    exact endF R3 (sU_eq _ _ _ _) (INV.same R3 I hn)
theorem case_4 (J : INV n M x m out) : lw_4 M x m out p1 p2 p3 p4 p5 p6 (fun M' => INV (n + 1) M' x m out) := by
  unfold lw_4
  by_cases h6 : p6 = 0
  · simp only [h6, ↓reduceIte]
    exact item_core J 0 (Or.inl rfl)
  · simp only [h6, ↓reduceIte]
    exact item_core J 1 (Or.inr rfl)
end WITEM
