/-! ===== the law's cases of offences ===== -/
theorem BM.o {a b : hσ} (h : BM a b) {g j : Nat} {x : Int32} (hx : b g j = x) : BM (sU a g j x) b := fun f i h1 => by
  by_cases e : f = g ∧ i = j
  · obtain ⟨rfl, rfl⟩ := e
    rw [sU_eq, hx]
  · rw [sU_off e]
    exact h f i h1
theorem i88 : ((8 : Int32) < 8) = False := eq_false (by decide)
theorem up1 (c k : Nat) : bI (decide (k < c + 1)) = if k = c then 1 else bI (decide (k < c)) := by
  by_cases e : k = c
  · rw [if_pos e, bI_dt (by omega)]
  · rw [if_neg e, decide_eq_decide.mpr (show k < c + 1 ↔ k < c by omega)]
theorem ob3 {M : hM} {q : Nat} (a b c : Int32) (Q : hM → Prop) : wX3_init (hst M q (.inr (3, [.int 0, .int 0, .int 0, .int 0]))) q a b c Q = Q (hst M q (.inr (3, [.int a, .int b, .int c, .int 0]))) := by
  unfold wX3_init
  refine (oex (pV_at (hst_s _ _ _) (by simp)) _).trans ?_
  refine (oex (pV_at (hst_s _ _ _) (by simp)) _).trans ?_
  refine (oex (pV_at (hst_s _ _ _) (by simp)) _).trans ?_
  rw [hst_ss, hst_ss, hst_ss]
  rfl
theorem new4 {M : hM} {A : hAd} {s τ : hσ} {w : Nat → Int64} (R : Rep M A s τ w) {t : Nat} (h1 : s 114 t = 0) (a b c : Int32) (Q : Nat → hM → Prop) (k : ∀ (M' : hM) (A' : hAd), Rep M' A' (sU (sU (sU (sU (sU s 110 t 1) 3 t a) 4 t b) 5 t c) 6 t 0) τ w → A' 0 0 = A 0 0 → A' 1 0 = A 1 0 → A' 10 0 = A 10 0 → A' 12 0 = A 12 0 → Q (A' 4 t) M') : ∀ q : Nat, M q = none → wX3_init (hst M q (.inr (3, [.int 0, .int 0, .int 0, .int 0]))) q a b c (Q q) := fun q hq => by
  rw [ob3]
  have h := k _ _ (nw4 R hq h1 a b c 0) (aU_off (by omega)) (aU_off (by omega)) (aU_off (by omega)) (aU_off (by omega))
  rw [aU_eq] at h
  exact h
theorem InvT_mono {c c' cF : Nat} {σ : hσ} (h : c ≤ c') (q : InvT c cF σ) : InvT c' cF σ := fun t ht => by
  obtain ⟨q1, o1, o2, o3, o4, ⟨k, k1, k2⟩, o6⟩ := q t ht
  exact ⟨q1, o1, o2, o3, o4, ⟨k, Nat.lt_of_lt_of_le k1 (Nat.pow_le_pow_right (by decide) h), k2⟩, o6⟩
theorem InvS_mono {c c' cF cS : Nat} {σ : hσ} (h : c ≤ c') (q : InvS c cF cS σ) : InvS c' cF cS σ := ⟨q.1, q.2.1, q.2.2.1, fun k hk => by
  obtain ⟨z, z1, z2⟩ := q.2.2.2 k hk
  exact ⟨z, Nat.lt_of_lt_of_le z1 (Nat.pow_le_pow_right (by decide) h), z2⟩⟩
def offS (σ : hσ) (c : Nat) (a b d : Int32) : hσ := sU (sU (sU (sU (sU (sU (sU (sU σ 0 0 0) 110 c 1) 3 c a) 4 c b) 5 c d) 6 c 0) 114 c 1) 2 0 (nI (c + 1))
theorem offS_x {σ : hσ} {c : Nat} {a b d : Int32} (g k : Nat) (h0 : g ≠ 0) (h1 : g ≠ 110) (h2 : g ≠ 3) (h3 : g ≠ 4) (h4 : g ≠ 5) (h5 : g ≠ 6) (h6 : g ≠ 114) (h7 : g ≠ 2) : offS σ c a b d g k = σ g k := by
  unfold offS
  rw [sU_ne h7, sU_ne h6, sU_ne h5, sU_ne h4, sU_ne h3, sU_ne h2, sU_ne h1, sU_ne h0]
theorem Inv_off {cO cF cI cS : Nat} {σ : hσ} {a b d : Int32} (I : Inv cO cF cI cS σ) (h8 : cO < 8) (hg : ∃ g, g ≤ 9 ∧ b = nI g) : Inv (cO + 1) cF cI cS (offS σ cO a b d) := by
  have key : ∀ g, g = 110 ∨ g = 114 → ∀ k, offS σ cO a b d g k = if k = cO then 1 else σ g k := by
    rintro g (rfl | rfl) k
    · by_cases e : k = cO
      · subst e
        unfold offS
        rw [if_pos rfl]
        simp (disch := omega) only [sU_ne, sU_eq]
      · unfold offS
        rw [if_neg e]
        simp (disch := omega) only [sU_ne, sU_nj e]
    · by_cases e : k = cO
      · subst e
        unfold offS
        rw [if_pos rfl]
        simp (disch := omega) only [sU_ne, sU_eq]
      · unfold offS
        rw [if_neg e]
        simp (disch := omega) only [sU_ne, sU_nj e]
  have six : ∀ k, offS σ cO a b d 6 k = σ 6 k := fun k => by
    by_cases e : k = cO
    · subst e
      rw [I.2.2.1.2.2 k (Nat.le_refl _)]
      unfold offS
      simp (disch := omega) only [sU_ne, sU_eq]
    · unfold offS
      simp (disch := omega) only [sU_ne, sU_nj e]
  have hacc : ∀ t, accS (offS σ cO a b d) cF t = accS σ cF t := fun t => by
    unfold accS
    rw [offS_x 9 _ (by decide) (by decide) (by decide) (by decide) (by decide) (by decide) (by decide) (by decide)]
  obtain ⟨hO, hO8, hF, hF6, hI, hI4, hSn, hS6, D, hD, hday⟩ := I.1
  have E := I.2.1
  refine ⟨⟨?_, by omega, ?_, hF6, ?_, hI4, ?_, hS6, D, hD, ?_⟩, ⟨fun k => ?_, fun k => ?_, fun k => ?_, fun k => ?_, fun k => ?_, fun k => ?_, fun k => ?_, fun t => ?_, fun t => ?_, fun f p => ?_, ?_⟩, ⟨fun k hk => ?_, fun x y hx hy => ?_, fun k hk => ?_⟩, ?_, ?_, ?_, ?_⟩
  · unfold offS
    rw [sU_eq]
  · rw [offS_x 7 _ (by decide) (by decide) (by decide) (by decide) (by decide) (by decide) (by decide) (by decide)]
    exact hF
  · rw [offS_x 11 _ (by decide) (by decide) (by decide) (by decide) (by decide) (by decide) (by decide) (by decide)]
    exact hI
  · rw [offS_x 33 _ (by decide) (by decide) (by decide) (by decide) (by decide) (by decide) (by decide) (by decide)]
    exact hSn
  · rw [offS_x 1 _ (by decide) (by decide) (by decide) (by decide) (by decide) (by decide) (by decide) (by decide)]
    exact hday
  · rw [key 110 (Or.inl rfl) k, up1, E.1 k]
  · rw [key 114 (Or.inr rfl) k, up1, E.2.1 k]
  · rw [offS_x 111 _ (by decide) (by decide) (by decide) (by decide) (by decide) (by decide) (by decide) (by decide)]
    exact E.2.2.1 k
  · rw [offS_x 115 _ (by decide) (by decide) (by decide) (by decide) (by decide) (by decide) (by decide) (by decide)]
    exact E.2.2.2.1 k
  · rw [offS_x 118 _ (by decide) (by decide) (by decide) (by decide) (by decide) (by decide) (by decide) (by decide)]
    exact E.2.2.2.2.1 k
  · rw [offS_x 113 _ (by decide) (by decide) (by decide) (by decide) (by decide) (by decide) (by decide) (by decide)]
    exact E.2.2.2.2.2.1 k
  · rw [offS_x 116 _ (by decide) (by decide) (by decide) (by decide) (by decide) (by decide) (by decide) (by decide)]
    exact E.2.2.2.2.2.2.1 k
  · rw [offS_x 112 _ (by decide) (by decide) (by decide) (by decide) (by decide) (by decide) (by decide) (by decide), hacc]
    exact E.2.2.2.2.2.2.2.1 t
  · rw [offS_x 119 _ (by decide) (by decide) (by decide) (by decide) (by decide) (by decide) (by decide) (by decide), hacc]
    exact E.2.2.2.2.2.2.2.2.1 t
  · rw [offS_x (1000 + 2 * f) _ (by omega) (by omega) (by omega) (by omega) (by omega) (by omega) (by omega) (by omega), hacc]
    exact E.2.2.2.2.2.2.2.2.2.1 f p
  · rw [offS_x 120 _ (by decide) (by decide) (by decide) (by decide) (by decide) (by decide) (by decide) (by decide)]
    exact E.out
  · by_cases e : k = cO
    · subst e
      obtain ⟨g, hg1, hg2⟩ := hg
      refine ⟨g, hg1, ?_⟩
      unfold offS
      simp (disch := omega) only [sU_ne, sU_eq]
      exact hg2
    · obtain ⟨g, hg1, hg2⟩ := I.2.2.1.1 k (by omega)
      refine ⟨g, hg1, ?_⟩
      unfold offS
      simp (disch := omega) only [sU_ne, sU_nj e]
      exact hg2
  · rw [six, six]
    exact I.2.2.1.2.1 x y hx hy
  · rw [six]
    exact I.2.2.1.2.2 k (by omega)
  · exact (InvI_c (by omega) (InvI_c (by omega) (InvI_c (by omega) (InvI_c (by omega) (InvI_c (by omega) (InvI_c (by omega) (InvI_c (by omega) (InvI_c (by omega) I.2.2.2.1))))))))
  · exact (InvF_c (by omega) (InvF_c (by omega) (InvF_c (by omega) (InvF_c (by omega) (InvF_c (by omega) (InvF_c (by omega) (InvF_c (by omega) (InvF_c (by omega) I.2.2.2.2.1))))))))
  · exact InvT_mono (Nat.le_succ _) (InvT_c (by omega) (InvT_c (by omega) (InvT_c (by omega) (InvT_c (by omega) (InvT_c (by omega) (InvT_c (by omega) (InvT_c (by omega) (InvT_c (by omega) I.2.2.2.2.2.1))))))))
  · exact InvS_mono (Nat.le_succ _) (InvS_c (by omega) (InvS_c (by omega) (InvS_c (by omega) (InvS_c (by omega) (InvS_c (by omega) (InvS_c (by omega) (InvS_c (by omega) (InvS_c (by omega) I.2.2.2.2.2.2))))))))
theorem c_excl {M : hM} {A : hAd} {s τ : hσ} {w : Nat → Int64} (R : Rep M A s τ w) {k : Nat} (h : s 110 k = 1) (p : Int32) : fX3_excludes M (A 4 k) p = some (bI (hb (s 6 k) p)) := by
  unfold fX3_excludes
  simp only [↓rd3b R h, ↓has4b, hbz_bI]
theorem hb_orb (z : Int32) {k y : Nat} (hk : k < 32) (hy : y < 32) : hb (z ||| (1 <<< (nI k &&& 31))) (nI y) = (hb z (nI y) || decide (y = k)) := by
  rw [hb_bt _ hy, hb_bt _ hy, b_or, ← bt_bitN hk hy]
  rfl
theorem InvO_ex {cO a b : Nat} {σ : hσ} (h : InvO cO σ) (ha : a < cO) (hb' : b < cO) (h8 : cO ≤ 8) (ne : a ≠ b) : InvO cO (sU (sU (sU σ 0 0 0) 6 a (σ 6 a ||| (1 <<< (nI b &&& 31)))) 6 b (σ 6 b ||| (1 <<< (nI a &&& 31)))) := by
  obtain ⟨h1, h2, h3⟩ := h
  have key : ∀ x y, x < 8 → y < 8 → hb (sU (sU (sU σ 0 0 0) 6 a (σ 6 a ||| (1 <<< (nI b &&& 31)))) 6 b (σ 6 b ||| (1 <<< (nI a &&& 31))) 6 x) (nI y) = (hb (σ 6 x) (nI y) || ((decide (x = a) && decide (y = b)) || (decide (x = b) && decide (y = a)))) := by
    intro x y hx hy
    by_cases e1 : x = b
    · subst e1
      rw [sU_eq, hb_orb _ (by omega) (by omega), decide_eq_false (show ¬ x = a from fun z => ne z.symm), decide_eq_true (rfl : x = x), Bool.false_and, Bool.false_or, Bool.true_and]
    · by_cases e2 : x = a
      · subst e2
        rw [sU_nj e1, sU_eq, hb_orb _ (by omega) (by omega), decide_eq_true (rfl : x = x), decide_eq_false e1, Bool.false_and, Bool.or_false, Bool.true_and]
      · rw [sU_nj e1, sU_nj e2, sU_ne (by decide), decide_eq_false e1, decide_eq_false e2, Bool.false_and, Bool.false_and, Bool.or_false, Bool.or_false]
  refine ⟨fun k hk => ?_, fun x y hx hy => ?_, fun k hk => ?_⟩
  · simp (disch := omega) only [sU_ne]
    exact h1 k hk
  · rw [key x y hx hy, key y x hy hx, h2 x y hx hy]
    refine congrArg (fun z => hb (σ 6 y) (nI x) || z) ?_
    rw [Bool.or_comm, Bool.and_comm (decide (x = b)), Bool.and_comm (decide (x = a))]
  · rw [sU_nj (by omega), sU_nj (by omega), sU_ne (by decide)]
    exact h3 k hk
section WOFF
variable {n : Nat} {M : hM} {x m out : Nat} {p1 p2 p3 p4 p5 p6 : Int32}
theorem case_0 (J : INV n M x m out) : lw_0 M x m out p1 p2 p3 p4 p5 p6 (fun M' => INV (n + 1) M' x m out) := by
  obtain ⟨A, σ, w, cO, cF, cI, cS, ⟨rfl, rfl, rfl⟩, R, I, hn⟩ := J
  obtain ⟨hO, hO8, hF, hF6, hI, hI4, hSn, hS6, D, hD, hday⟩ := I.1
  have E := I.2.1
  unfold lw_0 wL_offence wX4_offence
  simp only [↓rd4e R]
  cases g1 : inR p1 1 1023 with
  | false =>
    simp only [g1, ↓(fun (g : Int32 → Prop) => oex (in4 p1 1 1023) g), ↓(fun (g : Int32 → Prop) => oex (in5 p1 1 1023) g), ↓(fun (g : Int32 → Prop) => oex (in4 p2 1 9) g), ↓(fun (g : Int32 → Prop) => oex (in5 p2 1 9) g), ↓(fun (g : Int32 → Prop) => oex (in4 p3 1 2000) g), ↓(fun (g : Int32 → Prop) => oex (in5 p3 1 2000) g), ↓reduceIte, bI_f, bI_t, i10, i20, i30, sx, snf, ↓rd4e R]
    simp only [wX5_offence, bX5_offence_36, bX5_offence_37, bX5_offence_63, m8]
    obtain ⟨M3, e3, R3⟩ := m_ref R 1
    simp (disch := omega) only [g1, ↓(fun (g : Int32 → Prop) => oex (in4 p1 1 1023) g), ↓(fun (g : Int32 → Prop) => oex (in5 p1 1 1023) g), ↓(fun (g : Int32 → Prop) => oex (in4 p2 1 9) g), ↓(fun (g : Int32 → Prop) => oex (in5 p2 1 9) g), ↓(fun (g : Int32 → Prop) => oex (in4 p3 1 2000) g), ↓(fun (g : Int32 → Prop) => oex (in5 p3 1 2000) g), ↓reduceIte, bI_f, bI_t, i10, i20, i30, sx, snf, ↓rd5e R, ↓rdAe R, e3, ↓rd5e R3]
    exact endF R3 (sU_eq _ _ _ _) (INV.same R3 I hn)
  | true =>
    cases g2 : inR p2 1 9 with
    | false =>
      simp only [g1, g2, ↓(fun (g : Int32 → Prop) => oex (in4 p1 1 1023) g), ↓(fun (g : Int32 → Prop) => oex (in5 p1 1 1023) g), ↓(fun (g : Int32 → Prop) => oex (in4 p2 1 9) g), ↓(fun (g : Int32 → Prop) => oex (in5 p2 1 9) g), ↓(fun (g : Int32 → Prop) => oex (in4 p3 1 2000) g), ↓(fun (g : Int32 → Prop) => oex (in5 p3 1 2000) g), ↓reduceIte, bI_f, bI_t, i10, i20, i30, sx, snf, ↓rd4e R]
      simp only [wX5_offence, bX5_offence_36, bX5_offence_37, bX5_offence_63, m8]
      obtain ⟨M3, e3, R3⟩ := m_ref R 1
      simp (disch := omega) only [g1, g2, ↓(fun (g : Int32 → Prop) => oex (in4 p1 1 1023) g), ↓(fun (g : Int32 → Prop) => oex (in5 p1 1 1023) g), ↓(fun (g : Int32 → Prop) => oex (in4 p2 1 9) g), ↓(fun (g : Int32 → Prop) => oex (in5 p2 1 9) g), ↓(fun (g : Int32 → Prop) => oex (in4 p3 1 2000) g), ↓(fun (g : Int32 → Prop) => oex (in5 p3 1 2000) g), ↓reduceIte, bI_f, bI_t, i10, i20, i30, sx, snf, ↓rd5e R, ↓rdAe R, e3, ↓rd5e R3]
      exact endF R3 (sU_eq _ _ _ _) (INV.same R3 I hn)
    | true =>
      cases g3 : inR p3 1 2000 with
      | false =>
        simp only [g1, g2, g3, ↓(fun (g : Int32 → Prop) => oex (in4 p1 1 1023) g), ↓(fun (g : Int32 → Prop) => oex (in5 p1 1 1023) g), ↓(fun (g : Int32 → Prop) => oex (in4 p2 1 9) g), ↓(fun (g : Int32 → Prop) => oex (in5 p2 1 9) g), ↓(fun (g : Int32 → Prop) => oex (in4 p3 1 2000) g), ↓(fun (g : Int32 → Prop) => oex (in5 p3 1 2000) g), ↓reduceIte, bI_f, bI_t, i10, i20, i30, sx, snf, ↓rd4e R]
        simp only [wX5_offence, bX5_offence_36, bX5_offence_37, bX5_offence_63, m8]
        obtain ⟨M3, e3, R3⟩ := m_ref R 1
        simp (disch := omega) only [g1, g2, g3, ↓(fun (g : Int32 → Prop) => oex (in4 p1 1 1023) g), ↓(fun (g : Int32 → Prop) => oex (in5 p1 1 1023) g), ↓(fun (g : Int32 → Prop) => oex (in4 p2 1 9) g), ↓(fun (g : Int32 → Prop) => oex (in5 p2 1 9) g), ↓(fun (g : Int32 → Prop) => oex (in4 p3 1 2000) g), ↓(fun (g : Int32 → Prop) => oex (in5 p3 1 2000) g), ↓reduceIte, bI_f, bI_t, i10, i20, i30, sx, snf, ↓rd5e R, ↓rdAe R, e3, ↓rd5e R3]
        exact endF R3 (sU_eq _ _ _ _) (INV.same R3 I hn)
      | true =>
        by_cases c1 : cO < 8
        · have hz1 : nI cO < 8 := t8 c1
          have hz2 : ¬ nI cO = 8 := fun z => by
            have := (nI_eq (a := cO) (b := 8) (by omega) (by decide)).mp z
            omega
          have hg9 : ∃ g, g ≤ 9 ∧ p2 = nI g := by
            obtain ⟨z1, z2⟩ := inR_t.mp g2
            have z0 : ¬ p2 < 0 := fun z => by
              have y1 := Int32.lt_iff_toInt_lt.mp z
              have y2 := Int32.le_iff_toInt_le.mp z1
              rw [show (1 : Int32).toInt = 1 by decide] at y2
              rw [show (0 : Int32).toInt = 0 by decide] at y1
              omega
            obtain ⟨g, hg1, rfl⟩ := nI_of z0
            exact ⟨g, (nI_leI (b := 9) hg1 (by decide)).mp z2, rfl⟩
          simp only [g1, g2, g3, ↓(fun (g : Int32 → Prop) => oex (in4 p1 1 1023) g), ↓(fun (g : Int32 → Prop) => oex (in5 p1 1 1023) g), ↓(fun (g : Int32 → Prop) => oex (in4 p2 1 9) g), ↓(fun (g : Int32 → Prop) => oex (in5 p2 1 9) g), ↓(fun (g : Int32 → Prop) => oex (in4 p3 1 2000) g), ↓(fun (g : Int32 → Prop) => oex (in5 p3 1 2000) g), hO, hz1, ↓rdLe R, ↓reduceIte, bI_f, bI_t, i10, i20, i30, sx, snf, ↓rd4e R]
          refine new4 R ((E.2.1 cO).trans (bI_df (by omega))) p1 p2 p3 _ (fun M1 A1 R1 e0 e1 e10 e12 => ?_)
          simp only [← e0, ← e1, ← e10, ← e12]
          obtain ⟨M2, e2, R2⟩ := wrR1 R1 c1 (by simp (disch := omega) only [sU_ne, sU_eq])
          obtain ⟨M3, e3, R3⟩ := wr4_3 R2 (nI (cO + 1))
          simp (disch := omega) only [↓(fun (g : hM → Prop) => oex e2 g), ↓rd4e R2, sU_ne, hO, nI_1, ↓(fun (g : hM → Prop) => oex e3 g), ↓rd4e R3, sU_eq, nI_pred, ↓reduceIte, bI_f, bI_t, i10, i20, i30, sx, snf]
          have h120 : sU (sU (sU (sU (sU (sU (sU σ 110 cO 1) 3 cO p1) 4 cO p2) 5 cO p3) 6 cO 0) 114 cO 1) 2 0 (nI (cO + 1)) 120 0 = 1 := by
            simp (disch := omega) only [sU_ne]
            exact E.out
          obtain ⟨M4, e4, R4⟩ := wrJ R3 h120 (nI cO).toInt64
          refine ⟨M4, e4, ?_⟩
          simp only [wX5_offence, bX5_offence_36, bX5_offence_37, bX5_offence_63, m8]
          obtain ⟨M5, e5, R5⟩ := m_ref R4 0
          simp (disch := omega) only [g1, g2, g3, ↓(fun (g : Int32 → Prop) => oex (in4 p1 1 1023) g), ↓(fun (g : Int32 → Prop) => oex (in5 p1 1 1023) g), ↓(fun (g : Int32 → Prop) => oex (in4 p2 1 9) g), ↓(fun (g : Int32 → Prop) => oex (in5 p2 1 9) g), ↓(fun (g : Int32 → Prop) => oex (in4 p3 1 2000) g), ↓(fun (g : Int32 → Prop) => oex (in5 p3 1 2000) g), hO, hz2, ↓reduceIte, bI_f, bI_t, i10, i20, i30, sx, snf, ↓rd5e R4, e5, ↓rd5e R5, sU_ne]
          obtain ⟨M6, e6, R6⟩ := wrA R5 (f := 3) (n := 8) (k := cO) rfl c1 (by decide) p1
          simp (disch := omega) only [↓(fun (g : hM → Prop) => oex e6 g), ↓rd5e R6, sU_ne, hO]
          obtain ⟨M7, e7, R7⟩ := wrA R6 (f := 4) (n := 8) (k := cO) rfl c1 (by decide) p2
          simp (disch := omega) only [↓(fun (g : hM → Prop) => oex e7 g), ↓rd5e R7, sU_ne, hO]
          obtain ⟨M8, e8, R8⟩ := wrA R7 (f := 5) (n := 8) (k := cO) rfl c1 (by decide) p3
          simp (disch := omega) only [↓(fun (g : hM → Prop) => oex e8 g), ↓rd5e R8, sU_ne, hO]
          obtain ⟨M9, e9, R9⟩ := wr5_2 R8 (nI (cO + 1))
          simp (disch := omega) only [nI_1, ↓(fun (g : hM → Prop) => oex e9 g), ↓rd5e R9, sU_eq, nI_pred]
          refine endI0 R9 h120 (by simp (disch := omega) only [sU_ne, sU_eq]) rfl (INV.mk (σ' := offS σ cO p1 p2 p3) R9 ?_ ?_ (Inv_off I c1 hg9) (by omega))
          · exact ((((((((AM.rf σ).m (by omega)).u 110 cO 1).u 3 cO p1).u 4 cO p2).u 5 cO p3).u 6 cO 0).u 114 cO 1).u 2 0 _
          · exact ((((((((BM.rf σ).u 0 0 0).m (by omega)).u 3 cO p1).u 4 cO p2).u 5 cO p3).o (by simp (disch := omega) only [sU_ne]; exact I.2.2.1.2.2 cO (Nat.le_refl _))).m (by omega)).u 2 0 _
        · have hO' : σ 2 0 = 8 := by
            rw [hO, show cO = 8 by omega]
            rfl
          simp only [g1, g2, g3, ↓(fun (g : Int32 → Prop) => oex (in4 p1 1 1023) g), ↓(fun (g : Int32 → Prop) => oex (in5 p1 1 1023) g), ↓(fun (g : Int32 → Prop) => oex (in4 p2 1 9) g), ↓(fun (g : Int32 → Prop) => oex (in5 p2 1 9) g), ↓(fun (g : Int32 → Prop) => oex (in4 p3 1 2000) g), ↓(fun (g : Int32 → Prop) => oex (in5 p3 1 2000) g), hO', i88, ↓rdLe R, ↓reduceIte, bI_f, bI_t, i10, i20, i30, sx, snf, ↓rd4e R]
          simp only [wX5_offence, bX5_offence_36, bX5_offence_37, bX5_offence_63, m8]
          obtain ⟨M3, e3, R3⟩ := m_ref R 2
          simp (disch := omega) only [g1, g2, g3, ↓(fun (g : Int32 → Prop) => oex (in4 p1 1 1023) g), ↓(fun (g : Int32 → Prop) => oex (in5 p1 1 1023) g), ↓(fun (g : Int32 → Prop) => oex (in4 p2 1 9) g), ↓(fun (g : Int32 → Prop) => oex (in5 p2 1 9) g), ↓(fun (g : Int32 → Prop) => oex (in4 p3 1 2000) g), ↓(fun (g : Int32 → Prop) => oex (in5 p3 1 2000) g), hO', i88, ↓rdLe R, ↓reduceIte, bI_f, bI_t, i10, i20, i30, sx, snf, ↓rd5e R, ↓rdAe R, e3, ↓rd5e R3]
          exact endF R3 (sU_eq _ _ _ _) (INV.same R3 I hn)
theorem case_1 (J : INV n M x m out) : lw_1 M x m out p1 p2 p3 p4 p5 p6 (fun M' => INV (n + 1) M' x m out) := by
  obtain ⟨A, σ, w, cO, cF, cI, cS, ⟨rfl, rfl, rfl⟩, R, I, hn⟩ := J
  obtain ⟨hO, hO8, hF, hF6, hI, hI4, hSn, hS6, D, hD, hday⟩ := I.1
  have E := I.2.1
  unfold lw_1 wL_exclude wX4_exclude
  simp only [↓rd4e R]
  by_cases h1 : ∃ a, a < cO ∧ p1 = nI a
  · have q1 : inR p1 0 (σ 2 0 - 1) = true := by
      rw [hO]
      obtain ⟨a, ha, e⟩ := h1
      exact (inR_pre (by omega)).mpr ⟨a, ha, e⟩
    by_cases h2 : ∃ b, b < cO ∧ p2 = nI b
    · have q2 : inR p2 0 (σ 2 0 - 1) = true := by
        rw [hO]
        obtain ⟨b, hb', e⟩ := h2
        exact (inR_pre (by omega)).mpr ⟨b, hb', e⟩
      obtain ⟨a, ha, rfl⟩ := h1
      obtain ⟨b, hb', rfl⟩ := h2
      by_cases c0 : a = b
      · subst c0
        simp only [↓(fun (g : Option Nat → Prop) => oex (c_offenceAt_t R E (show a < 8 by omega) ha) g), q1, ↓(fun (z : Int32) (g : Int32 → Prop) => oex (m_isOffence R z) g), ↓reduceIte, bI_f, bI_t, i10, i20, i30, sx, snf, ↓rd4e R]
        simp only [wX5_exclude, bX5_exclude_17, bX5_exclude_31, m8]
        obtain ⟨M3, e3, R3⟩ := m_ref R 2
        simp (disch := omega) only [↓(fun (g : Option Nat → Prop) => oex (c_offenceAt_t R E (show a < 8 by omega) ha) g), q1, ↓(fun (z : Int32) (g : Int32 → Prop) => oex (m_isOffence R z) g), ↓reduceIte, bI_f, bI_t, i10, i20, i30, sx, snf, ↓rd5e R, ↓rdAe R, e3, ↓rd5e R3]
        exact endF R3 (sU_eq _ _ _ _) (INV.same R3 I hn)
      · have c0' : ¬ nI a = nI b := fun z => c0 ((nI_eq (by omega) (by omega)).mp z)
        obtain ⟨M1, e1, R1⟩ := wr3_3 R (E.o ha) (σ 6 a ||| (1 <<< (nI b &&& 31)))
        have E1 : ExI cO cF cI (sU σ 6 a (σ 6 a ||| (1 <<< (nI b &&& 31)))) := ExI_c (by omega) E
        obtain ⟨M2, e2, R2⟩ := wr3_3 R1 (E1.o hb') (σ 6 b ||| (1 <<< (nI a &&& 31)))
        have E2 : ExI cO cF cI (sU (sU σ 6 a (σ 6 a ||| (1 <<< (nI b &&& 31)))) 6 b (σ 6 b ||| (1 <<< (nI a &&& 31)))) := ExI_c (by omega) E1
        cases c1 : hb (σ 6 a) (nI b) with
        | false =>
          simp (disch := omega) only [↓(fun (g : Option Nat → Prop) => oex (c_offenceAt_t R E (show a < 8 by omega) ha) g), ↓(fun (g : Option Nat → Prop) => oex (c_offenceAt_t R E (show b < 8 by omega) hb') g), c0', ↓rd3e R (E.o ha), ↓(fun (z : Int32) (g : Int32 → Prop) => oex (c_excl R (E.o ha) z) g), c1, ↓(fun (g : hM → Prop) => oex e1 g), ↓rd3e R1 (E1.o hb'), sU_nj, ↓(fun (g : hM → Prop) => oex e2 g), true_or, or_true, true_and, eq_self, ↓reduceIte, bI_f, bI_t, i10, i20, i30, sx, snf, ↓rd4e R]
          obtain ⟨M3, e3, R3⟩ := wrJ R2 E2.out 0
          refine ⟨M3, e3, ?_⟩
          simp only [wX5_exclude, bX5_exclude_17, bX5_exclude_31, m8]
          obtain ⟨M4, e4, R4⟩ := m_ref R3 0
          simp (disch := omega) only [q1, q2, ↓(fun (z : Int32) (g : Int32 → Prop) => oex (m_isOffence R3 z) g), c0', ↓reduceIte, bI_f, bI_t, i10, i20, i30, sx, snf, ↓rd5e R3, e4, ↓rd5e R4, ↓rdAe R4, sU_ne, ↓(fun (a b : Int32) (g : Int32 → Prop) => oex (has5 a b) g), c1]
          obtain ⟨M5, e5, R5⟩ := wrA R4 (f := 6) (n := 8) (k := a) rfl (by omega) (by decide) (σ 6 a ||| (1 <<< (nI b &&& 31)))
          simp (disch := omega) only [↓(fun (g : hM → Prop) => oex e5 g), ↓rd5e R5, ↓rdAe R5, sU_ne, sU_nj]
          obtain ⟨M6, e6, R6⟩ := wrA R5 (f := 6) (n := 8) (k := b) rfl (by omega) (by decide) (σ 6 b ||| (1 <<< (nI a &&& 31)))
          simp (disch := omega) only [↓(fun (g : hM → Prop) => oex e6 g), true_or, or_true, true_and, eq_self, ↓reduceIte, bI_f, bI_t, i10, i20, i30, sx, snf, ↓rd5e R6]
          exact endZ0 R6 E2.out (by simp (disch := omega) only [sU_eq, sU_ne]) rfl (INV.mk R6 ((((AM.rf σ).m (by omega)).u 6 a (σ 6 a ||| (1 <<< (nI b &&& 31)))).u 6 b (σ 6 b ||| (1 <<< (nI a &&& 31)))) ((((BM.rf σ).u 0 0 0).u 6 a (σ 6 a ||| (1 <<< (nI b &&& 31)))).u 6 b (σ 6 b ||| (1 <<< (nI a &&& 31)))) ⟨(InvN_c (by omega) (InvN_c (by omega) (InvN_c (by omega) I.1))), (ExI_c (by omega) (ExI_c (by omega) (ExI_c (by omega) I.2.1))), (InvO_ex I.2.2.1 ha hb' hO8 c0), (InvI_c (by omega) (InvI_c (by omega) (InvI_c (by omega) I.2.2.2.1))), (InvF_c (by omega) (InvF_c (by omega) (InvF_c (by omega) I.2.2.2.2.1))), (InvT_c (by omega) (InvT_c (by omega) (InvT_c (by omega) I.2.2.2.2.2.1))), (InvS_c (by omega) (InvS_c (by omega) (InvS_c (by omega) I.2.2.2.2.2.2)))⟩ (by omega))
        | true =>
          simp (disch := omega) only [↓(fun (g : Option Nat → Prop) => oex (c_offenceAt_t R E (show a < 8 by omega) ha) g), ↓(fun (g : Option Nat → Prop) => oex (c_offenceAt_t R E (show b < 8 by omega) hb') g), c0', ↓rd3e R (E.o ha), ↓(fun (z : Int32) (g : Int32 → Prop) => oex (c_excl R (E.o ha) z) g), c1, ↓(fun (g : hM → Prop) => oex e1 g), ↓rd3e R1 (E1.o hb'), sU_nj, ↓(fun (g : hM → Prop) => oex e2 g), true_or, or_true, true_and, eq_self, ↓reduceIte, bI_f, bI_t, i10, i20, i30, sx, snf, ↓rd4e R]
          obtain ⟨M3, e3, R3⟩ := wrJ R2 E2.out 1
          refine ⟨M3, e3, ?_⟩
          simp only [wX5_exclude, bX5_exclude_17, bX5_exclude_31, m8]
          obtain ⟨M4, e4, R4⟩ := m_ref R3 0
          simp (disch := omega) only [q1, q2, ↓(fun (z : Int32) (g : Int32 → Prop) => oex (m_isOffence R3 z) g), c0', ↓reduceIte, bI_f, bI_t, i10, i20, i30, sx, snf, ↓rd5e R3, e4, ↓rd5e R4, ↓rdAe R4, sU_ne, ↓(fun (a b : Int32) (g : Int32 → Prop) => oex (has5 a b) g), c1]
          obtain ⟨M5, e5, R5⟩ := wrA R4 (f := 6) (n := 8) (k := a) rfl (by omega) (by decide) (σ 6 a ||| (1 <<< (nI b &&& 31)))
          simp (disch := omega) only [↓(fun (g : hM → Prop) => oex e5 g), ↓rd5e R5, ↓rdAe R5, sU_ne, sU_nj]
          obtain ⟨M6, e6, R6⟩ := wrA R5 (f := 6) (n := 8) (k := b) rfl (by omega) (by decide) (σ 6 b ||| (1 <<< (nI a &&& 31)))
          simp (disch := omega) only [↓(fun (g : hM → Prop) => oex e6 g), true_or, or_true, true_and, eq_self, ↓reduceIte, bI_f, bI_t, i10, i20, i30, sx, snf, ↓rd5e R6]
          exact endZ0 R6 E2.out (by simp (disch := omega) only [sU_eq, sU_ne]) rfl (INV.mk R6 ((((AM.rf σ).m (by omega)).u 6 a (σ 6 a ||| (1 <<< (nI b &&& 31)))).u 6 b (σ 6 b ||| (1 <<< (nI a &&& 31)))) ((((BM.rf σ).u 0 0 0).u 6 a (σ 6 a ||| (1 <<< (nI b &&& 31)))).u 6 b (σ 6 b ||| (1 <<< (nI a &&& 31)))) ⟨(InvN_c (by omega) (InvN_c (by omega) (InvN_c (by omega) I.1))), (ExI_c (by omega) (ExI_c (by omega) (ExI_c (by omega) I.2.1))), (InvO_ex I.2.2.1 ha hb' hO8 c0), (InvI_c (by omega) (InvI_c (by omega) (InvI_c (by omega) I.2.2.2.1))), (InvF_c (by omega) (InvF_c (by omega) (InvF_c (by omega) I.2.2.2.2.1))), (InvT_c (by omega) (InvT_c (by omega) (InvT_c (by omega) I.2.2.2.2.2.1))), (InvS_c (by omega) (InvS_c (by omega) (InvS_c (by omega) I.2.2.2.2.2.2)))⟩ (by omega))
    · have q2 : inR p2 0 (σ 2 0 - 1) = false := by
        rw [hO, ← Bool.not_eq_true, inR_pre (by omega)]
        exact h2
      obtain ⟨a, ha, rfl⟩ := h1
      simp only [↓(fun (g : Option Nat → Prop) => oex (c_offenceAt_t R E (show a < 8 by omega) ha) g), ↓(fun (g : Option Nat → Prop) => oex (c_offenceAt_f R E h2) g), q1, q2, ↓(fun (z : Int32) (g : Int32 → Prop) => oex (m_isOffence R z) g), ↓reduceIte, bI_f, bI_t, i10, i20, i30, sx, snf, ↓rd4e R]
      simp only [wX5_exclude, bX5_exclude_17, bX5_exclude_31, m8]
      obtain ⟨M3, e3, R3⟩ := m_ref R 1
      simp (disch := omega) only [↓(fun (g : Option Nat → Prop) => oex (c_offenceAt_t R E (show a < 8 by omega) ha) g), ↓(fun (g : Option Nat → Prop) => oex (c_offenceAt_f R E h2) g), q1, q2, ↓(fun (z : Int32) (g : Int32 → Prop) => oex (m_isOffence R z) g), ↓reduceIte, bI_f, bI_t, i10, i20, i30, sx, snf, ↓rd5e R, ↓rdAe R, e3, ↓rd5e R3]
      exact endF R3 (sU_eq _ _ _ _) (INV.same R3 I hn)
  · have q1 : inR p1 0 (σ 2 0 - 1) = false := by
      rw [hO, ← Bool.not_eq_true, inR_pre (by omega)]
      exact h1
    have hx : ∃ r, fX4_offenceAt M (A 0 0) p2 = some r := by
      by_cases h2 : ∃ b, b < cO ∧ p2 = nI b
      · obtain ⟨b, hb', rfl⟩ := h2
        exact ⟨_, c_offenceAt_t R E (show b < 8 by omega) hb'⟩
      · exact ⟨_, c_offenceAt_f R E h2⟩
    obtain ⟨r, hr⟩ := hx
    simp only [↓(fun (g : Option Nat → Prop) => oex (c_offenceAt_f R E h1) g), ↓(fun (g : Option Nat → Prop) => oex (hr) g), q1, ↓(fun (z : Int32) (g : Int32 → Prop) => oex (m_isOffence R z) g), ↓reduceIte, bI_f, bI_t, i10, i20, i30, sx, snf, ↓rd4e R]
    simp only [wX5_exclude, bX5_exclude_17, bX5_exclude_31, m8]
    obtain ⟨M3, e3, R3⟩ := m_ref R 1
    simp (disch := omega) only [↓(fun (g : Option Nat → Prop) => oex (c_offenceAt_f R E h1) g), ↓(fun (g : Option Nat → Prop) => oex (hr) g), q1, ↓(fun (z : Int32) (g : Int32 → Prop) => oex (m_isOffence R z) g), ↓reduceIte, bI_f, bI_t, i10, i20, i30, sx, snf, ↓rd5e R, ↓rdAe R, e3, ↓rd5e R3]
    exact endF R3 (sU_eq _ _ _ _) (INV.same R3 I hn)
end WOFF
