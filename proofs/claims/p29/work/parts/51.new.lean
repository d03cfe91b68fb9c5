/-! ===== calls that open something new ===== -/
theorem i88 : ((8 : Int32) < 8) = False := eq_false (by decide)
theorem i66 : ((6 : Int32) < 6) = False := eq_false (by decide)
theorem i4040 : ((40 : Int32) < 40) = False := eq_false (by decide)
theorem up1 (c k : Nat) : bI (decide (k < c + 1)) = if k = c then 1 else bI (decide (k < c)) := by
  by_cases e : k = c
  · rw [if_pos e, bI_dt (by omega)]
  · rw [if_neg e, decide_eq_decide.mpr (show k < c + 1 ↔ k < c by omega)]
theorem hb_z (j : Nat) (hj : j < 8) : hb 0 (nI j) = false := by rw [hb_bt _ (by omega), b_0]
theorem oneT_mono {c c' t : Nat} {s : hσ} (h : c ≤ c') (q : oneT c s t) : oneT c' s t := by
  obtain ⟨o1, o2, o3, o4, o5, ⟨n, n1, n2⟩, o7, o8, o9, ⟨m, m1, m2, m3⟩, o11⟩ := q
  exact ⟨o1, o2, o3, o4, o5, ⟨n, cO_up n1 h, n2⟩, o7, o8, o9, ⟨m, m1, m2, fun j hj hb' => ⟨Nat.lt_of_lt_of_le (m3 j hj hb').1 h, (m3 j hj hb').2⟩⟩, o11⟩
theorem nI_last (n : Nat) : nI (n + 1) - 1 = nI n := nI_pred n
theorem ob3 {M : hM} {q : Nat} (a b c : Int32) (Q : hM → Prop) : wX3_init (hst M q (.inr (3, [.int 0, .int 0, .int 0, .int 0]))) q a b c Q = Q (hst M q (.inr (3, [.int a, .int b, .int c, .int 0]))) := by
  unfold wX3_init
  refine (oex (pV_at (hst_s _ _ _) (by simp)) _).trans ?_
  refine (oex (pV_at (hst_s _ _ _) (by simp)) _).trans ?_
  refine (oex (pV_at (hst_s _ _ _) (by simp)) _).trans ?_
  rw [hst_ss, hst_ss, hst_ss]
  rfl
theorem new4 {M : hM} {A : hAd} {s τ : hσ} (R : Rep M A s τ) {t : Nat} (h1 : s 114 t = 0) (a b c : Int32) (Q : Nat → hM → Prop) (k : ∀ (M' : hM) (A' : hAd), Rep M' A' (sU (sU (sU (sU (sU s 110 t 1) 3 t a) 4 t b) 5 t c) 6 t 0) τ → (∀ i j, ¬ (i = 4 ∧ j = t) → A' i j = A i j) → Q (A' 4 t) M') : ∀ q : Nat, M q = none → wX3_init (hst M q (.inr (3, [.int 0, .int 0, .int 0, .int 0]))) q a b c (Q q) := fun q hq => by
  rw [ob3]
  have h := k _ _ (nw4 R hq h1 a b c 0) (fun i j e => aU_off e)
  rw [aU_eq] at h
  exact h
def offS (σ : hσ) (c : Nat) (a b d : Int32) : hσ := sU (sU (sU (sU (sU (sU (sU σ 110 c 1) 3 c a) 4 c b) 5 c d) 6 c 0) 114 c 1) 2 0 (nI (c + 1))
theorem offS_x {σ : hσ} {c : Nat} {a b d : Int32} (g k : Nat) (h : g ≠ 110 ∧ g ≠ 114 ∧ (g < 2 ∨ 6 < g)) : offS σ c a b d g k = σ g k := by
  unfold offS
  simp (disch := omega) only [sU_ne]
theorem offS_o {σ : hσ} {c : Nat} {a b d : Int32} (g k : Nat) (h : g = 3 ∨ g = 4 ∨ g = 5 ∨ g = 6) (e : k ≠ c) : offS σ c a b d g k = σ g k := by
  unfold offS
  rcases h with rfl | rfl | rfl | rfl <;> simp (disch := omega) only [sU_ne, sU_nj e]
section OFF
variable {cO cF cI : Nat} {σ : hσ} {a b d : Int32}
theorem off_acc (t : Nat) : accS (offS σ cO a b d) cF t = accS σ cF t := by
  unfold accS
  rw [offS_x 9 _ (by decide)]
theorem Inv_off (I : Inv cO cF cI σ) (h8 : cO < 8) (hg : ∃ g, 1 ≤ g ∧ g ≤ 9 ∧ b = nI g) : Inv (cO + 1) cF cI (offS σ cO a b d) := by
  have key : ∀ g, g = 110 ∨ g = 114 → ∀ k, offS σ cO a b d g k = if k = cO then 1 else σ g k := by
    rintro g (rfl | rfl) k
    · by_cases e : k = cO
      · subst e
        unfold offS
        rw [if_pos rfl]
        simp (disch := omega) only [sU_ne, sU_eq]
      · unfold offS
        rw [if_neg e]
        simp (disch := omega) only [sU_ne, sU_nj e]
    · by_cases e : k = cO
      · subst e
        unfold offS
        rw [if_pos rfl]
        simp (disch := omega) only [sU_ne, sU_eq]
      · unfold offS
        rw [if_neg e]
        simp (disch := omega) only [sU_ne, sU_nj e]
  have six : offS σ cO a b d 6 cO = 0 := by
    unfold offS
    simp (disch := omega) only [sU_ne, sU_eq]
  obtain ⟨hO, hO8, hF, hF6, hI, hI4, D, hD, hday⟩ := I.1
  have E := I.2.1
  refine ⟨⟨?_, by omega, ?_, hF6, ?_, hI4, D, hD, ?_⟩, ⟨fun k => ?_, fun k => ?_, fun k => ?_, fun k => ?_, fun k => ?_, fun k => ?_, fun k => ?_, fun t => ?_, fun t => ?_, fun f p => ?_, ?_⟩, ⟨fun k hk => ?_, fun x y hx hy => ?_, fun x y hx hy1 hy2 => ?_⟩, fun t ht => ?_⟩
  · unfold offS
    rw [sU_eq]
  · rw [offS_x 7 _ (by decide)]
    exact hF
  · rw [offS_x 11 _ (by decide)]
    exact hI
  · rw [offS_x 1 _ (by decide)]
    exact hday
  · rw [key 110 (Or.inl rfl) k, up1, E.1 k]
  · rw [key 114 (Or.inr rfl) k, up1, E.2.1 k]
  · rw [offS_x 111 _ (by decide)]
    exact E.2.2.1 k
  · rw [offS_x 115 _ (by decide)]
    exact E.2.2.2.1 k
  · rw [offS_x 118 _ (by decide)]
    exact E.2.2.2.2.1 k
  · rw [offS_x 113 _ (by decide)]
    exact E.2.2.2.2.2.1 k
  · rw [offS_x 116 _ (by decide)]
    exact E.2.2.2.2.2.2.1 k
  · rw [offS_x 112 _ (by decide), off_acc]
    exact E.2.2.2.2.2.2.2.1 t
  · rw [offS_x 119 _ (by decide), off_acc]
    exact E.2.2.2.2.2.2.2.2.1 t
  · rw [offS_x (1000 + 2 * f) _ (by omega), off_acc]
    exact E.2.2.2.2.2.2.2.2.2.1 f p
  · rw [offS_x 120 _ (by decide)]
    exact E.out
  · by_cases e : k = cO
    · subst e
      obtain ⟨g, hg0, hg1, hg2⟩ := hg
      refine ⟨g, hg0, hg1, ?_⟩
      unfold offS
      simp (disch := omega) only [sU_ne, sU_eq]
      exact hg2
    · rw [offS_o 4 k (by omega) e]
      exact I.2.2.1.1 k (by omega)
  · by_cases e1 : x = cO
    · by_cases e2 : y = cO
      · rw [e1, e2]
      · rw [e1, six, hb_z y (by omega), offS_o 6 y (by omega) e2, I.2.2.1.2.2 y cO (by omega) (Nat.le_refl _) h8]
    · by_cases e2 : y = cO
      · rw [e2, six, hb_z x (by omega), offS_o 6 x (by omega) e1, I.2.2.1.2.2 x cO (by omega) (Nat.le_refl _) h8]
      · rw [offS_o 6 x (by omega) e1, offS_o 6 y (by omega) e2]
        exact I.2.2.1.2.1 x y (by omega) (by omega)
  · by_cases e1 : x = cO
    · rw [e1, six, hb_z y hy2]
    · rw [offS_o 6 x (by omega) e1]
      exact I.2.2.1.2.2 x y (by omega) (by omega) hy2
  · rw [off_acc]
    obtain ⟨q1, q2⟩ := I.2.2.2 t ht
    exact ⟨fun q => unb_cong (fun f hf => offS_x f t (by omega)) (q1 q), fun q => oneT_mono (by omega) (oneT_cong (offS_x 1 0 (by omega)) (fun f hf => offS_x f t (by omega)) (fun j => offS_x _ j (by omega)) (q2 q))⟩
theorem Evo_off (I : Inv cO cF cI σ) (h8 : cO < 8) : Evo cO cF cI (cO + 1) cF cI σ (offS σ cO a b d) := by
  have str : ∀ t e d', strS (offS σ cO a b d) cI t e d' = strS σ cI t e d' := fun t e d' => by
    unfold strS stG
    rw [show offS σ cO a b d 12 = σ 12 from funext fun i => offS_x 12 i (by omega), show offS σ cO a b d 13 = σ 13 from funext fun i => offS_x 13 i (by omega), show offS σ cO a b d 14 = σ 14 from funext fun i => offS_x 14 i (by omega), show offS σ cO a b d 15 = σ 15 from funext fun i => offS_x 15 i (by omega), show offS σ cO a b d 16 = σ 16 from funext fun i => offS_x 16 i (by omega), show offS σ cO a b d 18 = σ 18 from funext fun i => offS_x 18 i (by omega), show offS σ cO a b d 19 = σ 19 from funext fun i => offS_x 19 i (by omega)]
  refine ⟨⟨by omega, Nat.le_refl _, Nat.le_refl _⟩, fun t q => by rw [off_acc]; exact q, fun t _ h1 h2 => ?_, cnt_same fun k => offS_x 37 k (by omega), fun t d' _ _ => ⟨fun e => str t e d', fun z => absurd z (by omega)⟩, fun t ht ha => ⟨fun k hk q => ?_, fun j _ q => by rw [offS_x 32 t (by omega)]; exact q, ?_, fun _ _ => offS_x 27 t (by omega)⟩, (by rw [offS_x 1 0 (by omega)]; exact Int32.le_refl _)⟩
  · rw [off_acc, h1] at h2
    cases h2
  · obtain ⟨j, hj, q2⟩ := exN_iff.mp q
    refine exN_iff.mpr ⟨j, by omega, ?_⟩
    unfold ovS hadS at q2 ⊢
    rw [offS_o 3 k (by omega) (by omega), offS_o 3 j (by omega) (by omega), offS_x (1001 + 2 * t) j (by omega), offS_x 1 0 (by omega)]
    exact q2
  · obtain ⟨e, h1, h2⟩ := (I.one ha).d27
    exact ⟨e, e, h1, by rw [offS_x 27 t (by omega)]; exact h1, Nat.le_refl _, h2⟩
end OFF
section NEW
variable {M : hM} {A : hAd} {s τ : hσ} {cO cF cI : Nat}
theorem l_offence (R : Rep M A s τ) (I : Inv cO cF cI s) (p1 p2 p3 : Int32) (Q : hM → Int32 → Prop) (hx : ∀ r, refd r → Q M r) (hq : ∀ (M' : hM) (A' : hAd) (s' : hσ), (A' 0 0 = A 0 0 ∧ ∀ k, A' 11 k = A 11 k) → cO < 8 → Rep M' A' s' τ → Inv (cO + 1) cF cI s' → Evo cO cF cI (cO + 1) cF cI s s' → (∀ i, s' 9 i = s 9 i) → Q M' (nI cO)) : wL_offence M (some (A 0 0)) p1 p2 p3 Q := by
  obtain ⟨hO, hO8, hF, hF6, hI, hI4, D, hD, hday⟩ := I.1
  have E := I.2.1
  unfold wL_offence wX4_offence
  simp only [↓rd4e R]
  cases g1 : inR p1 1 1023 with
  | false =>
    simp only [↓(fun (g : Int32 → Prop) => oex (in4 p1 1 1023) g), g1, ↓reduceIte, bI_f, bI_t, i10, i20, i30, sx, snf, ↓rd4e R]
    exact hx _ (Or.inr (Or.inl rfl))
  | true =>
    cases g2 : inR p2 1 9 with
    | false =>
      simp only [↓(fun (g : Int32 → Prop) => oex (in4 p1 1 1023) g), g1, ↓(fun (g : Int32 → Prop) => oex (in4 p2 1 9) g), g2, ↓reduceIte, bI_f, bI_t, i10, i20, i30, sx, snf, ↓rd4e R]
      exact hx _ (Or.inr (Or.inl rfl))
    | true =>
      cases g3 : inR p3 1 2000 with
      | false =>
        simp only [↓(fun (g : Int32 → Prop) => oex (in4 p1 1 1023) g), g1, ↓(fun (g : Int32 → Prop) => oex (in4 p2 1 9) g), g2, ↓(fun (g : Int32 → Prop) => oex (in4 p3 1 2000) g), g3, ↓reduceIte, bI_f, bI_t, i10, i20, i30, sx, snf, ↓rd4e R]
        exact hx _ (Or.inr (Or.inl rfl))
      | true =>
        by_cases c1 : cO < 8
        · have hz1 : nI cO < 8 := t8 c1
          have hg : ∃ g, 1 ≤ g ∧ g ≤ 9 ∧ p2 = nI g := by
            obtain ⟨z1, z2⟩ := inR_t.mp g2
            have z0 : ¬ p2 < 0 := fun z => by
              have y1 := Int32.lt_iff_toInt_lt.mp z
              have y2 := Int32.le_iff_toInt_le.mp z1
              rw [show (1 : Int32).toInt = 1 by decide] at y2
              rw [show (0 : Int32).toInt = 0 by decide] at y1
              omega
            obtain ⟨g, hg1, rfl⟩ := nI_of z0
            have k2 := (nI_leI (b := 9) hg1 (by decide)).mp z2
            have k1 := (nI_leI (a := 1) (by decide) hg1).mp z1
            exact ⟨g, k1, k2, rfl⟩
          simp only [↓(fun (g : Int32 → Prop) => oex (in4 p1 1 1023) g), g1, ↓(fun (g : Int32 → Prop) => oex (in4 p2 1 9) g), g2, ↓(fun (g : Int32 → Prop) => oex (in4 p3 1 2000) g), g3, hO, hz1, ↓rdLe R, ↓reduceIte, bI_f, bI_t, i10, i20, i30, sx, snf, ↓rd4e R]
          refine new4 R ((E.2.1 cO).trans (bI_df (by omega))) p1 p2 p3 _ (fun M1 A1 R1 y => ?_)
          have y0 : A1 0 0 = A 0 0 := y 0 0 (by omega)
          have y1 : A1 1 0 = A 1 0 := y 1 0 (by omega)
          obtain ⟨M2, e2, R2⟩ := wrR1 R1 c1 (by simp (disch := omega) only [sU_ne, sU_eq])
          obtain ⟨M3, e3, R3⟩ := wr4_3 R2 (nI (cO + 1))
          rw [← y0, ← y1]
          simp (disch := omega) only [↓(fun (g : hM → Prop) => oex e2 g), ↓rd4e R2, sU_ne, hO, nI_1, ↓(fun (g : hM → Prop) => oex e3 g), ↓rd4e R3, sU_eq, nI_last]
          exact hq M3 A1 _ ⟨y0, fun k => y 11 k (by omega)⟩ c1 R3 (Inv_off I c1 hg) (Evo_off I c1) (fun i => offS_x 9 i (by omega))
        · have hO' : s 2 0 = 8 := by
            rw [hO, show cO = 8 by omega]
            rfl
          simp only [↓(fun (g : Int32 → Prop) => oex (in4 p1 1 1023) g), g1, ↓(fun (g : Int32 → Prop) => oex (in4 p2 1 9) g), g2, ↓(fun (g : Int32 → Prop) => oex (in4 p3 1 2000) g), g3, hO', i88, ↓rdLe R, ↓reduceIte, bI_f, bI_t, i10, i20, i30, sx, snf, ↓rd4e R]
          exact hx _ (Or.inr (Or.inr rfl))
theorem ob2 {M : hM} {q : Nat} (a1 a2 a3 a4 a5 a6 a7 : Int32) (h6 : a6 = 0 ∨ a6 = 1) (Q : hM → Prop) : wX2_init (hst M q (.inr (2, [.int 0, .int 0, .int 0, .int 0, .int 0, .int 0, .int 0, .int 0, .int 0, .int 0]))) q a1 a2 a3 a4 a5 a6 a7 Q = Q (hst M q (.inr (2, [.int a1, .int a2, .int a3, .int a4, .int a5, .int a6, .int a7, .int (-1), .int 0, .int 0]))) := by
  unfold wX2_init
  refine (oex (pV_at (hst_s _ _ _) (by simp)) _).trans ?_
  refine (oex (pV_at (hst_s _ _ _) (by simp)) _).trans ?_
  refine (oex (pV_at (hst_s _ _ _) (by simp)) _).trans ?_
  refine (oex (pV_at (hst_s _ _ _) (by simp)) _).trans ?_
  refine (oex (pV_at (hst_s _ _ _) (by simp)) _).trans ?_
  refine (oex (pV_at (hst_s _ _ _) (by simp)) _).trans ?_
  refine (oex (pZ_at (hst_s _ _ _) h6 (by simp)) _).trans ?_
  refine (oex (pV_at (hst_s _ _ _) (by simp)) _).trans ?_
  rw [hst_ss, hst_ss, hst_ss, hst_ss, hst_ss, hst_ss, hst_ss, hst_ss]
  rfl
theorem at_off {M : hM} {A : hAd} {s τ : hσ} (R : Rep M A s τ) {q : Nat} (hq : M q = none) (x : hE) : hst M q x (A 0 0) = some (c0 A s) := by
  have hne : A 0 0 ≠ q := fun z => by
    rw [← z, at0 R] at hq
    cases hq
  rw [hst_n _ _ hne]
  exact at0 R
theorem new9 {M : hM} {A : hAd} {s τ : hσ} (R : Rep M A s τ) {t : Nat} (h1 : s 116 t = 0) (a1 a2 a3 a4 a5 a6 : Int32) (h6 : a6 = 0 ∨ a6 = 1) (Q : Nat → hM → Prop) (k : ∀ (M' : hM) (A' : hAd), Rep M' A' (sU (sU (sU (sU (sU (sU (sU (sU (sU (sU (sU s 113 t 1) 12 t a1) 13 t a2) 14 t a3) 15 t a4) 16 t a5) 17 t a6) 18 t (s 1 0)) 19 t (-1)) 20 t 0) 21 t 0) τ → (∀ i j, ¬ (i = 9 ∧ j = t) → A' i j = A i j) → Q (A' 9 t) M') : ∀ q : Nat, M q = none → ∃ x, gI (hst M q (.inr (2, [.int 0, .int 0, .int 0, .int 0, .int 0, .int 0, .int 0, .int 0, .int 0, .int 0]))) 4 6 (some (A 0 0)) = some x ∧ wX2_init (hst M q (.inr (2, [.int 0, .int 0, .int 0, .int 0, .int 0, .int 0, .int 0, .int 0, .int 0, .int 0]))) q a1 a2 a3 a4 a5 a6 x (Q q) := fun q hq => by
  refine ⟨s 1 0, gI_at (at_off R hq _) rfl, ?_⟩
  rw [ob2 _ _ _ _ _ _ _ h6]
  have h := k _ _ (nw9 R hq h1 a1 a2 a3 a4 a5 a6 (s 1 0) (-1) 0 0) (fun i j e => aU_off e)
  rw [aU_eq] at h
  exact h
def itS (σ : hσ) (c : Nat) (a1 a2 a3 a4 a5 a6 a7 : Int32) : hσ := sU (sU (sU (sU (sU (sU (sU (sU (sU (sU (sU (sU (sU σ 113 c 1) 12 c a1) 13 c a2) 14 c a3) 15 c a4) 16 c a5) 17 c a6) 18 c a7) 19 c (-1)) 20 c 0) 21 c 0) 116 c 1) 11 0 (nI (c + 1))
theorem itS_x {σ : hσ} {c : Nat} {a1 a2 a3 a4 a5 a6 a7 : Int32} (g k : Nat) (h : (g < 11 ∨ 21 < g) ∧ g ≠ 113 ∧ g ≠ 116) : itS σ c a1 a2 a3 a4 a5 a6 a7 g k = σ g k := by
  unfold itS
  simp (disch := omega) only [sU_ne]
theorem itS_i {σ : hσ} {c : Nat} {a1 a2 a3 a4 a5 a6 a7 : Int32} (g k : Nat) (h : 12 ≤ g ∧ g ≤ 21) (e : k ≠ c) : itS σ c a1 a2 a3 a4 a5 a6 a7 g k = σ g k := by
  unfold itS
  simp (disch := omega) only [sU_ne, sU_nj e, sU_off]
section ITEM
variable {cO cF cI : Nat} {σ : hσ} {a1 a2 a3 a4 a5 a6 a7 : Int32}
theorem it_acc (t : Nat) : accS (itS σ cI a1 a2 a3 a4 a5 a6 a7) cF t = accS σ cF t := by
  unfold accS
  rw [itS_x 9 _ (by decide)]
theorem Inv_item (I : Inv cO cF cI σ) (h40 : cI < 40) : Inv cO cF (cI + 1) (itS σ cI a1 a2 a3 a4 a5 a6 a7) := by
  have key : ∀ g, g = 113 ∨ g = 116 → ∀ k, itS σ cI a1 a2 a3 a4 a5 a6 a7 g k = if k = cI then 1 else σ g k := by
    rintro g (rfl | rfl) k
    · by_cases e : k = cI
      · subst e
        unfold itS
        rw [if_pos rfl]
        simp (disch := omega) only [sU_ne, sU_eq]
      · unfold itS
        rw [if_neg e]
        simp (disch := omega) only [sU_ne, sU_nj e]
    · by_cases e : k = cI
      · subst e
        unfold itS
        rw [if_pos rfl]
        simp (disch := omega) only [sU_ne, sU_eq]
      · unfold itS
        rw [if_neg e]
        simp (disch := omega) only [sU_ne, sU_nj e]
  obtain ⟨hO, hO8, hF, hF6, hI, hI4, D, hD, hday⟩ := I.1
  have E := I.2.1
  refine ⟨⟨?_, hO8, ?_, hF6, ?_, by omega, D, hD, ?_⟩, ⟨fun k => ?_, fun k => ?_, fun k => ?_, fun k => ?_, fun k => ?_, fun k => ?_, fun k => ?_, fun t => ?_, fun t => ?_, fun f p => ?_, ?_⟩, ⟨fun k hk => ?_, fun x y hx hy => ?_, fun x y hx hy1 hy2 => ?_⟩, fun t ht => ?_⟩
  · rw [itS_x 2 _ (by decide)]
    exact hO
  · rw [itS_x 7 _ (by decide)]
    exact hF
  · unfold itS
    rw [sU_eq]
  · rw [itS_x 1 _ (by decide)]
    exact hday
  · rw [itS_x 110 _ (by decide)]
    exact E.1 k
  · rw [itS_x 114 _ (by decide)]
    exact E.2.1 k
  · rw [itS_x 111 _ (by decide)]
    exact E.2.2.1 k
  · rw [itS_x 115 _ (by decide)]
    exact E.2.2.2.1 k
  · rw [itS_x 118 _ (by decide)]
    exact E.2.2.2.2.1 k
  · rw [key 113 (Or.inl rfl) k, up1, E.2.2.2.2.2.1 k]
  · rw [key 116 (Or.inr rfl) k, up1, E.2.2.2.2.2.2.1 k]
  · rw [itS_x 112 _ (by decide), it_acc]
    exact E.2.2.2.2.2.2.2.1 t
  · rw [itS_x 119 _ (by decide), it_acc]
    exact E.2.2.2.2.2.2.2.2.1 t
  · rw [itS_x (1000 + 2 * f) _ (by omega), it_acc]
    exact E.2.2.2.2.2.2.2.2.2.1 f p
  · rw [itS_x 120 _ (by decide)]
    exact E.out
  · rw [itS_x 4 _ (by decide)]
    exact I.2.2.1.1 k hk
  · rw [itS_x 6 _ (by decide), itS_x 6 _ (by decide)]
    exact I.2.2.1.2.1 x y hx hy
  · rw [itS_x 6 _ (by decide)]
    exact I.2.2.1.2.2 x y hx hy1 hy2
  · rw [it_acc]
    obtain ⟨q1, q2⟩ := I.2.2.2 t ht
    exact ⟨fun q => unb_cong (fun f hf => itS_x f t (by omega)) (q1 q), fun q => oneT_cong (itS_x 1 0 (by omega)) (fun f hf => itS_x f t (by omega)) (fun j => itS_x _ j (by omega)) (q2 q)⟩
theorem Evo_item (I : Inv cO cF cI σ) (h40 : cI < 40) (h7 : a7 = σ 1 0) : Evo cO cF cI cO cF (cI + 1) σ (itS σ cI a1 a2 a3 a4 a5 a6 a7) := by
  refine Evo.mk' (by omega) (by rw [itS_x 1 0 (by omega)]; exact Int32.le_refl _) (fun g i hg => itS_x g i (by omega)) (cnt_same fun k => itS_x 37 k (by omega)) (fun t e d hd => ?_) (fun t k d _ => ?_) (fun t k _ _ q => ?_) (fun t _ _ j _ q => by rw [itS_x 32 t (by omega)]; exact q) (fun t ht ha => ⟨?_, fun _ _ => itS_x 27 t (by omega)⟩)
  · unfold strS
    refine sm_cong fun k hk => ?_
    have h18 : itS σ cI a1 a2 a3 a4 a5 a6 a7 18 cI = a7 := by
      unfold itS
      simp (disch := omega) only [sU_ne, sU_eq]
    by_cases e1 : k = cI
    · have n1 : stG (itS σ cI a1 a2 a3 a4 a5 a6 a7) (cI + 1) t e d k = false := by
        unfold stG
        rw [e1, h18, h7, decide_eq_false (Int32.not_le.mpr hd), Bool.and_false, Bool.false_and]
      have n2 : stG σ cI t e d k = false := by
        unfold stG
        rw [e1, decide_eq_false (Nat.lt_irrefl cI), Bool.false_and, Bool.false_and, Bool.false_and, Bool.false_and, Bool.false_and]
      rw [n1, n2, if_neg (by decide), if_neg (by decide)]
    · have hlt : k < cI + 1 ↔ k < cI := by omega
      have n1 : stG (itS σ cI a1 a2 a3 a4 a5 a6 a7) (cI + 1) t e d k = stG σ cI t e d k := by
        unfold stG
        rw [itS_i 12 k (by omega) e1, itS_i 13 k (by omega) e1, itS_i 15 k (by omega) e1, itS_i 16 k (by omega) e1, itS_i 18 k (by omega) e1, itS_i 19 k (by omega) e1, decide_eq_decide.mpr hlt]
      rw [n1, itS_i 14 k (by omega) e1]
  · unfold spS ovS hadS
    rw [show itS σ cI a1 a2 a3 a4 a5 a6 a7 3 = σ 3 from funext fun i => itS_x 3 i (by omega), show itS σ cI a1 a2 a3 a4 a5 a6 a7 (1001 + 2 * t) = σ (1001 + 2 * t) from funext fun i => itS_x _ i (by omega)]
  · unfold spS ovS hadS at *
    rw [show itS σ cI a1 a2 a3 a4 a5 a6 a7 3 = σ 3 from funext fun i => itS_x 3 i (by omega), show itS σ cI a1 a2 a3 a4 a5 a6 a7 (1001 + 2 * t) = σ (1001 + 2 * t) from funext fun i => itS_x _ i (by omega), itS_x 1 0 (by omega)]
    exact q
  · obtain ⟨e, h1, h2⟩ := (I.one ha).d27
    exact ⟨e, e, h1, by rw [itS_x 27 t (by omega)]; exact h1, Nat.le_refl _, h2⟩
end ITEM
theorem has_ex {M : hM} {A : hAd} {s τ : hσ} (R : Rep M A s τ) {f : Nat} (h : s 111 f = 1) (x : Int32) : ∃ v : Bool, fX1_hasAll M (A 5 f) x = some (bI v) := by
  unfold fX1_hasAll
  simp only [↓rd1b R h]
  by_cases h1 : x = 0
  · exact ⟨false, by rw [if_pos h1]; rfl⟩
  · rw [if_neg h1]
    by_cases h2 : x &&& (s 9 f ^^^ (-1)) = 0
    · exact ⟨true, by rw [if_pos h2]; rfl⟩
    · exact ⟨false, by rw [if_neg h2]; rfl⟩
theorem l_item (R : Rep M A s τ) (I : Inv cO cF cI s) (p1 p2 p3 p4 p5 b : Int32) (hb01 : b = 0 ∨ b = 1) (Q : hM → Int32 → Prop) (hx : ∀ r, refd r → Q M r) (hq : ∀ (M' : hM) (A' : hAd) (s' : hσ), (A' 0 0 = A 0 0 ∧ ∀ k, A' 11 k = A 11 k) → cI < 40 → Rep M' A' s' τ → Inv cO cF (cI + 1) s' → Evo cO cF cI cO cF (cI + 1) s s' → (∀ i, s' 9 i = s 9 i) → Q M' (nI cI)) : wL_item M (some (A 0 0)) p1 p2 p3 p4 p5 b Q := by
  obtain ⟨hO, hO8, hF, hF6, hI, hI4, D, hD, hday⟩ := I.1
  have E := I.2.1
  unfold wL_item wX4_item
  simp only [↓rd4e R]
  by_cases h : ∃ f, f < cF ∧ p1 = nI f
  · obtain ⟨f, hf, rfl⟩ := h
    have hf6 : f < 6 := by omega
    obtain ⟨v4, hv4⟩ := has_ex R (E.f hf) p4
    cases g2 : inR p2 0 9 with
    | false =>
      simp only [↓(fun (g : Option Nat → Prop) => oex (c_fileAt_t R E hf6 hf) g), ↓rd1e R (E.f hf), ↓(fun (g : Int32 → Prop) => oex (in4 p2 0 9) g), g2, ↓reduceIte, bI_f, bI_t, i10, i20, i30, sx, snf, ↓rd4e R]
      exact hx _ (Or.inl rfl)
    | true =>
      cases g3 : inR p3 (-9) 9 with
      | false =>
        simp only [↓(fun (g : Option Nat → Prop) => oex (c_fileAt_t R E hf6 hf) g), ↓rd1e R (E.f hf), ↓(fun (g : Int32 → Prop) => oex (in4 p2 0 9) g), g2, ↓(fun (g : Int32 → Prop) => oex (in4 p3 (-9) 9) g), g3, ↓reduceIte, bI_f, bI_t, i10, i20, i30, sx, snf, ↓rd4e R]
        exact hx _ (Or.inr (Or.inl rfl))
      | true =>
        by_cases c3 : p3 = 0
        · have c3' : (p3 = 0) = True := eq_true c3
          simp only [↓(fun (g : Option Nat → Prop) => oex (c_fileAt_t R E hf6 hf) g), ↓rd1e R (E.f hf), ↓(fun (g : Int32 → Prop) => oex (in4 p2 0 9) g), g2, ↓(fun (g : Int32 → Prop) => oex (in4 p3 (-9) 9) g), g3, c3', ↓reduceIte, bI_f, bI_t, i10, i20, i30, sx, snf, ↓rd4e R]
          exact hx _ (Or.inr (Or.inl rfl))
        · cases g4 : v4 with
          | false =>
            simp only [↓(fun (g : Option Nat → Prop) => oex (c_fileAt_t R E hf6 hf) g), ↓rd1e R (E.f hf), ↓(fun (g : Int32 → Prop) => oex (in4 p2 0 9) g), g2, ↓(fun (g : Int32 → Prop) => oex (in4 p3 (-9) 9) g), g3, c3, ↓(fun (g : Int32 → Prop) => oex hv4 g), g4, ↓reduceIte, bI_f, bI_t, i10, i20, i30, sx, snf, ↓rd4e R]
            exact hx _ (Or.inr (Or.inl rfl))
          | true =>
            cases g5 : inR p5 0 2 with
            | false =>
              simp only [↓(fun (g : Option Nat → Prop) => oex (c_fileAt_t R E hf6 hf) g), ↓rd1e R (E.f hf), ↓(fun (g : Int32 → Prop) => oex (in4 p2 0 9) g), g2, ↓(fun (g : Int32 → Prop) => oex (in4 p3 (-9) 9) g), g3, c3, ↓(fun (g : Int32 → Prop) => oex hv4 g), g4, ↓(fun (g : Int32 → Prop) => oex (in4 p5 0 2) g), g5, ↓reduceIte, bI_f, bI_t, i10, i20, i30, sx, snf, ↓rd4e R]
              exact hx _ (Or.inr (Or.inl rfl))
            | true =>
              by_cases c7 : cI < 40
              · have hz1 : nI cI < 40 := t40 c7
                simp only [↓(fun (g : Option Nat → Prop) => oex (c_fileAt_t R E hf6 hf) g), ↓rd1e R (E.f hf), ↓(fun (g : Int32 → Prop) => oex (in4 p2 0 9) g), g2, ↓(fun (g : Int32 → Prop) => oex (in4 p3 (-9) 9) g), g3, c3, ↓(fun (g : Int32 → Prop) => oex hv4 g), g4, ↓(fun (g : Int32 → Prop) => oex (in4 p5 0 2) g), g5, hI, hz1, ↓rdLe R, ↓reduceIte, bI_f, bI_t, i10, i20, i30, sx, snf, ↓rd4e R]
                refine new9 R ((E.2.2.2.2.2.2.1 cI).trans (bI_df (by omega))) (nI f) p2 p3 p4 p5 b hb01 _ (fun M1 A1 R1 y => ?_)
                have y0 : A1 0 0 = A 0 0 := y 0 0 (by omega)
                have y1 : A1 3 0 = A 3 0 := y 3 0 (by omega)
                obtain ⟨M2, e2, R2⟩ := wrR3 R1 c7 (by simp (disch := omega) only [sU_ne, sU_eq])
                obtain ⟨M3, e3, R3⟩ := wr4_5 R2 (nI (cI + 1))
                rw [← y0, ← y1]
                simp (disch := omega) only [↓(fun (g : hM → Prop) => oex e2 g), ↓rd4e R2, sU_ne, hI, nI_1, ↓(fun (g : hM → Prop) => oex e3 g), ↓rd4e R3, sU_eq, nI_last]
                exact hq M3 A1 _ ⟨y0, fun k => y 11 k (by omega)⟩ c7 R3 (Inv_item I c7) (Evo_item I c7 rfl) (fun i => itS_x 9 i (by omega))
              · have hI' : s 11 0 = 40 := by
                  rw [hI, show cI = 40 by omega]
                  rfl
                simp only [↓(fun (g : Option Nat → Prop) => oex (c_fileAt_t R E hf6 hf) g), ↓rd1e R (E.f hf), ↓(fun (g : Int32 → Prop) => oex (in4 p2 0 9) g), g2, ↓(fun (g : Int32 → Prop) => oex (in4 p3 (-9) 9) g), g3, c3, ↓(fun (g : Int32 → Prop) => oex hv4 g), g4, ↓(fun (g : Int32 → Prop) => oex (in4 p5 0 2) g), g5, hI', i4040, ↓rdLe R, ↓reduceIte, bI_f, bI_t, i10, i20, i30, sx, snf, ↓rd4e R]
                exact hx _ (Or.inr (Or.inr rfl))
  · simp only [↓(fun (g : Option Nat → Prop) => oex (c_fileAt_f R E h) g), ↓reduceIte, bI_f, bI_t, i10, i20, i30, sx, snf, ↓rd4e R]
    exact hx _ (Or.inl rfl)
end NEW
