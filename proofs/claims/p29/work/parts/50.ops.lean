/-! ===== calls that touch neither what is known of days that are over nor what is spent ===== -/
theorem nref0 : ¬ refd 0 := by
  unfold refd
  decide
theorem nref1 : ¬ refd 1 := by
  unfold refd
  decide
theorem n90 : (0 : Int32) ≠ -9 := by decide
theorem n91 : (1 : Int32) ≠ -9 := by decide
/-- behind a call that doesn't throw, and opens nothing new -/
def NX (A : hAd) (τ : hσ) (cO cF cI : Nat) (s : hσ) (Q : hM → Int32 → Prop) : Prop := ∀ (M' : hM) (s' : hσ) (r : Int32), ¬ refd r → r ≠ -9 → Rep M' A s' τ → Inv cO cF cI s' → Evo cO cF cI cO cF cI s s' → (∀ i, s' 9 i = s 9 i) → Q M' r
theorem cnt_up {s s0 : hσ} {j c : Nat} (h : ∀ k, s0 37 k = s 37 k) (hc : c ≤ 64) : ∀ k, k < 6 → ∃ c', c' ≤ 64 ∧ sU s0 37 j (s 37 j + nI c) 37 k = s 37 k + nI c' := fun k _ => by
  by_cases e : k = j
  · subst e
    exact ⟨c, hc, sU_eq _ _ _ _⟩
  · exact ⟨0, by omega, by rw [sU_nj e, h, nI_0, Int32.add_zero]⟩
theorem extV : ∀ r, (r = 0 ∨ r = 2 ∨ r = 4 ∨ r = 6) → ∀ q, (q = 1 ∨ q = 2) → hb (nI r) (nI q) = false → ∃ r' C C', (r' = 0 ∨ r' = 2 ∨ r' = 4 ∨ r' = 6) ∧ nI r ||| (1 <<< (nI q &&& 31)) = nI r' ∧ ceilV (nI r) = nI C ∧ ceilV (nI r') = nI C' ∧ C ≤ C' ∧ C' ≤ 10 := by
  rintro r (rfl | rfl | rfl | rfl) q (rfl | rfl) h
  · exact ⟨2, 4, 6, by decide, by decide, by decide, by decide, by decide, by decide⟩
  · exact ⟨4, 4, 8, by decide, by decide, by decide, by decide, by decide, by decide⟩
  · exact absurd h (by decide)
  · exact ⟨6, 6, 10, by decide, by decide, by decide, by decide, by decide, by decide⟩
  · exact ⟨6, 8, 10, by decide, by decide, by decide, by decide, by decide, by decide⟩
  · exact absurd h (by decide)
  · exact absurd h (by decide)
  · exact absurd h (by decide)
theorem sm_cnt (q : Nat → Bool) : ∀ n, ∃ m, m ≤ n ∧ sm (fun k => bI (q k)) n = nI m := by
  intro n
  induction n with
  | zero => exact ⟨0, by omega, rfl⟩
  | succ n ih =>
    obtain ⟨m, hm, e⟩ := ih
    cases c : q n with
    | false =>
      refine ⟨m, by omega, ?_⟩
      rw [sm, e, c, bI_f, Int32.add_zero]
    | true =>
      refine ⟨m + 1, by omega, ?_⟩
      rw [sm, e, c, bI_t, nI_1]
theorem lackS_nI (σ : hσ) (c : Nat) (f p : Int32) : ∃ m, m ≤ 40 ∧ lackS σ c f p = nI m := sm_cnt (fun k => lkG σ c f p k) 40
theorem pos_nref {r : Int32} (h : 0 < r) : ¬ refd r ∧ r ≠ -9 := by
  have key : ∀ m : Int32, m < 0 → r ≠ m := fun m hm e => by
    rw [e] at h
    exact absurd (Int32.lt_trans h hm) Int32.lt_irrefl
  refine ⟨?_, key _ (by decide)⟩
  rintro (e | e | e)
  · exact key _ (by decide) e
  · exact key _ (by decide) e
  · exact key _ (by decide) e
theorem told_n {c : Nat} (hc : c ≤ 8) {a : Int32} (h : (decide (0 ≤ a) && decide (a < bitN c)) = true) : ∃ n, n < 2 ^ c ∧ n < 256 ∧ a = nI n := by
  rw [Bool.and_eq_true, decide_eq_true_eq, decide_eq_true_eq] at h
  obtain ⟨j, hj, rfl⟩ := nI_of (Int32.not_lt.mpr h.1)
  have h2 := pw256 c hc
  rw [bitN_nI (by omega)] at h
  have h3 := (nI_ltI hj (by omega)).mp h.2
  exact ⟨j, h3, by omega, rfl⟩
theorem cO_up {cO n c : Nat} (h : n < 2 ^ c) (hc : c ≤ cO) : n < 2 ^ cO := Nat.lt_of_lt_of_le h (Nat.pow_le_pow_right (by decide) hc)
section OPS
variable {M : hM} {A : hAd} {s τ : hσ} {cO cF cI : Nat}
theorem hb_or (a : Int32) {b j : Nat} (hb' : b < 8) (hj : j < 8) : hb (a ||| (1 <<< (nI b &&& 31))) (nI j) = (hb a (nI j) || decide (j = b)) := by
  rw [hb_bt _ (by omega), hb_bt _ (by omega), b_or]
  have e : bt (1 <<< (nI b &&& 31)) j = decide (j = b) := bt_bitN (k := b) (by omega) (by omega)
  rw [e]
theorem l_exclude (R : Rep M A s τ) (I : Inv cO cF cI s) (p1 p2 : Int32) (Q : hM → Int32 → Prop) (hx : ∀ r, refd r → Q M r) (hq : NX A τ cO cF cI s Q) : wL_exclude M (some (A 0 0)) p1 p2 Q := by
  obtain ⟨hO, hO8, hF, hF6, hI, hI4, D, hD, hday⟩ := I.1
  have E := I.2.1
  unfold wL_exclude wX4_exclude
  simp only [↓rd4e R]
  by_cases h1 : ∃ k, k < cO ∧ p1 = nI k
  · obtain ⟨a, ha, rfl⟩ := h1
    have ha8 : a < 8 := by omega
    by_cases h2 : ∃ k, k < cO ∧ p2 = nI k
    · obtain ⟨b, hb', rfl⟩ := h2
      have hb8 : b < 8 := by omega
      by_cases h3 : a = b
      · subst h3
        simp only [↓(fun (g : Option Nat → Prop) => oex (c_offenceAt_t R E ha8 ha) g), ↓reduceIte, bI_f, bI_t, i10, i20, i30, sx, snf, ↓rd4e R]
        exact hx _ (Or.inr (Or.inl rfl))
      · have hne : ¬ nI a = nI b := fun z => h3 ((nI_eq (by omega) (by omega)).mp z)
        have hne2 : b ≠ a := fun z => h3 z.symm
        obtain ⟨M1, e1, R1⟩ := wr3_3 R (E.o ha) (s 6 a ||| (1 <<< (nI b &&& 31)))
        have hex : fX3_excludes M (A 4 a) (nI b) = some (bI (hb (s 6 a) (nI b))) := by
          unfold fX3_excludes
          simp only [↓rd3b R (E.o ha), ↓has4b, hbz_bI]
        have h110 : sU s 6 a (s 6 a ||| (1 <<< (nI b &&& 31))) 110 b = 1 := by
          rw [sU_ne (by decide)]
          exact E.o hb'
        obtain ⟨M2, e2, R2⟩ := wr3_3 R1 h110 (s 6 b ||| (1 <<< (nI a &&& 31)))
        simp only [↓(fun (g : Option Nat → Prop) => oex (c_offenceAt_t R E ha8 ha) g), ↓(fun (g : Option Nat → Prop) => oex (c_offenceAt_t R E hb8 hb') g), ↓reduceIte, bI_f, bI_t, i10, i20, i30, sx, snf, hne, ↓rd4e R, ↓rd3e R (E.o ha), ↓(fun (g : Int32 → Prop) => oex hex g), ↓(fun (g : hM → Prop) => oex e1 g), ↓rd3e R1 h110, sU_nj hne2, ↓(fun (g : hM → Prop) => oex e2 g)]
        have fin : ∀ r : Int32, ¬ refd r → r ≠ -9 → Q M2 r := fun r hr hr9 => by
          refine hq M2 _ r hr hr9 R2 ⟨InvN_c (by omega) (InvN_c (by omega) I.1), ExI_c (by omega) (ExI_c (by omega) E), ⟨fun k hk => ?_, fun x y hx hy => ?_, fun x y hx hy1 hy2 => ?_⟩, InvT_c (by omega) (InvT_c (by omega) I.2.2.2)⟩ (Evo.quiet I (fun g i hg => by simp (disch := omega) only [sU_ne]) (cnt_same fun k => by simp (disch := omega) only [sU_ne])) (fun i => by simp (disch := omega) only [sU_ne])
          · simp (disch := omega) only [sU_ne]
            exact I.2.2.1.1 k hk
          · have val : ∀ x, x < cO → ∀ y, y < 8 → hb (sU (sU s 6 a (s 6 a ||| (1 <<< (nI b &&& 31)))) 6 b (s 6 b ||| (1 <<< (nI a &&& 31))) 6 x) (nI y) = (hb (s 6 x) (nI y) || (decide (x = a ∧ y = b) || decide (x = b ∧ y = a))) := fun x hx y hy => by
              by_cases q1 : x = b
              · subst q1
                rw [sU_eq, hb_or _ ha8 hy]
                simp [hne2]
              · by_cases q2 : x = a
                · subst q2
                  rw [sU_nj q1, sU_eq, hb_or _ hb8 hy]
                  simp [h3]
                · rw [sU_nj q1, sU_nj q2]
                  simp [q1, q2]
            rw [val x hx y (by omega), val y hy x (by omega), I.2.2.1.2.1 x y hx hy]
            refine congrArg (fun z => hb (s 6 y) (nI x) || z) ?_
            by_cases z1 : x = a <;> by_cases z2 : y = b <;> by_cases z3 : x = b <;> by_cases z4 : y = a <;> simp [z1, z2, z3, z4]
          · by_cases q1 : x = b
            · subst q1
              rw [sU_eq, hb_or _ ha8 hy2, I.2.2.1.2.2 x y hx hy1 hy2]
              simp
              omega
            · by_cases q2 : x = a
              · subst q2
                rw [sU_nj q1, sU_eq, hb_or _ hb8 hy2, I.2.2.1.2.2 x y hx hy1 hy2]
                simp
                omega
              · rw [sU_nj q1, sU_nj q2]
                exact I.2.2.1.2.2 x y hx hy1 hy2
        cases hb (s 6 a) (nI b) with
        | false => exact ⟨Or.inl rfl, fin 0 nref0 n90⟩
        | true => exact ⟨Or.inr rfl, fin 1 nref1 n91⟩
    · simp only [↓(fun (g : Option Nat → Prop) => oex (c_offenceAt_t R E ha8 ha) g), ↓(fun (g : Option Nat → Prop) => oex (c_offenceAt_f R E h2) g), ↓reduceIte, bI_f, bI_t, i10, i20, i30, sx, snf, ↓rd4e R]
      exact hx _ (Or.inl rfl)
  · by_cases h2 : ∃ k, k < cO ∧ p2 = nI k
    · obtain ⟨b, hb', rfl⟩ := h2
      have hb8 : b < 8 := by omega
      simp only [↓(fun (g : Option Nat → Prop) => oex (c_offenceAt_f R E h1) g), ↓(fun (g : Option Nat → Prop) => oex (c_offenceAt_t R E hb8 hb') g), ↓reduceIte, bI_f, bI_t, i10, i20, i30, sx, snf, ↓rd4e R]
      exact hx _ (Or.inl rfl)
    · simp only [↓(fun (g : Option Nat → Prop) => oex (c_offenceAt_f R E h1) g), ↓(fun (g : Option Nat → Prop) => oex (c_offenceAt_f R E h2) g), ↓reduceIte, bI_f, bI_t, i10, i20, i30, sx, snf, ↓rd4e R]
      exact hx _ (Or.inl rfl)
theorem l_admit (R : Rep M A s τ) (I : Inv cO cF cI s) (p1 : Int32) (Q : hM → Int32 → Prop) (hx : ∀ r, refd r → Q M r) (hq : NX A τ cO cF cI s Q) : wL_admit M (some (A 0 0)) p1 Q := by
  obtain ⟨hO, hO8, hF, hF6, hI, hI4, D, hD, hday⟩ := I.1
  have E := I.2.1
  unfold wL_admit wX4_admit
  simp only [↓rd4e R]
  by_cases h : ∃ k, k < cI ∧ p1 = nI k
  · obtain ⟨k, hk, rfl⟩ := h
    have h40 : k < 40 := by omega
    by_cases c1 : s 16 k = 1
    · by_cases c2 : s 19 k = -1
      · obtain ⟨M1, e1, R1⟩ := wr2_7 R (E.i hk) (s 1 0)
        simp only [↓(fun (g : Option Nat → Prop) => oex (c_itemAt_t R E h40 hk) g), ↓rd2e R (E.i hk), c1, c2, ↓(fun (g : hM → Prop) => oex e1 g), ↓reduceIte, bI_f, bI_t, i10, i20, i30, sx, snf, ↓rd4e R]
        refine hq M1 _ 0 nref0 n90 R1 ⟨InvN_c (by omega) I.1, ExI_c (by omega) E, InvO_c (by omega) I.2.2.1, InvT_c (by omega) I.2.2.2⟩ (Evo.mk' (Nat.le_refl _) (by rw [sU_ne (by decide)]; exact Int32.le_refl _) (fun g i hg => by simp (disch := omega) only [sU_ne]) (cnt_same fun k => by simp (disch := omega) only [sU_ne]) (fun t e d hd => ?_) (fun t j d _ => spS_c (by omega)) (fun t j _ _ q => by rw [spS_c (by omega), sU_ne (by decide)]; exact q) (fun t _ _ j _ q => by rw [sU_ne (by decide)]; exact q) (fun t ht ha => ⟨?_, fun _ _ => sU_ne (by decide)⟩)) (fun i => by simp (disch := omega) only [sU_ne])
        · have hg : ∀ j, stG (sU s 19 k (s 1 0)) cI t e d j = stG s cI t e d j := fun j => by
            unfold stG
            simp (disch := omega) only [sU_ne]
            by_cases q : j = k
            · subst q
              have n1 : ¬ s 1 0 ≤ d := Int32.not_le.mpr hd
              have n2 : ¬ (1 : Int32) = 0 := by decide
              rw [sU_eq, c1, c2, decide_eq_false n1, Bool.and_false, decide_eq_false (show ¬ (-1 : Int32) ≠ -1 from fun z => z rfl), Bool.false_and]
            · rw [sU_nj q]
          unfold strS
          simp (disch := omega) only [hg, sU_ne]
        · obtain ⟨e, h1, h2⟩ := (I.one ha).d27
          exact ⟨e, e, h1, by rw [sU_ne (by decide)]; exact h1, Nat.le_refl _, h2⟩
      · simp only [↓(fun (g : Option Nat → Prop) => oex (c_itemAt_t R E h40 hk) g), ↓rd2e R (E.i hk), c1, c2, ↓reduceIte, bI_f, bI_t, i10, i20, i30, sx, snf, ↓rd4e R]
        exact hx _ (Or.inr (Or.inr rfl))
    · simp only [↓(fun (g : Option Nat → Prop) => oex (c_itemAt_t R E h40 hk) g), ↓rd2e R (E.i hk), c1, ↓reduceIte, bI_f, bI_t, i10, i20, i30, sx, snf, ↓rd4e R]
      exact hx _ (Or.inr (Or.inr rfl))
  · simp only [↓(fun (g : Option Nat → Prop) => oex (c_itemAt_f R E h) g), ↓reduceIte, bI_f, bI_t, i10, i20, i30, sx, snf, ↓rd4e R]
    exact hx _ (Or.inl rfl)
theorem l_show (R : Rep M A s τ) (I : Inv cO cF cI s) (p1 p2 : Int32) (Q : hM → Int32 → Prop) (hx : ∀ r, refd r → Q M r) (hq : NX A τ cO cF cI s Q) : wL_show M (some (A 0 0)) p1 p2 Q := by
  obtain ⟨hO, hO8, hF, hF6, hI, hI4, D, hD, hday⟩ := I.1
  have E := I.2.1
  unfold wL_show wX4_show
  simp only [↓rd4e R]
  by_cases h : ∃ k, k < cI ∧ p1 = nI k
  · obtain ⟨k, hk, rfl⟩ := h
    have h40 : k < 40 := by omega
    cases g4 : inR p2 0 7 with
    | false =>
      simp only [↓(fun (g : Option Nat → Prop) => oex (c_itemAt_t R E h40 hk) g), g4, ↓(fun (g : Int32 → Prop) => oex (in4 p2 0 7) g), ↓reduceIte, bI_f, bI_t, i10, i20, i30, sx, snf, ↓rd4e R]
      exact hx _ (Or.inl rfl)
    | true =>
      cases c1 : hb (s 15 k) p2 with
      | false =>
        simp only [↓(fun (g : Option Nat → Prop) => oex (c_itemAt_t R E h40 hk) g), g4, c1, ↓(fun (g : Int32 → Prop) => oex (in4 p2 0 7) g), ↓rd2e R (E.i hk), ↓(fun (g : Int32 → Prop) => oex (c_isAgainst R (E.i hk) p2) g), ↓(fun (g : Int32 → Prop) => oex (c_wasShownTo R (E.i hk) p2) g), ↓reduceIte, bI_f, bI_t, i10, i20, i30, sx, snf, ↓rd4e R]
        exact hx _ (Or.inr (Or.inr rfl))
      | true =>
        cases c2 : hb (s 20 k) p2 with
        | true =>
          simp only [↓(fun (g : Option Nat → Prop) => oex (c_itemAt_t R E h40 hk) g), g4, c1, c2, ↓(fun (g : Int32 → Prop) => oex (in4 p2 0 7) g), ↓rd2e R (E.i hk), ↓(fun (g : Int32 → Prop) => oex (c_isAgainst R (E.i hk) p2) g), ↓(fun (g : Int32 → Prop) => oex (c_wasShownTo R (E.i hk) p2) g), ↓reduceIte, bI_f, bI_t, i10, i20, i30, sx, snf, ↓rd4e R]
          exact hx _ (Or.inr (Or.inr rfl))
        | false =>
          obtain ⟨M1, e1, R1⟩ := wr2_8 R (E.i hk) (s 20 k ||| (1 <<< (p2 &&& 31)))
          have E1 : ExI cO cF cI (sU s 20 k (s 20 k ||| (1 <<< (p2 &&& 31)))) := ExI_c (by omega) E
          simp only [↓(fun (g : Option Nat → Prop) => oex (c_itemAt_t R E h40 hk) g), ↓rd2e R (E.i hk), c1, c2, g4, ↓(fun (g : Int32 → Prop) => oex (in4 p2 0 7) g), ↓(fun (g : Int32 → Prop) => oex (c_isAgainst R (E.i hk) p2) g), ↓(fun (g : Int32 → Prop) => oex (c_wasShownTo R (E.i hk) p2) g), ↓(fun (g : hM → Prop) => oex e1 g), ↓reduceIte, bI_f, bI_t, i10, i20, i30, sx, snf, ↓rd4e R, ↓rd2e R1 (E1.i hk), ↓rd4e R1, ↓(fun (a b : Int32) (g : Int32 → Prop) => oex (c_lackedBy R1 E1 a b) g)]
          obtain ⟨m, hm, em⟩ := lackS_nI (sU s 20 k (s 20 k ||| (1 <<< (p2 &&& 31)))) cI (sU s 20 k (s 20 k ||| (1 <<< (p2 &&& 31))) 12 k) p2
          rw [em]
          exact hq M1 _ _ (nI_nref (by omega)) (nI_n9 (by omega)) R1 ⟨InvN_c (by omega) I.1, ExI_c (by omega) E, InvO_c (by omega) I.2.2.1, InvT_c (by omega) I.2.2.2⟩ (Evo.quiet I (fun g i hg => by simp (disch := omega) only [sU_ne]) (cnt_same fun k => by simp (disch := omega) only [sU_ne])) (fun i => by simp (disch := omega) only [sU_ne])
  · simp only [↓(fun (g : Option Nat → Prop) => oex (c_itemAt_f R E h) g), ↓reduceIte, bI_f, bI_t, i10, i20, i30, sx, snf, ↓rd4e R]
    exact hx _ (Or.inl rfl)
theorem l_withhold (R : Rep M A s τ) (I : Inv cO cF cI s) (p1 : Int32) (Q : hM → Int32 → Prop) (hx : ∀ r, refd r → Q M r) (hq : NX A τ cO cF cI s Q) : wL_withhold M (some (A 0 0)) p1 Q := by
  obtain ⟨hO, hO8, hF, hF6, hI, hI4, D, hD, hday⟩ := I.1
  have E := I.2.1
  unfold wL_withhold wX4_withhold
  simp only [↓rd4e R]
  by_cases h : ∃ k, k < cI ∧ p1 = nI k
  · obtain ⟨k, hk, rfl⟩ := h
    have h40 : k < 40 := by omega
    by_cases c1 : s 17 k = 0
    · simp only [↓(fun (g : Option Nat → Prop) => oex (c_itemAt_t R E h40 hk) g), c1, ↓rd2e R (E.i hk), ↓reduceIte, bI_f, bI_t, i10, i20, i30, sx, snf, ↓rd4e R]
      exact hx _ (Or.inr (Or.inr rfl))
    · by_cases c2 : s 21 k = 0
      · obtain ⟨M1, e1, R1⟩ := wr2_9 R (E.i hk) 1 (Or.inr rfl)
        simp only [↓(fun (g : Option Nat → Prop) => oex (c_itemAt_t R E h40 hk) g), ↓rd2e R (E.i hk), c1, c2, ↓(fun (g : hM → Prop) => oex e1 g), ↓reduceIte, bI_f, bI_t, i10, i20, i30, sx, snf, ↓rd4e R]
        exact hq M1 _ 0 nref0 n90 R1 ⟨InvN_c (by omega) I.1, ExI_c (by omega) E, InvO_c (by omega) I.2.2.1, InvT_c (by omega) I.2.2.2⟩ (Evo.quiet I (fun g i hg => by simp (disch := omega) only [sU_ne]) (cnt_same fun k => by simp (disch := omega) only [sU_ne])) (fun i => by simp (disch := omega) only [sU_ne])
      · simp only [↓(fun (g : Option Nat → Prop) => oex (c_itemAt_t R E h40 hk) g), c1, c2, ↓rd2e R (E.i hk), ↓reduceIte, bI_f, bI_t, i10, i20, i30, sx, snf, ↓rd4e R]
        exact hx _ (Or.inr (Or.inr rfl))
  · simp only [↓(fun (g : Option Nat → Prop) => oex (c_itemAt_f R E h) g), ↓reduceIte, bI_f, bI_t, i10, i20, i30, sx, snf, ↓rd4e R]
    exact hx _ (Or.inl rfl)
theorem l_release (R : Rep M A s τ) (I : Inv cO cF cI s) (p1 p2 : Int32) (Q : hM → Int32 → Prop) (hx : ∀ r, refd r → Q M r) (hq : NX A τ cO cF cI s Q) : wL_release M (some (A 0 0)) p1 p2 Q := by
  obtain ⟨hO, hO8, hF, hF6, hI, hI4, D, hD, hday⟩ := I.1
  have E := I.2.1
  unfold wL_release wX4_release
  simp only [↓rd4e R]
  by_cases h : isinP s cF p1 p2
  · obtain ⟨f, p, rfl, rfl, hf, hp, ha⟩ := isin_acc h
    have ht := acc48 I ha
    rw [c_acc_t R E hF6 hf hp ha]
    obtain ⟨o1, o2, o3, o4, o5, o6, o7, o8, o9, o10, o11⟩ := I.one ha
    have h112 := E.a ha
    by_cases c1 : s 26 (8 * f + p) = 0
    · simp only [↓rd0e R h112, c1, ↓reduceIte, bI_f, bI_t, i10, i20, i30, sx, snf, ↓rd4e R]
      exact hx _ (Or.inr (Or.inr rfl))
    · obtain ⟨M1, e1, R1⟩ := wr0_7 R h112 0 (Or.inl rfl)
      simp only [↓rd0e R h112, c1, ↓(fun (g : hM → Prop) => oex e1 g), ↓reduceIte, bI_f, bI_t, i10, i20, i30, sx, snf, ↓rd4e R]
      refine hq M1 _ 0 nref0 n90 R1 ⟨InvN_c (by omega) (I.1), ExI_c (by omega) (E), InvO_c (by omega) (I.2.2.1), ?_⟩ (Evo.quiet I (fun g i hg => by simp (disch := omega) only [sU_ne]) (cnt_same fun k => by simp (disch := omega) only [sU_ne])) (fun i => by simp (disch := omega) only [sU_ne])
      refine InvT_at (t := 8 * f + p) I.2.2.2 ha (fun t2 => ?_) ?_ (fun t2 g e hg => ?_) (fun t2 j e => ?_) (oneT_of (day := s 1 0) (a22 := s 22 (8 * f + p)) (a23 := s 23 (8 * f + p)) (a26 := 0) (a27 := s 27 (8 * f + p)) (a28 := s 28 (8 * f + p)) (a30 := s 30 (8 * f + p)) (a32 := s 32 (8 * f + p)) (an := s (1001 + 2 * (8 * f + p))) ?_ ?_ ?_ ?_ ?_ ?_ ?_ ?_ (fun j => ?_) ⟨o1, o2, o3, fun _ => rfl, Or.inl rfl, o6, o7, o8, o9, o10, o11⟩)
      · simp (disch := omega) only [accS_c]
      · simp (disch := omega) only [sU_ne]
      · simp (disch := omega) only [sU_nj e, sU_ne]
      · simp (disch := omega) only [sU_ne]
      · simp (disch := omega) only [sU_ne, sU_eq]
      · simp (disch := omega) only [sU_ne, sU_eq]
      · simp (disch := omega) only [sU_ne, sU_eq]
      · simp (disch := omega) only [sU_ne, sU_eq]
      · simp (disch := omega) only [sU_ne, sU_eq]
      · simp (disch := omega) only [sU_ne, sU_eq]
      · simp (disch := omega) only [sU_ne, sU_eq]
      · simp (disch := omega) only [sU_ne, sU_eq]
      · simp (disch := omega) only [sU_ne]
  · rw [c_acc_f R E hF6 h]
    simp only [sx, ↓reduceIte]
    exact hx _ (Or.inl rfl)
theorem l_arrest (R : Rep M A s τ) (I : Inv cO cF cI s) (p1 p2 : Int32) (Q : hM → Int32 → Prop) (hx : ∀ r, refd r → Q M r) (hq : NX A τ cO cF cI s Q) : wL_arrest M (some (A 0 0)) p1 p2 Q := by
  obtain ⟨hO, hO8, hF, hF6, hI, hI4, D, hD, hday⟩ := I.1
  have E := I.2.1
  unfold wL_arrest wX4_arrest
  simp only [↓rd4e R]
  by_cases h : isinP s cF p1 p2
  · obtain ⟨f, p, rfl, rfl, hf, hp, ha⟩ := isin_acc h
    have ht := acc48 I ha
    rw [c_acc_t R E hF6 hf hp ha]
    obtain ⟨o1, o2, o3, o4, o5, o6, o7, o8, o9, o10, o11⟩ := I.one ha
    have h112 := E.a ha
    simp only [↓rd0e R h112, ↓(fun (g : Int32 → Prop) => oex (c_daysLeft R h112) g)]
    by_cases c1 : s 22 (8 * f + p) = 1
    · rw [if_pos c1]
      simp only [sx, ↓reduceIte]
      exact hx _ (Or.inr (Or.inr rfl))
    · rw [if_neg c1]
      by_cases c2 : s 26 (8 * f + p) = 0
      · rw [if_pos c2]
        by_cases c3 : 0 < (if s 22 (8 * f + p) = 2 then 60 - s 28 (8 * f + p) else ceilS s (8 * f + p) - s 27 (8 * f + p))
        · rw [if_pos c3]
          obtain ⟨M1, e1, R1⟩ := wr0_7 R h112 1 (Or.inr rfl)
          rw [oex e1]
          refine hq M1 _ _ (pos_nref c3).1 (pos_nref c3).2 R1 ⟨InvN_c (by omega) (I.1), ExI_c (by omega) (E), InvO_c (by omega) (I.2.2.1), ?_⟩ (Evo.quiet I (fun g i hg => by simp (disch := omega) only [sU_ne]) (cnt_same fun k => by simp (disch := omega) only [sU_ne])) (fun i => by simp (disch := omega) only [sU_ne])
          refine InvT_at (t := 8 * f + p) I.2.2.2 ha (fun t2 => ?_) ?_ (fun t2 g e hg => ?_) (fun t2 j e => ?_) (oneT_of (day := s 1 0) (a22 := s 22 (8 * f + p)) (a23 := s 23 (8 * f + p)) (a26 := 1) (a27 := s 27 (8 * f + p)) (a28 := s 28 (8 * f + p)) (a30 := s 30 (8 * f + p)) (a32 := s 32 (8 * f + p)) (an := s (1001 + 2 * (8 * f + p))) ?_ ?_ ?_ ?_ ?_ ?_ ?_ ?_ (fun j => ?_) ⟨o1, o2, o3, fun z => absurd z c1, Or.inr rfl, o6, o7, o8, o9, o10, o11⟩)
          · simp (disch := omega) only [accS_c]
          · simp (disch := omega) only [sU_ne]
          · simp (disch := omega) only [sU_nj e, sU_ne]
          · simp (disch := omega) only [sU_ne]
          · simp (disch := omega) only [sU_ne, sU_eq]
          · simp (disch := omega) only [sU_ne, sU_eq]
          · simp (disch := omega) only [sU_ne, sU_eq]
          · simp (disch := omega) only [sU_ne, sU_eq]
          · simp (disch := omega) only [sU_ne, sU_eq]
          · simp (disch := omega) only [sU_ne, sU_eq]
          · simp (disch := omega) only [sU_ne, sU_eq]
          · simp (disch := omega) only [sU_ne, sU_eq]
          · simp (disch := omega) only [sU_ne]
        · rw [if_neg c3]
          simp only [sx, ↓reduceIte]
          exact hx _ (Or.inr (Or.inr rfl))
      · rw [if_neg c2]
        simp only [sx, ↓reduceIte]
        exact hx _ (Or.inr (Or.inr rfl))
  · rw [c_acc_f R E hF6 h]
    simp only [sx, ↓reduceIte]
    exact hx _ (Or.inl rfl)
theorem l_extend (R : Rep M A s τ) (I : Inv cO cF cI s) (p1 p2 p3 : Int32) (Q : hM → Int32 → Prop) (hx : ∀ r, refd r → Q M r) (hq : NX A τ cO cF cI s Q) : wL_extend M (some (A 0 0)) p1 p2 p3 Q := by
  obtain ⟨hO, hO8, hF, hF6, hI, hI4, D, hD, hday⟩ := I.1
  have E := I.2.1
  unfold wL_extend wX4_extend
  simp only [↓rd4e R]
  by_cases h : isinP s cF p1 p2
  · obtain ⟨f, p, rfl, rfl, hf, hp, ha⟩ := isin_acc h
    have ht := acc48 I ha
    rw [c_acc_t R E hF6 hf hp ha]
    obtain ⟨o1, o2, o3, o4, o5, o6, o7, o8, o9, o10, o11⟩ := I.one ha
    have h112 := E.a ha
    cases g3 : inR p3 1 2 with
    | false =>
      simp only [↓(fun (g : Int32 → Prop) => oex (in4 p3 1 2) g), g3, ↓reduceIte, bI_f, bI_t, i10, i20, i30, sx, snf]
      exact hx _ (Or.inr (Or.inl rfl))
    | true =>
      have hq3 : ∃ q, (q = 1 ∨ q = 2) ∧ p3 = nI q := by
        obtain ⟨z1, z2⟩ := inR_t.mp g3
        have z0 : ¬ p3 < 0 := fun z => by
          have y1 := Int32.lt_iff_toInt_lt.mp z
          have y2 := Int32.le_iff_toInt_le.mp z1
          rw [show (1 : Int32).toInt = 1 by decide] at y2
          rw [show (0 : Int32).toInt = 0 by decide] at y1
          omega
        obtain ⟨g, hg1, rfl⟩ := nI_of z0
        have k2 := (nI_leI (b := 2) hg1 (by decide)).mp z2
        have k1 := (nI_leI (a := 1) (by decide) hg1).mp z1
        exact ⟨g, by omega, rfl⟩
      by_cases c1 : s 22 (8 * f + p) = 0
      · cases c2 : hb (s 30 (8 * f + p)) p3 with
        | true =>
          simp only [↓(fun (g : Int32 → Prop) => oex (in4 p3 1 2) g), g3, c1, c2, ↓rd0e R h112, ↓(fun (g : Int32 → Prop) => oex (has4 (s 30 (8 * f + p)) p3) g), ↓reduceIte, bI_f, bI_t, i10, i20, i30, sx, snf]
          exact hx _ (Or.inr (Or.inr rfl))
        | false =>
          obtain ⟨q, hq1, rfl⟩ := hq3
          obtain ⟨r, hr, er⟩ := o7
          rw [er] at c2
          obtain ⟨r', C, C', k1, k2, k3, k4, k5, k6⟩ := extV r hr q hq1 c2
          rw [← er] at c2 k2
          obtain ⟨M1, e1, R1⟩ := wr0_10 R h112 (s 30 (8 * f + p) ||| (1 <<< (nI q &&& 31)))
          have h112' : sU s 30 (8 * f + p) (s 30 (8 * f + p) ||| (1 <<< (nI q &&& 31))) 112 (8 * f + p) = 1 := by
            rw [sU_ne (by decide)]
            exact h112
          simp only [↓(fun (g : Int32 → Prop) => oex (in4 (nI q) 1 2) g), g3, c1, c2, ↓rd0e R h112, ↓(fun (g : Int32 → Prop) => oex (has4 (s 30 (8 * f + p)) (nI q)) g), ↓(fun (g : hM → Prop) => oex e1 g), ↓reduceIte, bI_f, bI_t, i10, i20, i30, sx, snf, ↓rd0e R1 h112', ↓(fun (g : Int32 → Prop) => oex (c_ceiling R1 h112') g)]
          have ec : ceilS (sU s 30 (8 * f + p) (s 30 (8 * f + p) ||| (1 <<< (nI q &&& 31)))) (8 * f + p) = nI C' := by
            rw [ceilS_V, sU_eq, k2]
            exact k4
          rw [ec]
          refine hq M1 _ _ (nI_nref (by omega)) (nI_n9 (by omega)) R1 ⟨InvN_c (by omega) (I.1), ExI_c (by omega) (E), InvO_c (by omega) (I.2.2.1), ?_⟩ (Evo.quiet I (fun g i hg => by simp (disch := omega) only [sU_ne]) (cnt_same fun k => by simp (disch := omega) only [sU_ne])) (fun i => by simp (disch := omega) only [sU_ne])
          obtain ⟨e, m, d1, d2, d3, d4⟩ := o8
          rw [er, k3] at d2
          have d5 := (nI_eq (a := C) (b := m) (by omega) (by omega)).mp d2
          refine InvT_at (t := 8 * f + p) I.2.2.2 ha (fun t2 => ?_) ?_ (fun t2 g e hg => ?_) (fun t2 j e => ?_) (oneT_of (day := s 1 0) (a22 := s 22 (8 * f + p)) (a23 := s 23 (8 * f + p)) (a26 := s 26 (8 * f + p)) (a27 := s 27 (8 * f + p)) (a28 := s 28 (8 * f + p)) (a30 := nI r') (a32 := s 32 (8 * f + p)) (an := s (1001 + 2 * (8 * f + p))) ?_ ?_ ?_ ?_ ?_ ?_ ?_ ?_ (fun j => ?_) ⟨o1, o2, o3, o4, o5, o6, ⟨r', k1, rfl⟩, ⟨e, C', d1, k4, by omega, k6⟩, o9, o10, o11⟩)
          · simp (disch := omega) only [accS_c]
          · simp (disch := omega) only [sU_ne]
          · simp (disch := omega) only [sU_nj e, sU_ne]
          · simp (disch := omega) only [sU_ne]
          · simp (disch := omega) only [sU_ne, sU_eq]
          · simp (disch := omega) only [sU_ne, sU_eq]
          · simp (disch := omega) only [sU_ne, sU_eq]
          · simp (disch := omega) only [sU_ne, sU_eq]
          · simp (disch := omega) only [sU_ne, sU_eq]
          · simp (disch := omega) only [sU_ne, sU_eq]
          · rw [sU_eq]
            exact k2
          · simp (disch := omega) only [sU_ne]
          · simp (disch := omega) only [sU_ne]
      · simp only [↓(fun (g : Int32 → Prop) => oex (in4 p3 1 2) g), g3, c1, ↓rd0e R h112, ↓reduceIte, bI_f, bI_t, i10, i20, i30, sx, snf]
        exact hx _ (Or.inr (Or.inr rfl))
  · rw [c_acc_f R E hF6 h]
    simp only [sx, ↓reduceIte]
    exact hx _ (Or.inl rfl)
theorem l_drop (R : Rep M A s τ) (I : Inv cO cF cI s) (p1 p2 : Int32) (Q : hM → Int32 → Prop) (hx : ∀ r, refd r → Q M r) (hq : NX A τ cO cF cI s Q) : wL_drop M (some (A 0 0)) p1 p2 Q := by
  obtain ⟨hO, hO8, hF, hF6, hI, hI4, D, hD, hday⟩ := I.1
  have E := I.2.1
  unfold wL_drop wX4_drop
  simp only [↓rd4e R]
  by_cases h : isinP s cF p1 p2
  · obtain ⟨f, p, rfl, rfl, hf, hp, ha⟩ := isin_acc h
    have ht := acc48 I ha
    rw [c_acc_t R E hF6 hf hp ha]
    obtain ⟨o1, o2, o3, o4, o5, o6, o7, o8, o9, o10, o11⟩ := I.one ha
    have h112 := E.a ha
    by_cases c1 : s 22 (8 * f + p) = 0
    · obtain ⟨M1, e1, R1⟩ := wr0_2 R h112 1
      simp (disch := omega) only [↓rd0e R h112, c1, ↓(fun (g : hM → Prop) => oex e1 g), ↓reduceIte, bI_f, bI_t, i10, i20, i30, sx, snf, ↓rd4e R1, sU_ne]
      obtain ⟨M2, e2, R2⟩ := wr0_5 R1 (by simp (disch := omega) only [sU_ne]; exact h112) (s 1 0)
      obtain ⟨M3, e3, R3⟩ := wr0_6 R2 (by simp (disch := omega) only [sU_ne]; exact h112) 0 (Or.inl rfl)
      obtain ⟨M4, e4, R4⟩ := wr0_7 R3 (by simp (disch := omega) only [sU_ne]; exact h112) 0 (Or.inl rfl)
      obtain ⟨M5, e5, R5⟩ := wr4_10 R4 (s 37 3 + 1)
      simp (disch := omega) only [↓(fun (g : hM → Prop) => oex e2 g), ↓(fun (g : hM → Prop) => oex e3 g), ↓(fun (g : hM → Prop) => oex e4 g), ↓rd4e R4, sU_ne, ↓(fun (g : hM → Prop) => oex e5 g)]
      refine hq M5 _ 0 nref0 n90 R5 ⟨InvN_c (by omega) (InvN_c (by omega) (InvN_c (by omega) (InvN_c (by omega) (InvN_c (by omega) (I.1))))), ExI_c (by omega) (ExI_c (by omega) (ExI_c (by omega) (ExI_c (by omega) (ExI_c (by omega) (E))))), InvO_c (by omega) (InvO_c (by omega) (InvO_c (by omega) (InvO_c (by omega) (InvO_c (by omega) (I.2.2.1))))), ?_⟩ (Evo.quiet I (fun g i hg => by simp (disch := omega) only [sU_ne]) (cnt_up (j := 3) (c := 1) (fun k => by simp (disch := omega) only [sU_ne]) (by decide))) (fun i => by simp (disch := omega) only [sU_ne])
      refine InvT_at (t := 8 * f + p) I.2.2.2 ha (fun t2 => ?_) ?_ (fun t2 g e hg => ?_) (fun t2 j e => ?_) (oneT_of (day := s 1 0) (a22 := 1) (a23 := s 23 (8 * f + p)) (a26 := 0) (a27 := s 27 (8 * f + p)) (a28 := s 28 (8 * f + p)) (a30 := s 30 (8 * f + p)) (a32 := s 32 (8 * f + p)) (an := s (1001 + 2 * (8 * f + p))) ?_ ?_ ?_ ?_ ?_ ?_ ?_ ?_ (fun j => ?_) ⟨Or.inr (Or.inl rfl), ⟨fun z => absurd z (by decide), fun z => absurd (o2.mpr z) (by rw [c1]; decide)⟩, fun _ => o3 (by rw [c1]; decide), fun _ => rfl, Or.inl rfl, o6, o7, o8, o9, o10, o11⟩)
      · simp (disch := omega) only [accS_c]
      · simp (disch := omega) only [sU_ne]
      · simp (disch := omega) only [sU_nj e, sU_ne]
      · simp (disch := omega) only [sU_ne]
      · simp (disch := omega) only [sU_ne, sU_eq]
      · simp (disch := omega) only [sU_ne, sU_eq]
      · simp (disch := omega) only [sU_ne, sU_eq]
      · simp (disch := omega) only [sU_ne, sU_eq]
      · simp (disch := omega) only [sU_ne, sU_eq]
      · simp (disch := omega) only [sU_ne, sU_eq]
      · simp (disch := omega) only [sU_ne, sU_eq]
      · simp (disch := omega) only [sU_ne, sU_eq]
      · simp (disch := omega) only [sU_ne]
    · simp only [↓rd0e R h112, c1, ↓reduceIte, bI_f, bI_t, i10, i20, i30, sx, snf, ↓rd4e R]
      exact hx _ (Or.inr (Or.inr rfl))
  · rw [c_acc_f R E hF6 h]
    simp only [sx, ↓reduceIte]
    exact hx _ (Or.inl rfl)
theorem l_review (R : Rep M A s τ) (I : Inv cO cF cI s) (p1 p2 : Int32) (Q : hM → Int32 → Prop) (hx : ∀ r, refd r → Q M r) (hq : NX A τ cO cF cI s Q) : wL_review M (some (A 0 0)) p1 p2 Q := by
  obtain ⟨hO, hO8, hF, hF6, hI, hI4, D, hD, hday⟩ := I.1
  have E := I.2.1
  unfold wL_review wX4_review
  simp only [↓rd4e R]
  by_cases h : isinP s cF p1 p2
  · obtain ⟨f, p, rfl, rfl, hf, hp, ha⟩ := isin_acc h
    have ht := acc48 I ha
    rw [c_acc_t R E hF6 hf hp ha]
    obtain ⟨o1, o2, o3, o4, o5, o6, o7, o8, o9, o10, o11⟩ := I.one ha
    have h112 := E.a ha
    by_cases c1 : s 22 (8 * f + p) = 1
    · by_cases c2 : (30 : Int32) < s 1 0 - s 51 (8 * f + p)
      · simp only [↓rd0e R h112, c1, c2, ↓reduceIte, bI_f, bI_t, i10, i20, i30, sx, snf, ↓rd4e R]
        exact hx _ (Or.inr (Or.inr rfl))
      · by_cases c3 : s 25 (8 * f + p) = 0
        · obtain ⟨M1, e1, R1⟩ := wr0_6 R h112 1 (Or.inr rfl)
          have h112' : sU s 25 (8 * f + p) 1 112 (8 * f + p) = 1 := by
            rw [sU_ne (by decide)]
            exact h112
          have E1 : ExI cO cF cI (sU s 25 (8 * f + p) 1) := ExI_c (by omega) E
          have ha1 : accS (sU s 25 (8 * f + p) 1) cF (8 * f + p) = true := by
            rw [accS_c (by omega)]
            exact ha
          simp (disch := omega) only [↓rd0e R h112, c1, c2, c3, ↓(fun (g : hM → Prop) => oex e1 g), ↓reduceIte, bI_f, bI_t, i10, i20, i30, sx, snf, ↓rd4e R, ↓rd4e R1, ↓rd0e R1 h112', sU_ne, ↓(fun (d : Int32) (g : Int32 → Prop) => oex (c_chargeable R1 E1 hO8 ha1 d) g)]
          by_cases c4 : canS (sU s 25 (8 * f + p) 1) cO cI (8 * f + p) (s 51 (8 * f + p)) = 0
          · rw [if_pos c4]
            refine hq M1 _ 0 nref0 n90 R1 ⟨InvN_c (by omega) (I.1), ExI_c (by omega) (E), InvO_c (by omega) (I.2.2.1), ?_⟩ (Evo.quiet I (fun g i hg => by simp (disch := omega) only [sU_ne]) (cnt_same fun k => by simp (disch := omega) only [sU_ne])) (fun i => by simp (disch := omega) only [sU_ne])
            refine InvT_at (t := 8 * f + p) I.2.2.2 ha (fun t2 => ?_) ?_ (fun t2 g e hg => ?_) (fun t2 j e => ?_) (oneT_of (day := s 1 0) (a22 := s 22 (8 * f + p)) (a23 := s 23 (8 * f + p)) (a26 := s 26 (8 * f + p)) (a27 := s 27 (8 * f + p)) (a28 := s 28 (8 * f + p)) (a30 := s 30 (8 * f + p)) (a32 := s 32 (8 * f + p)) (an := s (1001 + 2 * (8 * f + p))) ?_ ?_ ?_ ?_ ?_ ?_ ?_ ?_ (fun j => ?_) ⟨o1, o2, o3, o4, o5, o6, o7, o8, o9, o10, o11⟩)
            · simp (disch := omega) only [accS_c]
            · simp (disch := omega) only [sU_ne]
            · simp (disch := omega) only [sU_nj e, sU_ne]
            · simp (disch := omega) only [sU_ne]
            · simp (disch := omega) only [sU_ne]
            · simp (disch := omega) only [sU_ne]
            · simp (disch := omega) only [sU_ne]
            · simp (disch := omega) only [sU_ne]
            · simp (disch := omega) only [sU_ne]
            · simp (disch := omega) only [sU_ne]
            · simp (disch := omega) only [sU_ne]
            · simp (disch := omega) only [sU_ne]
            · simp (disch := omega) only [sU_ne]
          · rw [if_neg c4]
            obtain ⟨M2, e2, R2⟩ := wr0_2 R1 h112' 0
            obtain ⟨M3, e3, R3⟩ := wr4_11 R2 (s 37 4 + 1)
            simp (disch := omega) only [↓(fun (g : hM → Prop) => oex e2 g), ↓rd4e R2, sU_ne, ↓(fun (g : hM → Prop) => oex e3 g), ↓reduceIte, i10]
            refine hq M3 _ 1 nref1 n91 R3 ⟨InvN_c (by omega) (InvN_c (by omega) (InvN_c (by omega) (I.1))), ExI_c (by omega) (ExI_c (by omega) (ExI_c (by omega) (E))), InvO_c (by omega) (InvO_c (by omega) (InvO_c (by omega) (I.2.2.1))), ?_⟩ (Evo.quiet I (fun g i hg => by simp (disch := omega) only [sU_ne]) (cnt_up (j := 4) (c := 1) (fun k => by simp (disch := omega) only [sU_ne]) (by decide))) (fun i => by simp (disch := omega) only [sU_ne])
            refine InvT_at (t := 8 * f + p) I.2.2.2 ha (fun t2 => ?_) ?_ (fun t2 g e hg => ?_) (fun t2 j e => ?_) (oneT_of (day := s 1 0) (a22 := 0) (a23 := s 23 (8 * f + p)) (a26 := s 26 (8 * f + p)) (a27 := s 27 (8 * f + p)) (a28 := s 28 (8 * f + p)) (a30 := s 30 (8 * f + p)) (a32 := s 32 (8 * f + p)) (an := s (1001 + 2 * (8 * f + p))) ?_ ?_ ?_ ?_ ?_ ?_ ?_ ?_ (fun j => ?_) ⟨Or.inl rfl, ⟨fun z => absurd z (by decide), fun z => absurd (o2.mpr z) (by rw [c1]; decide)⟩, fun _ => o3 (by rw [c1]; decide), fun z => absurd z (by decide), o5, o6, o7, o8, o9, o10, o11⟩)
            · simp (disch := omega) only [accS_c]
            · simp (disch := omega) only [sU_ne]
            · simp (disch := omega) only [sU_nj e, sU_ne]
            · simp (disch := omega) only [sU_ne]
            · simp (disch := omega) only [sU_ne, sU_eq]
            · simp (disch := omega) only [sU_ne, sU_eq]
            · simp (disch := omega) only [sU_ne, sU_eq]
            · simp (disch := omega) only [sU_ne, sU_eq]
            · simp (disch := omega) only [sU_ne, sU_eq]
            · simp (disch := omega) only [sU_ne, sU_eq]
            · simp (disch := omega) only [sU_ne, sU_eq]
            · simp (disch := omega) only [sU_ne, sU_eq]
            · simp (disch := omega) only [sU_ne]
        · simp only [↓rd0e R h112, c1, c2, c3, ↓reduceIte, bI_f, bI_t, i10, i20, i30, sx, snf, ↓rd4e R]
          exact hx _ (Or.inr (Or.inr rfl))
    · simp only [↓rd0e R h112, c1, ↓reduceIte, bI_f, bI_t, i10, i20, i30, sx, snf, ↓rd4e R]
      exact hx _ (Or.inr (Or.inr rfl))
  · rw [c_acc_f R E hF6 h]
    simp only [sx, ↓reduceIte]
    exact hx _ (Or.inl rfl)
end OPS
