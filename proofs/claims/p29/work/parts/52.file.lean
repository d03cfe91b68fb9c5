/-! ===== a file is opened ===== -/
theorem sV_over {s : hσ} {f j : Nat} {x : Int32} {g : Nat → Int32} : sV (sU s f j x) f g = sV s f g := by
  funext a i
  unfold sV sU
  by_cases e : a = f
  · rw [if_pos e, if_pos e]
  · rw [if_neg e, if_neg e, if_neg (fun q => e q.1)]
theorem sV_id {s : hσ} {f : Nat} {g : Nat → Int32} (h : ∀ i, g i = s f i) : sV s f g = s := by
  funext a i
  unfold sV
  by_cases e : a = f
  · rw [if_pos e, e, h i]
  · rw [if_neg e]
theorem new5 {M : hM} {A : hAd} {s τ : hσ} (R : Rep M A s τ) {t : Nat} (h7 : s 7 0 = nI t) (h115 : s 115 t = 0) (h111 : s 111 t ≠ 1) (hrow : ∀ k, s (1000 + 2 * t) k ≠ 1) (h112 : ∀ j, j / 8 = t → s 112 j ≠ 1) (a b c : Int32) (Q : Nat → hM → Prop) (k : ∀ (M' : hM) (A' : hAd), Rep M' A' (sU (sU (sU (sU (sU s 118 t 1) 111 t 1) 8 t a) 9 t b) 10 t c) τ → (∀ i j, i ≠ 5 → i ≠ 6 → A' i j = A i j) → Q (A' 5 t) M') : ∀ q : Nat, M q = none → ∃ x, gI (hst M q (.inr (1, [.int 0, .int 0, .int 0, .int 0, .null]))) 4 4 (some (A 0 0)) = some x ∧ wX1_init (hst M q (.inr (1, [.int 0, .int 0, .int 0, .int 0, .null]))) q x a b c (Q q) := by
  intro q hq
  refine ⟨nI t, gI_at (at_off R hq _) (by rw [← h7]; rfl), ?_⟩
  unfold wX1_init
  intro q1 hq1
  have hne : q1 ≠ q := fun z => by
    rw [z, hst_s] at hq1
    cases hq1
  have hM1 : M q1 = none := by rwa [hst_n _ _ hne] at hq1
  rw [hst_cm _ _ _ (Ne.symm hne)]
  refine Eq.mpr (oex (pV_at (hst_s _ _ _) (by simp)) _) ?_
  refine Eq.mpr (oex (pV_at (hst_s _ _ _) (by simp)) _) ?_
  refine Eq.mpr (oex (pV_at (hst_s _ _ _) (by simp)) _) ?_
  refine Eq.mpr (oex (pV_at (hst_s _ _ _) (by simp)) _) ?_
  refine Eq.mpr (oex (pV_at (hst_s _ _ _) (by simp)) _) ?_
  rw [hst_ss, hst_ss, hst_ss, hst_ss, hst_ss]
  have R1 := nw6 R hM1 h111 hrow
  have R2 := nw5 R1 (q := q) (t := t) (by rw [hst_n _ _ (Ne.symm hne)]; exact hq) (by rw [sU_ne (by decide)]; exact h115) (fun j hj => by rw [sU_ne (by decide)]; exact h112 j hj) a b c
  have h := k _ _ R2 (fun i j h5 h6 => (aU_off (by omega)).trans (aU_off (by omega)))
  simp only [aU_eq] at h
  exact h
def gK (s : hσ) (t k i : Nat) : Int32 := if (decide (k ≤ i) && decide (i < 8)) = true then -1 else s (1001 + 2 * t) i
theorem lo_init {A : hAd} {S τ : hσ} {t : Nat} {Q : hM → Prop} (kq : ∀ M' : hM, Rep M' A S τ → Q M') : ∀ n k (M : hM) (s : hσ), Rep M A s τ → s 112 t = 1 → s 119 t = 1 → sV s (1001 + 2 * t) (gK s t k) = S → k ≤ 8 → 8 - k < n → lX0_init_29 (A 7 t) Q n M (nI k) := by
  intro n
  induction n with
  | zero =>
    intro k M s R h1 h2 h3 h4 h5
    omega
  | succ n ih =>
    intro k M s R h1 h2 h3 h4 h5
    rw [lX0_init_29]
    simp (disch := exact h2) only [↓rd0e R h1, ↓rdLe R]
    by_cases e0 : k < 8
    · have e1 : ¬ 8 ≤ k := by omega
      rw [if_neg (by rw [l8 (by omega)]; exact e1)]
      obtain ⟨M1, e, R1⟩ := wr8 R h2 e0 (-1)
      rw [oex e, nI_1]
      refine ih (k + 1) M1 _ R1 (by rw [sU_ne (by omega)]; exact h1) (by rw [sU_ne (by omega)]; exact h2) ?_ (by omega) (by omega)
      rw [sV_over, ← h3]
      refine congrArg (sV s (1001 + 2 * t)) (funext fun i => ?_)
      unfold gK
      by_cases e : i = k
      · subst e
        rw [sU_eq, decide_eq_false (show ¬ i + 1 ≤ i by omega), Bool.false_and, if_neg (by decide), if_pos (by simp [e0])]
      · have : (k + 1 ≤ i) ↔ (k ≤ i) := by omega
        rw [sU_nj e, decide_eq_decide.mpr this]
    · have e1 : k = 8 := by omega
      subst e1
      rw [if_pos (by decide)]
      have hg : sV s (1001 + 2 * t) (gK s t 8) = s := sV_id fun i => by
        unfold gK
        rw [if_neg]
        intro q
        simp only [Bool.and_eq_true, decide_eq_true_eq] at q
        omega
      rw [hg] at h3
      subst h3
      exact kq M R
def newS (s : hσ) (t : Nat) : hσ := sV (sU (sU s 119 t 1) 112 t 1) (1001 + 2 * t) (fun i => if i < 8 then -1 else 0)
theorem newS_lo {s : hσ} {t g i : Nat} (h : g < 1000 ∧ g ≠ 112 ∧ g ≠ 119) : newS s t g i = s g i := by
  unfold newS
  simp (disch := omega) only [sV_ne, sU_ne]
theorem newS_112 {s : hσ} {t i g : Nat} (hg : g = 112 ∨ g = 119) : newS s t g i = if i = t then 1 else s g i := by
  unfold newS
  rcases hg with rfl | rfl
  · by_cases e : i = t
    · subst e
      rw [if_pos rfl, sV_ne (by omega), sU_eq]
    · rw [if_neg e, sV_ne (by omega), sU_nj e, sU_ne (by omega)]
  · by_cases e : i = t
    · subst e
      rw [if_pos rfl, sV_ne (by omega), sU_ne (by omega), sU_eq]
    · rw [if_neg e, sV_ne (by omega), sU_ne (by omega), sU_nj e]
theorem newS_row {s : hσ} {t g i : Nat} : newS s t (1000 + 2 * g) i = s (1000 + 2 * g) i := by
  unfold newS
  simp (disch := omega) only [sV_ne, sU_ne]
theorem newS_F {s : hσ} {t u i : Nat} : newS s t (1001 + 2 * u) i = if u = t then (if i < 8 then -1 else 0) else s (1001 + 2 * u) i := by
  unfold newS
  by_cases e : u = t
  · subst e
    rw [if_pos rfl, sV_eq]
  · rw [if_neg e, sV_ne (by omega), sU_ne (by omega), sU_ne (by omega)]
theorem newS_0 {s : hσ} {t : Nat} : sV (sU (sV (sU s 119 t 1) (1001 + 2 * t) (fun _ => 0)) 112 t 1) (1001 + 2 * t) (gK (sU (sV (sU s 119 t 1) (1001 + 2 * t) (fun _ => 0)) 112 t 1) t 0) = newS s t := by
  unfold newS
  funext a i
  by_cases e : a = 1001 + 2 * t
  · subst e
    rw [sV_eq, sV_eq]
    unfold gK
    rw [sU_ne (by omega), sV_eq, decide_eq_true (Nat.zero_le i), Bool.true_and]
    by_cases h : i < 8
    · rw [if_pos (decide_eq_true h), if_pos h]
    · rw [if_neg (by rw [decide_eq_false h]; decide), if_neg h]
  · rw [sV_ne e, sV_ne e]
    unfold sU
    by_cases e2 : a = 112 ∧ i = t
    · rw [if_pos e2, if_pos e2]
    · rw [if_neg e2, if_neg e2, sV_ne e]
theorem new7 {M : hM} {A : hAd} {s τ : hσ} (R : Rep M A s τ) {f p : Nat} (hp : p < 8) (hrow : ∀ g r, 8 * f + p = 8 * g + r → s (1000 + 2 * g) r ≠ 1) (h112 : s 112 (8 * f + p) ≠ 1) (z : unb s (8 * f + p)) (Q : Nat → hM → Prop) (k : ∀ (M' : hM) (A' : hAd), Rep M' A' (newS s (8 * f + p)) τ → (∀ i j, i ≠ 7 → i ≠ 8 → A' i j = A i j) → Q (A' 7 (8 * f + p)) M') : ∀ q : Nat, M q = none → wX0_init (hst M q (.inr (0, [.null, .int 0, .int 0, .int 0, .int 0, .int 0, .int 0, .int 0, .int 0, .int 0, .int 0, .int 0, .int 0, .null]))) q (some (A 5 f)) (nI p) (Q q) := by
  intro q hq
  unfold wX0_init
  refine Eq.mpr (oex (pV_at (hst_s _ _ _) (by simp)) _) ?_
  intro q2 hq2
  rw [hst_ss] at hq2 ⊢
  have hne : q2 ≠ q := fun z => by
    rw [z, hst_s] at hq2
    cases hq2
  have hM2 : M q2 = none := by rwa [hst_n _ _ hne] at hq2
  rw [hst_cm _ _ _ (Ne.symm hne)]
  refine Eq.mpr (oex (pV_at (hst_s _ _ _) (by simp)) _) ?_
  refine Eq.mpr (oex (pV_at (hst_s _ _ _) (by simp)) _) ?_
  refine Eq.mpr (oex (pV_at (hst_s _ _ _) (by simp)) _) ?_
  rw [hst_ss, hst_ss, hst_ss]
  obtain ⟨z22, z23, z25, z26, z27, z28, z30, z31, z32, z50, z51⟩ := z
  have R1 := nw8 R hM2 h112 (fun _ => 0)
  have lo : ∀ g, g < 1000 → g ≠ 119 → sV (sU s 119 (8 * f + p) 1) (1001 + 2 * (8 * f + p)) (fun _ => 0) g (8 * f + p) = s g (8 * f + p) := fun g h1 h2 => by
    rw [sV_ne (by omega), sU_ne h2]
  have R2 := nw7 R1 (q := q) (t := 8 * f + p) (by rw [hst_n _ _ (Ne.symm hne)]; exact hq) (fun g r e => by
    rw [sV_ne (by omega), sU_ne (by omega)]
    exact hrow g r e) ((lo 22 (by decide) (by decide)).trans z22) ((lo 23 (by decide) (by decide)).trans z23) ((lo 50 (by decide) (by decide)).trans z50) ((lo 51 (by decide) (by decide)).trans z51) ((lo 25 (by decide) (by decide)).trans z25) ((lo 26 (by decide) (by decide)).trans z26) ((lo 27 (by decide) (by decide)).trans z27) ((lo 28 (by decide) (by decide)).trans z28) ((lo 30 (by decide) (by decide)).trans z30) ((lo 31 (by decide) (by decide)).trans z31) ((lo 32 (by decide) (by decide)).trans z32)
  rw [show (8 * f + p) / 8 = f by omega, show (8 * f + p) % 8 = p by omega, aU_eq, aU_off (show ¬ (5 = 8 ∧ f = 8 * f + p) by omega)] at R2
  have h := lo_init (A := aU (aU A 8 (8 * f + p) q2) 7 (8 * f + p) q) (t := 8 * f + p) (Q := Q q) (fun M' R' => by
    have h2 := k M' _ R' (fun i j h7 h8 => (aU_off (by omega)).trans (aU_off (by omega)))
    rw [aU_eq] at h2
    exact h2) 1000 0 _ _ R2 (sU_eq _ _ _ _) (by rw [sU_ne (by decide), sV_ne (by omega), sU_eq]) newS_0 (by omega) (by omega)
  rw [aU_eq] at h
  exact h
def stF (s : hσ) (f : Nat) (a : Int32) (j : Nat) : hσ := if hb a (nI j) = true then sU (newS s (8 * f + j)) (1000 + 2 * f) j 1 else s
def foF (s : hσ) (f : Nat) (a : Int32) : Nat → hσ
  | 0 => s
  | j + 1 => stF (foF s f a j) f a j
theorem foF_lo {s : hσ} {f : Nat} {a : Int32} {g i : Nat} (h : g < 1000 ∧ g ≠ 112 ∧ g ≠ 119) : ∀ j, foF s f a j g i = s g i
  | 0 => rfl
  | j + 1 => by
    rw [foF]
    unfold stF
    by_cases e : hb a (nI j) = true
    · rw [if_pos e, sU_ne (by omega), newS_lo h, foF_lo h j]
    · rw [if_neg e, foF_lo h j]
theorem foF_112 {s : hσ} {f : Nat} {a : Int32} {g i : Nat} (hg : g = 112 ∨ g = 119) : ∀ j, j ≤ 8 → foF s f a j g i = if (decide (i / 8 = f) && (decide (i % 8 < j) && hb a (nI (i % 8)))) = true then 1 else s g i
  | 0, _ => by
    rw [decide_eq_false (show ¬ i % 8 < 0 by omega), Bool.false_and, Bool.and_false]
    rfl
  | j + 1, hj => by
    rw [foF]
    unfold stF
    have ih := foF_112 (s := s) (f := f) (a := a) (i := i) hg j (by omega)
    by_cases e : hb a (nI j) = true
    · rw [if_pos e, sU_ne (by omega), newS_112 hg]
      by_cases e2 : i = 8 * f + j
      · rw [if_pos e2, show i / 8 = f by omega, show i % 8 = j by omega, e, decide_eq_true rfl, decide_eq_true (show j < j + 1 by omega)]
        rfl
      · rw [if_neg e2, ih]
        by_cases e3 : i / 8 = f
        · have : (i % 8 < j) ↔ (i % 8 < j + 1) := by omega
          rw [decide_eq_decide.mpr this]
        · rw [decide_eq_false e3, Bool.false_and, Bool.false_and]
    · rw [if_neg e, ih]
      by_cases e2 : i % 8 = j
      · rw [e2, Bool.not_eq_true _ |>.mp e]
        simp only [Bool.and_false]
      · have : (i % 8 < j) ↔ (i % 8 < j + 1) := by omega
        rw [decide_eq_decide.mpr this]
theorem foF_row {s : hσ} {f : Nat} {a : Int32} {g r : Nat} : ∀ j, foF s f a j (1000 + 2 * g) r = if (decide (g = f) && (decide (r < j) && hb a (nI r))) = true then 1 else s (1000 + 2 * g) r
  | 0 => by
    rw [decide_eq_false (show ¬ r < 0 by omega), Bool.false_and, Bool.and_false]
    rfl
  | j + 1 => by
    rw [foF]
    unfold stF
    have ih := foF_row (s := s) (f := f) (a := a) (g := g) (r := r) j
    by_cases e : hb a (nI j) = true
    · rw [if_pos e]
      by_cases e2 : g = f ∧ r = j
      · obtain ⟨rfl, rfl⟩ := e2
        rw [sU_eq, e, decide_eq_true rfl, decide_eq_true (show r < r + 1 by omega)]
        rfl
      · rw [sU_off (by omega), newS_row, ih]
        by_cases e3 : g = f
        · have : (r < j) ↔ (r < j + 1) := by omega
          rw [decide_eq_decide.mpr this]
        · rw [decide_eq_false e3, Bool.false_and, Bool.false_and]
    · rw [if_neg e, ih]
      by_cases e2 : r = j
      · rw [e2, Bool.not_eq_true _ |>.mp e]
        simp only [Bool.and_false]
      · have : (r < j) ↔ (r < j + 1) := by omega
        rw [decide_eq_decide.mpr this]
theorem foF_F {s : hσ} {f : Nat} {a : Int32} {u i : Nat} : ∀ j, j ≤ 8 → foF s f a j (1001 + 2 * u) i = if (decide (u / 8 = f) && (decide (u % 8 < j) && hb a (nI (u % 8)))) = true then (if i < 8 then -1 else 0) else s (1001 + 2 * u) i
  | 0, _ => by
    rw [decide_eq_false (show ¬ u % 8 < 0 by omega), Bool.false_and, Bool.and_false]
    rfl
  | j + 1, hj => by
    rw [foF]
    unfold stF
    have ih := foF_F (s := s) (f := f) (a := a) (u := u) (i := i) j (by omega)
    by_cases e : hb a (nI j) = true
    · rw [if_pos e, sU_ne (by omega), newS_F]
      by_cases e2 : u = 8 * f + j
      · rw [if_pos e2, show u / 8 = f by omega, show u % 8 = j by omega, e, decide_eq_true rfl, decide_eq_true (show j < j + 1 by omega)]
        rfl
      · rw [if_neg e2, ih]
        by_cases e3 : u / 8 = f
        · have : (u % 8 < j) ↔ (u % 8 < j + 1) := by omega
          rw [decide_eq_decide.mpr this]
        · rw [decide_eq_false e3, Bool.false_and, Bool.false_and]
    · rw [if_neg e, ih]
      by_cases e2 : u % 8 = j
      · rw [e2, Bool.not_eq_true _ |>.mp e]
        simp only [Bool.and_false]
      · have : (u % 8 < j) ↔ (u % 8 < j + 1) := by omega
        rw [decide_eq_decide.mpr this]
theorem lo_file {τ : hσ} {f : Nat} {a2 : Int32} {a0 a5 : Nat} {z : Nat → Nat} {Q : hM → Int32 → Prop} {X : String → hM → Prop} {s0 : hσ} (hf6 : f < 6) (h111 : s0 111 f = 1) (h118 : s0 118 f = 1) (h7 : s0 7 0 = nI f) (hz : ∀ p, p < 8 → s0 112 (8 * f + p) ≠ 1 ∧ unb s0 (8 * f + p)) (hrow : ∀ g r p, p < 8 → 8 * f + p = 8 * g + r → s0 (1000 + 2 * g) r ≠ 1)
    (kq : ∀ (M' : hM) (A' : hAd), Rep M' A' (sU (sU (foF s0 f a2 8) 115 f 1) 7 0 (nI (f + 1))) τ → (A' 0 0 = a0 ∧ ∀ k, A' 11 k = z k) → Q M' (nI f)) :
    ∀ n j (M : hM) (A : hAd), Rep M A (foF s0 f a2 j) τ → (A 0 0 = a0 ∧ (∀ k, A 11 k = z k) ∧ A 5 f = a5) → j ≤ 8 → 8 - j < n → lX4_file_85 a0 Q X a2 (some a5) n M (nI j) := by
  intro n
  induction n with
  | zero =>
    intro j M A R hA h1 h2
    omega
  | succ n ih =>
    intro j M A R hA h1 h2
    obtain ⟨x0, x11, x5⟩ := hA
    have g111 : foF s0 f a2 j 111 f = 1 := (foF_lo (by omega) j).trans h111
    have g118 : foF s0 f a2 j 118 f = 1 := (foF_lo (by omega) j).trans h118
    have g7 : foF s0 f a2 j 7 0 = nI f := (foF_lo (by omega) j).trans h7
    rw [← x0, ← x5, lX4_file_85]
    simp (disch := exact g118) only [↓rd1e R g111, ↓rdLe R]
    by_cases e0 : j < 8
    · have e1 : ¬ 8 ≤ j := by omega
      rw [if_neg (by rw [l8 (by omega)]; exact e1)]
      simp only [↓(fun (g : Int32 → Prop) => oex (has4 a2 (nI j)) g), nI_1, bI_0]
      cases c1 : hb a2 (nI j) with
      | false =>
        rw [if_pos rfl]
        have hs : foF s0 f a2 (j + 1) = foF s0 f a2 j := by
          rw [foF]
          unfold stF
          rw [if_neg (by rw [c1]; decide)]
        have q := ih (j + 1) M A (by rw [hs]; exact R) ⟨x0, x11, x5⟩ (by omega) (by omega)
        rw [← x0, ← x5] at q
        exact q
      | true =>
        rw [if_neg (by decide)]
        have hs : foF s0 f a2 (j + 1) = sU (newS (foF s0 f a2 j) (8 * f + j)) (1000 + 2 * f) j 1 := by
          rw [foF]
          unfold stF
          rw [if_pos c1]
        obtain ⟨hz1, hz2⟩ := hz j e0
        refine new7 R e0 (fun g r e => ?_) ?_ (unb_cong (fun g hg => foF_lo (by omega) j) hz2) _ (fun M1 A1 R1 y => ?_)
        · rw [foF_row]
          have hne : ¬ (decide (g = f) && (decide (r < j) && hb a2 (nI r))) = true := fun z => by
            simp only [Bool.and_eq_true, decide_eq_true_eq] at z
            omega
          rw [if_neg hne]
          exact hrow g r j e0 e
        · rw [foF_112 (Or.inl rfl) j (by omega), show (8 * f + j) % 8 = j by omega, decide_eq_false (show ¬ j < j by omega), Bool.false_and, Bool.and_false, if_neg (by decide)]
          exact hz1
        · have y6 : A1 6 f = A 6 f := y 6 f (by omega) (by omega)
          obtain ⟨M2, e2, R2⟩ := wrR6 R1 e0 ((newS_lo (by omega)).trans g118) (by rw [newS_112 (Or.inl rfl), if_pos rfl])
          rw [← y6, oex e2]
          have q := ih (j + 1) M2 A1 (by rw [hs]; exact R2) ⟨(y 0 0 (by omega) (by omega)).trans x0, fun k => (y 11 k (by omega) (by omega)).trans (x11 k), (y 5 f (by omega) (by omega)).trans x5⟩ (by omega) (by omega)
          rw [← x0, ← x5] at q
          exact q
    · have e1 : j = 8 := by omega
      subst e1
      rw [if_pos (by decide)]
      obtain ⟨M1, e1, R1⟩ := wrR2 R hf6 g111
      obtain ⟨M2, e2, R2⟩ := wr4_4 R1 (nI (f + 1))
      simp (disch := omega) only [↓rd4e R, g7, ↓(fun (g : hM → Prop) => oex e1 g), ↓rd4e R1, sU_ne, nI_1, ↓(fun (g : hM → Prop) => oex e2 g), ↓rd1e R2 (by simp (disch := omega) only [sU_ne]; exact g111)]
      exact kq M2 A R2 ⟨x0, x11⟩
def filB (σ : hσ) (c : Nat) (a1 a2 a3 : Int32) : hσ := sU (sU (sU (sU (sU σ 118 c 1) 111 c 1) 8 c a1) 9 c a2) 10 c a3
def filS (σ : hσ) (c : Nat) (a1 a2 a3 : Int32) : hσ := sU (sU (foF (filB σ c a1 a2 a3) c a2 8) 115 c 1) 7 0 (nI (c + 1))
theorem filS_x {σ : hσ} {c : Nat} {a1 a2 a3 : Int32} (g k : Nat) (h : (g < 7 ∨ 10 < g) ∧ g < 1000 ∧ g ≠ 111 ∧ g ≠ 112 ∧ g ≠ 115 ∧ g ≠ 118 ∧ g ≠ 119) : filS σ c a1 a2 a3 g k = σ g k := by
  unfold filS filB
  rw [sU_ne (by omega), sU_ne (by omega), foF_lo (by omega)]
  simp (disch := omega) only [sU_ne]
section FIL
variable {cO cF cI : Nat} {σ : hσ} {a1 a2 a3 : Int32}
theorem fil_key : ∀ g, g = 111 ∨ g = 118 ∨ g = 115 → ∀ k, filS σ cF a1 a2 a3 g k = if k = cF then 1 else σ g k := by
  rintro g (rfl | rfl | rfl) k
  · unfold filS filB
    rw [sU_ne (by decide), sU_ne (by decide), foF_lo (by omega)]
    by_cases e : k = cF
    · subst e
      rw [if_pos rfl]
      simp (disch := omega) only [sU_ne, sU_eq]
    · rw [if_neg e]
      simp (disch := omega) only [sU_ne, sU_nj e]
  · unfold filS filB
    rw [sU_ne (by decide), sU_ne (by decide), foF_lo (by omega)]
    by_cases e : k = cF
    · subst e
      rw [if_pos rfl]
      simp (disch := omega) only [sU_ne, sU_eq]
    · rw [if_neg e]
      simp (disch := omega) only [sU_ne, sU_nj e]
  · unfold filS filB
    rw [sU_ne (by decide)]
    by_cases e : k = cF
    · subst e
      rw [if_pos rfl, sU_eq]
    · rw [if_neg e, sU_nj e, foF_lo (by omega)]
      simp (disch := omega) only [sU_ne]
theorem fil_nine : ∀ k, filS σ cF a1 a2 a3 9 k = if k = cF then a2 else σ 9 k := fun k => by
  unfold filS filB
  rw [sU_ne (by decide), sU_ne (by decide), foF_lo (by omega)]
  by_cases e : k = cF
  · subst e
    rw [if_pos rfl]
    simp (disch := omega) only [sU_ne, sU_eq]
  · rw [if_neg e]
    simp (disch := omega) only [sU_ne, sU_nj e]
theorem fil_acc1 : ∀ t, t / 8 = cF → accS (filS σ cF a1 a2 a3) (cF + 1) t = hb a2 (nI (t % 8)) ∧ accS σ cF t = false := fun t e => by
  unfold accS
  rw [e, fil_nine, if_pos rfl, decide_eq_true (show cF < cF + 1 by omega), decide_eq_false (show ¬ cF < cF by omega), Bool.true_and, Bool.false_and]
  exact ⟨rfl, rfl⟩
theorem fil_acc2 : ∀ t, t / 8 ≠ cF → accS (filS σ cF a1 a2 a3) (cF + 1) t = accS σ cF t := fun t e => by
  unfold accS
  have : t / 8 < cF + 1 ↔ t / 8 < cF := by omega
  rw [fil_nine, if_neg e, decide_eq_decide.mpr this]
theorem fil_accI : ∀ t, accS σ cF t = true → accS (filS σ cF a1 a2 a3) (cF + 1) t = true := fun t q => by
  rw [fil_acc2 t (by have := accS_f q; omega)]
  exact q
theorem fil_ten {g k : Nat} (h : g = 8 ∨ g = 10) (e : k ≠ cF) : filS σ cF a1 a2 a3 g k = σ g k := by
  unfold filS filB
  rcases h with rfl | rfl <;> rw [sU_ne (by decide), sU_ne (by decide), foF_lo (by omega)] <;> simp (disch := omega) only [sU_ne, sU_nj e]
theorem fil_F {t j : Nat} : filS σ cF a1 a2 a3 (1001 + 2 * t) j = if (decide (t / 8 = cF) && hb a2 (nI (t % 8))) = true then (if j < 8 then -1 else 0) else σ (1001 + 2 * t) j := by
  unfold filS filB
  rw [sU_ne (by omega), sU_ne (by omega), foF_F 8 (by omega)]
  simp (disch := omega) only [sU_ne]
  rw [decide_eq_true (show t % 8 < 8 by omega), Bool.true_and]
theorem Inv_file (I : Inv cO cF cI σ) (h6 : cF < 6) : Inv cO (cF + 1) cI (filS σ cF a1 a2 a3) := by
  obtain ⟨hO, hO8, hF, hF6, hI, hI4, D, hD, hday⟩ := I.1
  have E := I.2.1
  have ex : ∀ g, g = 112 ∨ g = 119 → (∀ t, σ g t = bI (accS σ cF t)) → ∀ t, filS σ cF a1 a2 a3 g t = bI (accS (filS σ cF a1 a2 a3) (cF + 1) t) := fun g hg q t => by
    have e0 : filS σ cF a1 a2 a3 g t = if (decide (t / 8 = cF) && (decide (t % 8 < 8) && hb a2 (nI (t % 8)))) = true then 1 else σ g t := by
      unfold filS filB
      rw [sU_ne (by omega), sU_ne (by omega), foF_112 hg 8 (by omega)]
      simp (disch := omega) only [sU_ne]
    rw [e0, decide_eq_true (show t % 8 < 8 by omega), Bool.true_and]
    by_cases e : t / 8 = cF
    · obtain ⟨q1, q2⟩ := fil_acc1 t e
      rw [q1, decide_eq_true e, Bool.true_and, q t, q2]
      rfl
    · rw [fil_acc2 t e, decide_eq_false e, Bool.false_and, if_neg (by decide)]
      exact q t
  refine ⟨⟨?_, hO8, ?_, by omega, ?_, hI4, D, hD, ?_⟩, ⟨fun k => ?_, fun k => ?_, fun k => ?_, fun k => ?_, fun k => ?_, fun k => ?_, fun k => ?_, ?_, ?_, fun f p => ?_, ?_⟩, ⟨fun k hk => ?_, fun x y hx hy => ?_, fun x y hx hy1 hy2 => ?_⟩, fun t ht => ?_⟩
  · rw [filS_x 2 _ (by decide)]
    exact hO
  · unfold filS
    rw [sU_eq]
  · rw [filS_x 11 _ (by decide)]
    exact hI
  · rw [filS_x 1 _ (by decide)]
    exact hday
  · rw [filS_x 110 _ (by decide)]
    exact E.1 k
  · rw [filS_x 114 _ (by decide)]
    exact E.2.1 k
  · rw [fil_key 111 (Or.inl rfl) k, up1, E.2.2.1 k]
  · rw [fil_key 115 (Or.inr (Or.inr rfl)) k, up1, E.2.2.2.1 k]
  · rw [fil_key 118 (Or.inr (Or.inl rfl)) k, up1, E.2.2.2.2.1 k]
  · rw [filS_x 113 _ (by decide)]
    exact E.2.2.2.2.2.1 k
  · rw [filS_x 116 _ (by decide)]
    exact E.2.2.2.2.2.2.1 k
  · exact ex 112 (Or.inl rfl) E.2.2.2.2.2.2.2.1
  · exact ex 119 (Or.inr rfl) E.2.2.2.2.2.2.2.2.1
  · have e0 : filS σ cF a1 a2 a3 (1000 + 2 * f) p = if (decide (f = cF) && (decide (p < 8) && hb a2 (nI p))) = true then 1 else σ (1000 + 2 * f) p := by
      unfold filS filB
      rw [sU_ne (by omega), sU_ne (by omega), foF_row]
      simp (disch := omega) only [sU_ne]
    rw [e0, E.2.2.2.2.2.2.2.2.2.1 f p]
    by_cases hp : p < 8
    · rw [decide_eq_true hp, Bool.true_and, Bool.true_and, Bool.true_and]
      by_cases e : f = cF
      · obtain ⟨q1, q2⟩ := fil_acc1 (cF := cF) (σ := σ) (a1 := a1) (a2 := a2) (a3 := a3) (8 * f + p) (by omega)
        rw [q1, q2, decide_eq_true e, Bool.true_and, show (8 * f + p) % 8 = p by omega]
        rfl
      · rw [fil_acc2 (8 * f + p) (by omega), decide_eq_false e, Bool.false_and, if_neg (by decide)]
    · rw [decide_eq_false hp, Bool.false_and, Bool.false_and, Bool.false_and, Bool.and_false, if_neg (by decide)]
  · rw [filS_x 120 _ (by decide)]
    exact E.out
  · rw [filS_x 4 _ (by decide)]
    exact I.2.2.1.1 k hk
  · rw [filS_x 6 _ (by decide), filS_x 6 _ (by decide)]
    exact I.2.2.1.2.1 x y hx hy
  · rw [filS_x 6 _ (by decide)]
    exact I.2.2.1.2.2 x y hx hy1 hy2
  · obtain ⟨q1, q2⟩ := I.2.2.2 t ht
    have old : accS σ cF t = false → unb (filS σ cF a1 a2 a3) t := fun q => unb_cong (fun g hg => filS_x g t (by omega)) (q1 q)
    constructor
    · intro z
      refine old ?_
      cases c : accS σ cF t with
      | false => rfl
      | true =>
        rw [fil_accI t c] at z
        cases z
    · intro z
      by_cases e : t / 8 = cF
      · obtain ⟨y1, y2⟩ := fil_acc1 (σ := σ) (a1 := a1) (a2 := a2) (a3 := a3) t e
        rw [y1] at z
        obtain ⟨z22, z23, z25, z26, z27, z28, z30, z31, z32, z50, z51⟩ := old y2
        refine oneT_of (day := σ 1 0) (a22 := 0) (a23 := 0) (a26 := 0) (a27 := 0) (a28 := 0) (a30 := 0) (a32 := 0) (an := fun j => if j < 8 then -1 else 0) (filS_x 1 0 (by decide)) z22 z23 z26 z27 z28 z30 z32 (fun j => ?_) ⟨Or.inl rfl, ⟨fun q => absurd q (by decide), fun q => absurd rfl q⟩, fun _ => rfl, fun _ => rfl, Or.inl rfl, ⟨0, Nat.two_pow_pos cO, nI_0.symm⟩, ⟨0, Or.inl rfl, nI_0.symm⟩, ⟨0, 4, nI_0.symm, by decide, by omega, by omega⟩, ⟨0, by omega, nI_0.symm⟩, ⟨0, by omega, nI_0.symm, fun j _ q => by rw [Nat.zero_testBit] at q; cases q⟩, fun j hj => Or.inl (if_pos hj)⟩
        rw [fil_F, decide_eq_true e, z]
        rfl
      · rw [fil_acc2 t e] at z
        refine oneT_cong (filS_x 1 0 (by decide)) (fun g hg => filS_x g t (by omega)) (fun j => ?_) (q2 z)
        rw [fil_F, decide_eq_false e, Bool.false_and, if_neg (by decide)]
theorem Evo_file (I : Inv cO cF cI σ) (h6 : cF < 6) : Evo cO cF cI cO (cF + 1) cI σ (filS σ cF a1 a2 a3) := by
  have str : ∀ t e d, strS (filS σ cF a1 a2 a3) cI t e d = strS σ cI t e d := fun t e d => by
    unfold strS stG
    rw [show filS σ cF a1 a2 a3 12 = σ 12 from funext fun i => filS_x 12 i (by omega), show filS σ cF a1 a2 a3 13 = σ 13 from funext fun i => filS_x 13 i (by omega), show filS σ cF a1 a2 a3 14 = σ 14 from funext fun i => filS_x 14 i (by omega), show filS σ cF a1 a2 a3 15 = σ 15 from funext fun i => filS_x 15 i (by omega), show filS σ cF a1 a2 a3 16 = σ 16 from funext fun i => filS_x 16 i (by omega), show filS σ cF a1 a2 a3 18 = σ 18 from funext fun i => filS_x 18 i (by omega), show filS σ cF a1 a2 a3 19 = σ 19 from funext fun i => filS_x 19 i (by omega)]
  have nF : ∀ t, accS σ cF t = true → t / 8 ≠ cF := fun t q => by
    have := accS_f q
    omega
  have sp : ∀ t k d, accS σ cF t = true → spS (filS σ cF a1 a2 a3) cO t k d = spS σ cO t k d := fun t k d q => by
    unfold spS ovS hadS
    have e : filS σ cF a1 a2 a3 (1001 + 2 * t) = σ (1001 + 2 * t) := funext fun i => by rw [fil_F, decide_eq_false (nF t q), Bool.false_and, if_neg (by decide)]
    rw [e, show filS σ cF a1 a2 a3 3 = σ 3 from funext fun i => filS_x 3 i (by omega)]
  refine ⟨⟨Nat.le_refl _, by omega, Nat.le_refl _⟩, fun t q => fil_accI t q, fun t ht h1 h2 => ?_, cnt_same fun k => filS_x 37 k (by omega), fun t d ha _ => ⟨fun e => str t e d, fun _ k _ => ?_⟩, fun t ht ha => ⟨fun k _ q => by rw [sp t k _ ha, filS_x 1 0 (by decide)]; exact q, fun j _ q => by rw [filS_x 32 t (by omega)]; exact q, ?_, fun _ _ => filS_x 27 t (by omega)⟩, (by rw [filS_x 1 0 (by omega)]; exact Int32.le_refl _)⟩
  · rw [filS_x 22 t (by omega)]
    exact ((I.2.2.2 t ht).1 h1).1
  · unfold whyS strgS
    rw [sp t k d ha, fil_ten (Or.inl rfl) (nF t ha), fil_ten (Or.inr rfl) (nF t ha), filS_x 5 k (by omega), filS_x 4 k (by omega), filS_x 3 k (by omega)]
    simp only [str]
  · obtain ⟨e, h1, h2⟩ := (I.one ha).d27
    exact ⟨e, e, h1, by rw [filS_x 27 t (by omega)]; exact h1, Nat.le_refl _, h2⟩
end FIL
section NEWF
variable {M : hM} {A : hAd} {s τ : hσ} {cO cF cI : Nat}
theorem l_file (R : Rep M A s τ) (I : Inv cO cF cI s) (p1 p2 p3 : Int32) (Q : hM → Int32 → Prop) (hx : ∀ r, refd r → Q M r) (hq : ∀ (M' : hM) (A' : hAd) (s' : hσ), (A' 0 0 = A 0 0 ∧ ∀ k, A' 11 k = A 11 k) → cF < 6 → Rep M' A' s' τ → Inv cO (cF + 1) cI s' → Evo cO cF cI cO (cF + 1) cI s s' → (∀ i, i ≠ cF → s' 9 i = s 9 i) → s' 9 cF = p2 → Q M' (nI cF)) : wL_file M (some (A 0 0)) p1 p2 p3 Q := by
  obtain ⟨hO, hO8, hF, hF6, hI, hI4, D, hD, hday⟩ := I.1
  have E := I.2.1
  unfold wL_file wX4_file
  simp only [↓rd4e R]
  cases g1 : inR p1 0 (s 1 0) with
  | false =>
    simp only [↓(fun (g : Int32 → Prop) => oex (in4 p1 0 (s 1 0)) g), g1, ↓reduceIte, bI_f, bI_t, i10, i20, i30, sx, snf, ↓rd4e R]
    exact hx _ (Or.inr (Or.inl rfl))
  | true =>
    cases g2 : inR p2 1 255 with
    | false =>
      simp only [↓(fun (g : Int32 → Prop) => oex (in4 p1 0 (s 1 0)) g), g1, ↓(fun (g : Int32 → Prop) => oex (in4 p2 1 255) g), g2, ↓reduceIte, bI_f, bI_t, i10, i20, i30, sx, snf, ↓rd4e R]
      exact hx _ (Or.inr (Or.inl rfl))
    | true =>
      cases g3 : inR p3 (-9) 9 with
      | false =>
        simp only [↓(fun (g : Int32 → Prop) => oex (in4 p1 0 (s 1 0)) g), g1, ↓(fun (g : Int32 → Prop) => oex (in4 p2 1 255) g), g2, ↓(fun (g : Int32 → Prop) => oex (in4 p3 (-9) 9) g), g3, ↓reduceIte, bI_f, bI_t, i10, i20, i30, sx, snf, ↓rd4e R]
        exact hx _ (Or.inr (Or.inl rfl))
      | true =>
        by_cases c1 : cF < 6
        · have hz1 : nI cF < 6 := t6 c1
          have rows : ∀ g r, cF ≤ g + r / 8 → s (1000 + 2 * g) r ≠ 1 := fun g r q => by
            rw [E.2.2.2.2.2.2.2.2.2.1 g r]
            by_cases hr : r < 8
            · have : accS s cF (8 * g + r) = false := by
                unfold accS
                rw [decide_eq_false (show ¬ (8 * g + r) / 8 < cF by omega), Bool.false_and]
              rw [this, Bool.and_false]
              decide
            · rw [decide_eq_false hr, Bool.false_and]
              decide
          have acc0 : ∀ p, p < 8 → accS s cF (8 * cF + p) = false := fun p hp => by
            unfold accS
            rw [decide_eq_false (show ¬ (8 * cF + p) / 8 < cF by omega), Bool.false_and]
          simp only [↓(fun (g : Int32 → Prop) => oex (in4 p1 0 (s 1 0)) g), g1, ↓(fun (g : Int32 → Prop) => oex (in4 p2 1 255) g), g2, ↓(fun (g : Int32 → Prop) => oex (in4 p3 (-9) 9) g), g3, hF, hz1, ↓rdLe R, ↓reduceIte, bI_f, bI_t, i10, i20, i30, sx, snf, ↓rd4e R]
          refine new5 R (t := cF) hF ((E.2.2.2.1 cF).trans (bI_df (by omega))) (by rw [E.2.2.1 cF, bI_df (by omega)]; decide) (fun k => rows cF k (by omega)) (fun j hj => by
            rw [E.2.2.2.2.2.2.2.1 j]
            unfold accS
            rw [decide_eq_false (by omega), Bool.false_and]
            decide) p1 p2 p3 _ (fun M1 A1 R1 y => ?_)
          have y0 : A1 0 0 = A 0 0 := y 0 0 (by omega) (by omega)
          refine lo_file (z := fun k => A 11 k) (s0 := sU (sU (sU (sU (sU s 118 cF 1) 111 cF 1) 8 cF p1) 9 cF p2) 10 cF p3) c1 (by simp (disch := omega) only [sU_ne, sU_eq]) (by simp (disch := omega) only [sU_ne, sU_eq]) (by simp (disch := omega) only [sU_ne]; exact hF) (fun p hp => ⟨?_, ?_⟩) (fun g r p hp e => ?_) (fun M2 A2 R2 y => ?_) 9 0 M1 A1 R1 ⟨y0, fun k => y 11 k (by omega) (by omega), rfl⟩ (by omega) (by omega)
          · simp (disch := omega) only [sU_ne]
            rw [E.2.2.2.2.2.2.2.1, acc0 p hp]
            decide
          · exact unb_cong (fun g hg => by simp (disch := omega) only [sU_ne]) ((I.2.2.2 (8 * cF + p) (by omega)).1 (acc0 p hp))
          · simp (disch := omega) only [sU_ne]
            exact rows g r (by omega)
          · exact hq M2 A2 (filS s cF p1 p2 p3) y c1 R2 (Inv_file I c1) (Evo_file I c1) (fun i hi => (fil_nine i).trans (if_neg hi)) ((fil_nine cF).trans (if_pos rfl))
        · have hF' : s 7 0 = 6 := by
            rw [hF, show cF = 6 by omega]
            rfl
          simp only [↓(fun (g : Int32 → Prop) => oex (in4 p1 0 (s 1 0)) g), g1, ↓(fun (g : Int32 → Prop) => oex (in4 p2 1 255) g), g2, ↓(fun (g : Int32 → Prop) => oex (in4 p3 (-9) 9) g), g3, hF', i66, ↓rdLe R, ↓reduceIte, bI_f, bI_t, i10, i20, i30, sx, snf, ↓rd4e R]
          exact hx _ (Or.inr (Or.inr rfl))
end NEWF
