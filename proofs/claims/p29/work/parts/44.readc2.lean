/-! ===== the class's reading methods ===== -/
def nestS (σ : hσ) (a b : Nat) : Bool := decide (σ 3 a ≠ σ 3 b) && decide (σ 3 a &&& (σ 3 b ^^^ (-1)) = 0)
section RC
variable {M : hM} {A : hAd} {s τ : hσ} {cO cF cI : Nat}
theorem c_isAgainst (R : Rep M A s τ) {k : Nat} (h : s 113 k = 1) (p : Int32) : fX2_isAgainst M (A 9 k) p = some (bI (hb (s 15 k) p)) := by
  unfold fX2_isAgainst
  simp only [↓rd2b R h, ↓has4b, hbz_bI]
theorem c_wasShownTo (R : Rep M A s τ) {k : Nat} (h : s 113 k = 1) (p : Int32) : fX2_wasShownTo M (A 9 k) p = some (bI (hb (s 20 k) p)) := by
  unfold fX2_wasShownTo
  simp only [↓rd2b R h, ↓has4b, hbz_bI]
def lbS (s : hσ) (p : Int32) (k : Nat) : Bool := decide (s 14 k < 0) && hb (s 15 k) p && !hb (s 20 k) p && decide (s 21 k = 0)
theorem c_isLackedBy (R : Rep M A s τ) {k : Nat} (h : s 113 k = 1) (p : Int32) : fX2_isLackedBy M (A 9 k) p = some (bI (lbS s p k)) := by
  unfold fX2_isLackedBy lbS
  simp only [↓rd2b R h, le0n, ite_not, ↓(fun (f : Int32 → Option Int32) => obind (c_isAgainst R h p) f), ↓(fun (f : Int32 → Option Int32) => obind (c_wasShownTo R h p) f), bI_0]
  by_cases h1 : s 14 k < 0
  · cases h2 : hb (s 15 k) p <;> cases h3 : hb (s 20 k) p <;> by_cases h4 : s 21 k = 0 <;> simp [h1, h4, bI]
  · simp [h1, bI]
theorem lc_lackedBy (R : Rep M A s τ) (E : ExI cO cF cI s) (f p : Int32) : ∀ n k, k ≤ 40 → 40 - k < n → lX4_lackedBy_16 M (A 0 0) f p (some (A 3 0)) 40 n (sm (fun k => bI (lkG s cI f p k)) k) (nI k) = some (sm (fun k => bI (lkG s cI f p k)) 40) := by
  intro n
  induction n with
  | zero =>
    intro k h1 h2
    omega
  | succ n ih =>
    intro k h1 h2
    rw [lX4_lackedBy_16]
    by_cases e : k < 40
    · have e1 : ¬ 40 ≤ k := by omega
      have step : ∀ x, x = bI (lkG s cI f p k) → lX4_lackedBy_16 M (A 0 0) f p (some (A 3 0)) 40 n (sm (fun k => bI (lkG s cI f p k)) k + x) (nI (k + 1)) = some (sm (fun k => bI (lkG s cI f p k)) 40) := fun x hx => by
        subst hx
        exact ih (k + 1) (by omega) (by omega)
      have step0 : lkG s cI f p k = false → lX4_lackedBy_16 M (A 0 0) f p (some (A 3 0)) 40 n (sm (fun k => bI (lkG s cI f p k)) k) (nI (k + 1)) = some (sm (fun k => bI (lkG s cI f p k)) 40) := fun h => by
        have q := step 0 (by rw [h]; rfl)
        rwa [Int32.add_zero] at q
      rw [if_neg (by rw [l40 (by omega)]; exact e1)]
      by_cases hk : k < cI
      · simp only [↓(fun (g : Option Nat → Option Int32) => obind (rI_t R E e hk) g), snf, ↓reduceIte, ↓rd2b R (E.i hk), ↓(fun (g : Int32 → Option Int32) => obind (c_isLackedBy R (E.i hk) p) g), bI_0, nI_1]
        split
        · rename_i h3
          split
          · rename_i h4
            refine step0 ?_
            unfold lbS at h4
            unfold lkG
            simp [hk, h3]
            simpa using h4
          · rename_i h4
            refine step 1 ?_
            unfold lbS at h4
            unfold lkG
            simp [hk, h3]
            simp at h4
            simp [h4, bI]
        · rename_i h3
          refine step0 ?_
          simp [lkG, h3]
      · simp only [↓(fun (g : Option Nat → Option Int32) => obind (rI_f R E e hk) g), ↓reduceIte, nI_1]
        refine step0 ?_
        simp [lkG, hk]
    · have e1 : k = 40 := by omega
      subst e1
      rw [if_pos (by decide)]
theorem c_lackedBy (R : Rep M A s τ) (E : ExI cO cF cI s) (f p : Int32) : fX4_lackedBy M (A 0 0) f p = some (lackS s cI f p) := by
  unfold fX4_lackedBy
  simp only [↓rd4b R, ↓rdLb R]
  exact lc_lackedBy R E f p 1000 0 (by omega) (by omega)
theorem c_countsOn (R : Rep M A s τ) {k : Nat} (h : s 113 k = 1) (d : Int32) : fX2_countsOn M (A 9 k) d = some (bI (decide (s 18 k ≤ d) && (decide (s 16 k = 0) || (decide (s 19 k ≠ -1) && decide (s 19 k ≤ d))))) := by
  unfold fX2_countsOn
  simp only [bX2_countsOn_20, bX2_countsOn_21, bX2_countsOn_41]
  simp only [↓rd2b R h, ltn, ite_not, i10, ↓reduceIte]
  by_cases h1 : s 19 k = -1 <;> by_cases h2 : s 19 k ≤ d <;> by_cases h3 : s 18 k ≤ d <;> by_cases h4 : s 16 k = 0 <;> simp [h1, h2, h3, h4, bI]
theorem lc_strength (R : Rep M A s τ) (E : ExI cO cF cI s) {t : Nat} (ha : accS s cF t = true) (e d : Int32) : ∀ n k, k ≤ 40 → 40 - k < n → lX4_strengthAgainst_17 M (A 0 0) (some (A 7 t)) e d (some (A 3 0)) 40 n (sm (fun k => if stG s cI t e d k = true then s 14 k else 0) k) (nI k) = some (strS s cI t e d) := by
  intro n
  induction n with
  | zero =>
    intro k h1 h2
    omega
  | succ n ih =>
    intro k h1 h2
    rw [lX4_strengthAgainst_17]
    by_cases e0 : k < 40
    · have e1 : ¬ 40 ≤ k := by omega
      have step : ∀ x, x = (if stG s cI t e d k = true then s 14 k else 0) → lX4_strengthAgainst_17 M (A 0 0) (some (A 7 t)) e d (some (A 3 0)) 40 n (sm (fun k => if stG s cI t e d k = true then s 14 k else 0) k + x) (nI (k + 1)) = some (strS s cI t e d) := fun x hx => by
        subst hx
        exact ih (k + 1) (by omega) (by omega)
      have step0 : stG s cI t e d k = false → lX4_strengthAgainst_17 M (A 0 0) (some (A 7 t)) e d (some (A 3 0)) 40 n (sm (fun k => if stG s cI t e d k = true then s 14 k else 0) k) (nI (k + 1)) = some (strS s cI t e d) := fun h => by
        have q := step 0 (by rw [h]; rfl)
        rwa [Int32.add_zero] at q
      rw [if_neg (by rw [l40 (by omega)]; exact e1)]
      by_cases hk : k < cI
      · simp only [↓(fun (g : Option Nat → Option Int32) => obind (rI_t R E e0 hk) g), snf, ↓reduceIte, ↓rd2b R (E.i hk), ↓rd0b R (E.a ha), ↓rd1b R (E.f (accS_f ha)), ↓(fun (p : Int32) (g : Int32 → Option Int32) => obind (c_isAgainst R (E.i hk) p) g), ↓(fun (g : Int32 → Option Int32) => obind (c_countsOn R (E.i hk) d) g), bI_0, nI_1]
        repeat' split
        · rename_i h3 h4 h5
          refine step0 ?_
          simp [stG, h5]
        · rename_i h3 h4 h5 h6
          refine step0 ?_
          unfold stG
          rw [Bool.and_assoc, h6, Bool.and_false]
        · rename_i h3 h4 h5 h6
          refine step _ ?_
          rw [if_pos]
          unfold stG
          rw [Bool.and_assoc]
          rw [Bool.not_eq_false] at h5 h6
          rw [h6]
          simp [hk, h3, h4, h5]
        · rename_i h3 h4
          refine step0 ?_
          simp [stG, h4]
        · rename_i h3
          refine step0 ?_
          simp [stG, h3]
      · simp only [↓(fun (g : Option Nat → Option Int32) => obind (rI_f R E e0 hk) g), ↓reduceIte, nI_1]
        refine step0 ?_
        simp [stG, hk]
    · have e1 : k = 40 := by omega
      subst e1
      rw [if_pos (by decide)]
      rfl
theorem c_strength (R : Rep M A s τ) (E : ExI cO cF cI s) {t : Nat} (ha : accS s cF t = true) (e d : Int32) : fX4_strengthAgainst M (A 0 0) (some (A 7 t)) e d = some (strS s cI t e d) := by
  unfold fX4_strengthAgainst
  simp only [↓rd4b R, ↓rdLb R]
  exact lc_strength R E ha e d 1000 0 (by omega) (by omega)
theorem lc_hasStrength (R : Rep M A s τ) (E : ExI cO cF cI s) {t k : Nat} (ha : accS s cF t = true) (hk : k < cO) (least d : Int32) : ∀ n e, e ≤ 10 → 10 - e < n → allN (fun e => !hb (s 3 k) (nI e) || decide (least ≤ strS s cI t (nI e) d)) e = true → lX4_hasStrength_3 M (A 0 0) (some (A 7 t)) (some (A 4 k)) least d n (nI e) = some (bI (strgS s cI t k least d)) := by
  intro n
  induction n with
  | zero =>
    intro e h1 h2
    omega
  | succ n ih =>
    intro e h1 h2 h3
    rw [lX4_hasStrength_3]
    by_cases e0 : e < 10
    · have e1 : ¬ 10 ≤ e := by omega
      rw [if_neg (by rw [l10 (by omega)]; exact e1)]
      simp only [↓rd3b R (E.o hk), ↓rd4b R, ↓has4b, ↓(fun (g : Int32 → Option Int32) => obind (c_strength R E ha (nI e) d) g), bI_0, nI_1]
      have q := ih (e + 1) (by omega) (by omega)
      rw [allN, h3, Bool.true_and] at q
      split
      · rename_i h4
        exact q (by simp [h4])
      · rename_i h4
        split
        · rename_i h5
          exact q (by simp [h5])
        · rename_i h5
          have : strgS s cI t k least d = false := allN_f.mpr ⟨e, e0, by simp [h5] at h4 ⊢; exact h4⟩
          rw [this]
          rfl
    · have e1 : e = 10 := by omega
      subst e1
      rw [if_pos (by decide)]
      have : strgS s cI t k least d = true := h3
      rw [this]
      rfl
theorem c_hasStrength (R : Rep M A s τ) (E : ExI cO cF cI s) {t k : Nat} (ha : accS s cF t = true) (hk : k < cO) (least d : Int32) : fX4_hasStrength M (A 0 0) (some (A 7 t)) (some (A 4 k)) least d = some (bI (strgS s cI t k least d)) := lc_hasStrength R E ha hk least d 1000 0 (by omega) (by omega) rfl
theorem c_nestsIn (R : Rep M A s τ) {j k : Nat} (hj : s 110 j = 1) (hk : s 110 k = 1) : fX3_nestsIn M (A 4 j) (some (A 4 k)) = some (bI (nestS s j k)) := by
  unfold fX3_nestsIn nestS
  simp only [↓rd3b R hj, ↓rd3b R hk]
  by_cases h1 : s 3 j = s 3 k
  · simp [h1, bI]
  · rw [if_neg h1]
    by_cases h2 : s 3 j &&& (s 3 k ^^^ (-1)) = 0
    · rw [if_pos h2]
      simp only [h2]
      simp [h1, bI]
    · rw [if_neg h2]
      rw [decide_eq_false h2, Bool.and_false]
      rfl
theorem c_isAkinTo (R : Rep M A s τ) {j k : Nat} (hj : s 110 j = 1) (hk : s 110 k = 1) : fX3_isAkinTo M (A 4 j) (some (A 4 k)) = some (bI (ovS s k j)) := by
  unfold fX3_isAkinTo
  simp only [bX3_isAkinTo_27]
  simp only [↓rd3b R hj, ↓rd3b R hk, ↓(fun (g : Int32 → Option Int32) => obind (c_nestsIn R hj hk) g), ↓(fun (g : Int32 → Option Int32) => obind (c_nestsIn R hk hj) g), bI_0]
  unfold ovS nestS
  by_cases h1 : s 3 j = s 3 k
  · rw [if_pos h1, h1, Int32.and_self]
    simp [bI]
  · have h1' : ¬ s 3 k = s 3 j := fun q => h1 q.symm
    rw [if_neg h1]
    by_cases h2 : s 3 j &&& (s 3 k ^^^ (-1)) = 0
    · have h3 := andnot.mp h2
      rw [Int32.and_comm] at h3
      rw [if_neg (by rw [decide_eq_true h1, decide_eq_true h2]; decide), decide_eq_true h3, Bool.or_true]
      rfl
    · have h3 : ¬ s 3 k &&& s 3 j = s 3 j := fun q => h2 (andnot.mpr (by rw [Int32.and_comm]; exact q))
      rw [if_pos (by rw [decide_eq_false h2, Bool.and_false]), decide_eq_false h3, Bool.or_false]
      by_cases h4 : s 3 k &&& (s 3 j ^^^ (-1)) = 0
      · rw [if_neg (by rw [decide_eq_true h1', decide_eq_true h4]; decide), decide_eq_true (andnot.mp h4)]
        rfl
      · rw [if_pos (by rw [decide_eq_false h4, Bool.and_false]), decide_eq_false (fun q => h4 (andnot.mpr q))]
        rfl
theorem c_hadAnswered (R : Rep M A s τ) (E : ExI cO cF cI s) {t j : Nat} (ha : accS s cF t = true) (hj : j < 8) (d : Int32) : fX0_hadAnswered M (A 7 t) (nI j) d = some (bI (hadS s t j d)) := by
  unfold fX0_hadAnswered
  rw [if_neg (nI_pos (by omega))]
  simp (disch := first | exact E.g ha | omega) only [↓rd0b R (E.a ha), ↓rdLb R]
  rw [if_pos (t8 hj)]
  simp (disch := first | exact E.g ha | omega) only [↓rd0b R (E.a ha), ↓rdRb R, ltn, ite_not]
  unfold hadS
  by_cases h1 : s (1001 + 2 * t) j = -1
  · simp [h1, bI]
  · by_cases h2 : s (1001 + 2 * t) j ≤ d <;> simp [h1, h2, bI]
theorem lc_isSpent (R : Rep M A s τ) (E : ExI cO cF cI s) (hO8 : cO ≤ 8) {t k : Nat} (ha : accS s cF t = true) (hk : k < cO) (d : Int32) : ∀ n j, j ≤ 8 → 8 - j < n → exN (fun j => decide (j < cO) && (ovS s k j && hadS s t j d)) j = false → lX4_isSpent_3 M (A 0 0) (some (A 7 t)) (some (A 4 k)) d n (nI j) = some (bI (exN (fun j => decide (j < cO) && (ovS s k j && hadS s t j d)) 8)) := by
  intro n
  induction n with
  | zero =>
    intro j h1 h2
    omega
  | succ n ih =>
    intro j h1 h2 h3
    rw [lX4_isSpent_3]
    by_cases e0 : j < 8
    · have e1 : ¬ 8 ≤ j := by omega
      simp only [↓rd4b R, ↓rdLb R]
      rw [if_neg (by rw [l8 (by omega)]; exact e1)]
      have q := ih (j + 1) (by omega) (by omega)
      rw [exN, h3, Bool.false_or] at q
      by_cases hj : j < cO
      · simp only [↓(fun (g : Option Nat → Option Int32) => obind (rO_t R E e0 hj) g), snf, ↓reduceIte, ↓rd3b R (E.o hj), ↓rd0b R (E.a ha), ↓(fun (g : Int32 → Option Int32) => obind (c_isAkinTo R (E.o hj) (E.o hk)) g), ↓(fun (g : Int32 → Option Int32) => obind (c_hadAnswered R E ha e0 d) g), bI_0, nI_1]
        split
        · rename_i h4
          exact q (by simp [h4])
        · rename_i h4
          split
          · rename_i h5
            exact q (by simp [h5])
          · rename_i h5
            rw [Bool.not_eq_false] at h4 h5
            have : exN (fun j => decide (j < cO) && (ovS s k j && hadS s t j d)) 8 = true := exN_iff.mpr ⟨j, e0, by simp [hj, h4, h5]⟩
            rw [this]
            rfl
      · simp only [↓(fun (g : Option Nat → Option Int32) => obind (rO_f R E e0 hj) g), ↓reduceIte, nI_1]
        exact q (by simp [hj])
    · have e1 : j = 8 := by omega
      subst e1
      simp only [↓rd4b R, ↓rdLb R]
      rw [if_pos (by decide), h3]
      rfl
theorem c_isSpent (R : Rep M A s τ) (E : ExI cO cF cI s) (hO8 : cO ≤ 8) {t k : Nat} (ha : accS s cF t = true) (hk : k < cO) (d : Int32) : fX4_isSpent M (A 0 0) (some (A 7 t)) (some (A 4 k)) d = some (bI (spS s cO t k d)) := by
  unfold fX4_isSpent spS
  rw [← exN_guard hO8]
  exact lc_isSpent R E hO8 ha hk d 1000 0 (by omega) (by omega) rfl
theorem c_hindrance (R : Rep M A s τ) (E : ExI cO cF cI s) (hO8 : cO ≤ 8) {t k : Nat} (ha : accS s cF t = true) (hk : k < cO) (d : Int32) : fX4_hindrance M (A 0 0) (some (A 7 t)) (some (A 4 k)) d = some (whyS s cO cI t k d) := by
  unfold fX4_hindrance whyS
  simp only [↓rd4b R, ↓rd0b R (E.a ha), ↓rd1b R (E.f (accS_f ha)), ↓rd3b R (E.o hk), ↓(fun (g : Int32 → Option Int32) => obind (c_isSpent R E hO8 ha hk d) g), ↓(fun (g : Int32 → Option Int32) => obind (c_hasStrength R E ha hk 5 d) g), bI_0]
  by_cases h1 : d ≤ s 8 (t / 8) + s 5 k
  · simp only [h1, if_true]
    cases h2 : spS s cO t k d with
    | true => simp
    | false =>
      cases h3 : strgS s cI t k 5 d with
      | false => simp
      | true =>
        simp
        split <;> rfl
  · simp only [h1, if_false]
/-- a loop over the offences that gathers bits -/
theorem gath {p : Nat → Bool} {l : Nat → Int32 → Int32 → Option Int32} {cO : Nat} (hx : ∀ n x, l (n + 1) x (nI 8) = some x) (hs : ∀ n j x, j < 8 → l (n + 1) x (nI j) = if j < cO then (if p j = true then l n (x ||| bitN j) (nI (j + 1)) else l n x (nI (j + 1))) else l n x (nI (j + 1))) : ∀ n j, j ≤ 8 → 8 - j < n → l n (orN (fun j => decide (j < cO) && p j) j) (nI j) = some (orN (fun j => decide (j < cO) && p j) 8) := by
  intro n
  induction n with
  | zero =>
    intro j h1 h2
    omega
  | succ n ih =>
    intro j h1 h2
    by_cases e : j < 8
    · rw [hs n j _ e]
      have q := ih (j + 1) (by omega) (by omega)
      rw [orN] at q
      split
      · rename_i h3
        split
        · rename_i h4
          rw [if_pos (by simp [h3, h4])] at q
          exact q
        · rename_i h4
          rw [if_neg (by simp [h4]), Int32.or_zero] at q
          exact q
      · rename_i h3
        rw [if_neg (by simp [h3]), Int32.or_zero] at q
        exact q
    · have : j = 8 := by omega
      subst this
      exact hx n _
theorem c_chargeable (R : Rep M A s τ) (E : ExI cO cF cI s) (hO8 : cO ≤ 8) {t : Nat} (ha : accS s cF t = true) (d : Int32) : fX4_chargeable M (A 0 0) (some (A 7 t)) d = some (canS s cO cI t d) := by
  refine gath (l := lX4_chargeable_5 M (A 0 0) (some (A 7 t)) d) (cO := cO) (p := fun k => decide (whyS s cO cI t k d = 0)) (fun n x => ?_) (fun n j x e0 => ?_) 1000 0 (by omega) (by omega)
  · rw [lX4_chargeable_5]
    simp only [↓rd4b R, ↓rdLb R]
    rw [if_pos (by decide)]
  · have e1 : ¬ 8 ≤ j := by omega
    rw [lX4_chargeable_5]
    simp only [↓rd4b R, ↓rdLb R]
    rw [if_neg (by rw [l8 (by omega)]; exact e1)]
    by_cases hj : j < cO
    · simp only [↓(fun (g : Option Nat → Option Int32) => obind (rO_t R E e0 hj) g), snf, ↓reduceIte, ↓rd4b R, ↓(fun (g : Int32 → Option Int32) => obind (c_hindrance R E hO8 ha hj d) g), nI_1, hj, if_true, decide_eq_true_eq]
      rfl
    · simp only [↓(fun (g : Option Nat → Option Int32) => obind (rO_f R E e0 hj) g), ↓reduceIte, nI_1, hj, if_false]
theorem c_proven (R : Rep M A s τ) (E : ExI cO cF cI s) (hO8 : cO ≤ 8) {t : Nat} (ha : accS s cF t = true) : fX4_provenCharges M (A 0 0) (some (A 7 t)) = some (prvS s cO cI t) := by
  refine gath (l := lX4_provenCharges_4 M (A 0 0) (some (A 7 t))) (cO := cO) (p := fun k => hb (s 23 t) (nI k) && strgS s cI t k 8 (s 1 0)) (fun n x => ?_) (fun n j x e0 => ?_) 1000 0 (by omega) (by omega)
  · rw [lX4_provenCharges_4]
    simp only [↓rd4b R, ↓rdLb R]
    rw [if_pos (by decide)]
  · have e1 : ¬ 8 ≤ j := by omega
    rw [lX4_provenCharges_4]
    simp only [↓rd4b R, ↓rdLb R]
    rw [if_neg (by rw [l8 (by omega)]; exact e1)]
    by_cases hj : j < cO
    · simp only [↓(fun (g : Option Nat → Option Int32) => obind (rO_t R E e0 hj) g), snf, ↓reduceIte, ↓rd4b R, ↓rd0b R (E.a ha), ↓has4b, ↓(fun (g : Int32 → Option Int32) => obind (c_hasStrength R E ha hj 8 (s 1 0)) g), bI_0, nI_1, hj, if_true]
      cases hb (s 23 t) (nI j) <;> cases strgS s cI t j 8 (s 1 0) <;> rfl
    · simp only [↓(fun (g : Option Nat → Option Int32) => obind (rO_f R E e0 hj) g), ↓reduceIte, nI_1, hj, if_false]
theorem c_spent (R : Rep M A s τ) (E : ExI cO cF cI s) (hO8 : cO ≤ 8) {t : Nat} (ha : accS s cF t = true) : fX4_spentOffences M (A 0 0) (some (A 7 t)) = some (sptS s cO t) := by
  refine gath (l := lX4_spentOffences_4 M (A 0 0) (some (A 7 t))) (cO := cO) (p := fun k => spS s cO t k (s 1 0)) (fun n x => ?_) (fun n j x e0 => ?_) 1000 0 (by omega) (by omega)
  · rw [lX4_spentOffences_4]
    simp only [↓rd4b R, ↓rdLb R]
    rw [if_pos (by decide)]
  · have e1 : ¬ 8 ≤ j := by omega
    rw [lX4_spentOffences_4]
    simp only [↓rd4b R, ↓rdLb R]
    rw [if_neg (by rw [l8 (by omega)]; exact e1)]
    by_cases hj : j < cO
    · simp only [↓(fun (g : Option Nat → Option Int32) => obind (rO_t R E e0 hj) g), snf, ↓reduceIte, ↓rd4b R, ↓(fun (g : Int32 → Option Int32) => obind (c_isSpent R E hO8 ha hj (s 1 0)) g), bI_0, nI_1, hj, if_true]
      cases spS s cO t j (s 1 0) <;> rfl
    · simp only [↓(fun (g : Option Nat → Option Int32) => obind (rO_f R E e0 hj) g), ↓reduceIte, nI_1, hj, if_false]
theorem lc_gravity (R : Rep M A s τ) (E : ExI cO cF cI s) (set : Int32) : ∀ n k, k ≤ 8 → 8 - k < n → lX4_gravityOf_4 M (A 0 0) set n (sm (fun k => if (decide (k < cO) && hb set (nI k)) = true then s 4 k else 0) k) (nI k) = some (heavS s cO set) := by
  intro n
  induction n with
  | zero =>
    intro k h1 h2
    omega
  | succ n ih =>
    intro k h1 h2
    rw [lX4_gravityOf_4]
    by_cases e0 : k < 8
    · have e1 : ¬ 8 ≤ k := by omega
      have q := ih (k + 1) (by omega) (by omega)
      rw [sm] at q
      simp only [↓rd4b R, ↓rdLb R]
      rw [if_neg (by rw [l8 (by omega)]; exact e1)]
      by_cases hk : k < cO
      · simp only [↓(fun (g : Option Nat → Option Int32) => obind (rO_t R E e0 hk) g), snf, ↓reduceIte, ↓rd3b R (E.o hk), ↓has4b, bI_0, nI_1]
        split
        · rename_i h3
          rw [if_neg (by simp [h3]), Int32.add_zero] at q
          exact q
        · rename_i h3
          rw [if_pos (by simp [h3, hk])] at q
          exact q
      · simp only [↓(fun (g : Option Nat → Option Int32) => obind (rO_f R E e0 hk) g), ↓reduceIte, nI_1]
        rw [if_neg (by simp [hk]), Int32.add_zero] at q
        exact q
    · have e1 : k = 8 := by omega
      subst e1
      simp only [↓rd4b R, ↓rdLb R]
      rw [if_pos (by decide)]
      rfl
theorem c_gravity (R : Rep M A s τ) (E : ExI cO cF cI s) (set : Int32) : fX4_gravityOf M (A 0 0) set = some (heavS s cO set) := lc_gravity R E set 1000 0 (by omega) (by omega)
def ceilS (s : hσ) (t : Nat) : Int32 := 4 + (if hb (s 30 t) 1 = true then 2 else 0) + (if hb (s 30 t) 2 = true then 4 else 0)
theorem c_ceiling (R : Rep M A s τ) {t : Nat} (h : s 112 t = 1) : fX0_ceilingWhileOpen M (A 7 t) = some (ceilS s t) := by
  unfold fX0_ceilingWhileOpen ceilS
  simp only [bX0_ceilingWhileOpen_17]
  simp only [↓rd0b R h, ↓has4b, bI_0]
  cases hb (s 30 t) 1 <;> cases hb (s 30 t) 2 <;> rfl
theorem c_daysLeft (R : Rep M A s τ) {t : Nat} (h : s 112 t = 1) : fX0_daysLeft M (A 7 t) = some (if s 22 t = 2 then 60 - s 28 t else ceilS s t - s 27 t) := by
  unfold fX0_daysLeft
  simp only [↓rd0b R h, ↓(fun (g : Int32 → Option Int32) => obind (c_ceiling R h) g)]
  split <;> rfl
end RC
