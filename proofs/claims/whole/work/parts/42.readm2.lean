/-! ===== the model's reading methods, on ===== -/
def popN (n : Nat) : Nat := n % 2 + n / 2 % 2 + n / 4 % 2 + n / 8 % 2 + n / 16 % 2 + n / 32 % 2 + n / 64 % 2 + n / 128 % 2
set_option maxRecDepth 100000 in
theorem sz5 : ∀ n, n < 256 → fX5_size (nI n) = some (nI (popN n)) := by decide +kernel
set_option maxRecDepth 100000 in
theorem sz6 : ∀ n, n < 256 → fJ6_bitCount_0f7a4 (nI n) = some (nI (popN n)) := by decide +kernel
theorem bit_2 (k : Nat) : bitN k = 1 <<< (nI k &&& 31) := rfl
theorem l0n {x : Int32} : (0 < x) = ¬ x ≤ 0 := propext Int32.not_le.symm
/-- the same by the rows of what was spent -/
def mspG (σ : hσ) (t own : Nat) (d : Int32) (k j : Nat) : Bool := decide (σ 34 k = nI t) && decide (σ 35 k ≤ d) && hb (σ 36 k) (nI j) && ovS σ own j
section RM
variable {M : hM} {A : hAd} {s τ : hσ} {w : Nat → Int64}
theorem lm_isSpent18 (R : Rep M A s τ w) {cO : Nat} (hO : τ 2 0 = nI cO) (hO8 : cO ≤ 8) (k6 : Int32 → Int32 → Option Int32) {t own : Nat} (ho : own < 8) (d : Int32) {k : Nat} (hk : k < 600) (b : Bool) : ∀ n j, j ≤ cO → cO - j < n → lX5_isSpent_18 M (A 10 0) k6 (nI t) (nI own) d (nI k) n (bI (b || exN (mspG τ t own d k) j)) (nI j) = k6 (bI (b || exN (mspG τ t own d k) cO)) (nI (k + 1)) := by
  intro n
  induction n with
  | zero =>
    intro j h1 h2
    omega
  | succ n ih =>
    intro j h1 h2
    rw [lX5_isSpent_18]
    by_cases e0 : j < cO
    · have e1 : ¬ cO ≤ j := by omega
      have step : ∀ x, x = bI (b || exN (mspG τ t own d k) (j + 1)) → lX5_isSpent_18 M (A 10 0) k6 (nI t) (nI own) d (nI k) n x (nI (j + 1)) = k6 (bI (b || exN (mspG τ t own d k) cO)) (nI (k + 1)) := fun x hx => by
        subst hx
        exact ih (j + 1) (by omega) (by omega)
      simp only [bX5_isSpent_79]
      simp (disch := omega) only [↓rd5b R, ↓rdAb R, hO, nI_leI, e1, ↓reduceIte, ↓has5b, nI_1, bI_0, ltn, ite_not, ↓(fun (f : Int32 → Option Int32) => obind (m_areOver R (a := own) (b := j) (by omega) (by omega)) f)]
      repeat' split
      all_goals (refine step _ ?_; rw [exN]; simp [mspG, bI, *])
      all_goals simp_all
    · have e1 : j = cO := by omega
      subst e1
      simp (disch := omega) only [↓rd5b R, hO, nI_leI, Nat.le_refl, ↓reduceIte, nI_1]
theorem lm_isSpent6 (R : Rep M A s τ w) {cO cS : Nat} (hO : τ 2 0 = nI cO) (hO8 : cO ≤ 8) (hS : τ 33 0 = nI cS) (hS6 : cS ≤ 600) {t own : Nat} (ho : own < 8) (d : Int32) : ∀ n k, k ≤ cS → cS - k < n → lX5_isSpent_6 M (A 10 0) (nI t) (nI own) d n (bI (exN (fun k => exN (mspG τ t own d k) cO) k)) (nI k) = some (bI (exN (fun k => exN (mspG τ t own d k) cO) cS)) := by
  intro n
  induction n with
  | zero =>
    intro k h1 h2
    omega
  | succ n ih =>
    intro k h1 h2
    rw [lX5_isSpent_6]
    by_cases e0 : k < cS
    · have e1 : ¬ cS ≤ k := by omega
      simp (disch := omega) only [↓rd5b R, hS, nI_leI, e1, ↓reduceIte]
      have q := lm_isSpent18 R hO hO8 (lX5_isSpent_6 M (A 10 0) (nI t) (nI own) d n) (t := t) ho d (k := k) (by omega) (exN (fun k => exN (mspG τ t own d k) cO) k) 1000 0 (by omega) (by omega)
      rw [show exN (mspG τ t own d k) 0 = false from rfl, Bool.or_false] at q
      exact q.trans (ih (k + 1) (by omega) (by omega))
    · have e1 : k = cS := by omega
      subst e1
      simp (disch := omega) only [↓rd5b R, hS, nI_leI, Nat.le_refl, ↓reduceIte, hbz_bI]
theorem m_isSpent0 (R : Rep M A s τ w) {cO cS : Nat} (hO : τ 2 0 = nI cO) (hO8 : cO ≤ 8) (hS : τ 33 0 = nI cS) (hS6 : cS ≤ 600) {t own : Nat} (ho : own < 8) (d : Int32) : fX5_isSpent M (A 10 0) (nI t) (nI own) d = some (bI (exN (fun k => exN (mspG τ t own d k) cO) cS)) := lm_isSpent6 R hO hO8 hS hS6 ho d 1000 0 (by omega) (by omega)
theorem m_why (R : Rep M A s τ w) {cO cI : Nat} (hI : τ 11 0 = nI cI) (hI4 : cI ≤ 40) {t k : Nat} (ht : t < 48) (hk : k < 8) (d : Int32) (hsp : fX5_isSpent M (A 10 0) (nI t) (nI k) d = some (bI (spS τ cO t k d))) : fX5_why M (A 10 0) (nI t) (nI k) d = some (whyS τ cO cI t k d) := by
  unfold fX5_why whyS
  simp only [bX5_why_29]
  simp (disch := omega) only [d8, ↓rd5b R, ↓rdAb R, i10, ↓reduceIte, ↓(fun (f : Int32 → Option Int32) => obind hsp f), ↓(fun (f : Int32 → Option Int32) => obind (m_areStrong R hI hI4 ht hk 5 d) f), bI_0]
  by_cases h1 : d ≤ τ 8 (t / 8) + τ 5 k
  · simp only [h1, if_true]
    cases h2 : spS τ cO t k d with
    | true => simp
    | false =>
      cases h3 : strgS τ cI t k 5 d with
      | false => simp
      | true =>
        simp
        split <;> rfl
  · simp only [h1, if_false]
def mrG (σ : hσ) (set : Int32) (k j : Nat) : Bool := !hb set (nI j) || (!hb (σ 6 k) (nI j) && !ovS σ k j)
def mrR (σ : hσ) (cO cI t : Nat) (set d : Int32) (k : Nat) : Bool := !hb set (nI k) || (decide (whyS σ cO cI t k d = 0) && allN (mrG σ set k) k)
theorem lm_isRight58 (R : Rep M A s τ w) (k14 : Int32 → Int32 → Option Int32) {t : Nat} (set d : Int32) {k : Nat} (hk : k < 8) (b : Bool) : ∀ n j, j ≤ k → k - j < n → lX5_isRight_58 M (A 10 0) k14 (nI t) set d (nI k) n (bI (b && allN (mrG τ set k) j)) (nI j) = k14 (bI (b && allN (mrG τ set k) k)) (nI (k + 1)) := by
  intro n
  induction n with
  | zero =>
    intro j h1 h2
    omega
  | succ n ih =>
    intro j h1 h2
    rw [lX5_isRight_58]
    by_cases e0 : j < k
    · have e1 : ¬ k ≤ j := by omega
      have step : ∀ x, x = bI (b && allN (mrG τ set k) (j + 1)) → lX5_isRight_58 M (A 10 0) k14 (nI t) set d (nI k) n x (nI (j + 1)) = k14 (bI (b && allN (mrG τ set k) k)) (nI (k + 1)) := fun x hx => by
        subst hx
        exact ih (j + 1) (by omega) (by omega)
      simp only [bX5_isRight_105]
      simp (disch := omega) only [↓rd5b R, ↓rdAb R, nI_leI, e1, ↓reduceIte, ↓has5b, nI_1, bI_0, ↓(fun (f : Int32 → Option Int32) => obind (m_areOver R (a := k) (b := j) (by omega) (by omega)) f)]
      repeat' split
      all_goals (refine step _ ?_; rw [allN]; simp [mrG, bI, *])
      all_goals simp_all
    · have e1 : j = k := by omega
      subst e1
      simp (disch := omega) only [nI_leI, Nat.le_refl, ↓reduceIte, nI_1]
theorem lm_isRight14 (R : Rep M A s τ w) {cO cI : Nat} (hO : τ 2 0 = nI cO) (hO8 : cO ≤ 8) {t : Nat} (set d : Int32) (hw : ∀ k, k < cO → fX5_why M (A 10 0) (nI t) (nI k) d = some (whyS τ cO cI t k d)) (b : Bool) : ∀ n k, k ≤ cO → cO - k < n → lX5_isRight_14 M (A 10 0) (nI t) set d n (bI (b && allN (mrR τ cO cI t set d) k)) (nI k) = some (bI (b && allN (mrR τ cO cI t set d) cO)) := by
  intro n
  induction n with
  | zero =>
    intro k h1 h2
    omega
  | succ n ih =>
    intro k h1 h2
    rw [lX5_isRight_14]
    by_cases e0 : k < cO
    · have e1 : ¬ cO ≤ k := by omega
      simp (disch := omega) only [↓rd5b R, hO, nI_leI, e1, ↓reduceIte, ↓has5b, nI_1, bI_0, hbz_bI, ↓(fun (f : Int32 → Option Int32) => obind (hw k e0) f)]
      cases hfl : (b && allN (mrR τ cO cI t set d) k) with
      | false =>
        simp only [↓reduceIte]
        have : (b && allN (mrR τ cO cI t set d) cO) = false := by
          cases b with
          | false => rfl
          | true =>
            rw [Bool.true_and] at hfl ⊢
            obtain ⟨j, hj, e⟩ := allN_f.mp hfl
            exact allN_f.mpr ⟨j, by omega, e⟩
        rw [this]
      | true =>
        rw [Bool.and_eq_true] at hfl
        obtain ⟨rfl, hfl⟩ := hfl
        rw [if_neg (by decide)]
        have ih1 := ih (k + 1) (by omega) (by omega)
        rw [allN, hfl, Bool.true_and, Bool.true_and] at ih1
        cases e2 : hb set (nI k) with
        | false =>
          rw [if_pos rfl]
          rw [show mrR τ cO cI t set d k = true by simp [mrR, e2]] at ih1
          exact ih1
        | true =>
          rw [if_neg (by decide)]
          by_cases e3 : whyS τ cO cI t k d = 0
          · rw [if_pos e3]
            have q := lm_isRight58 R (lX5_isRight_14 M (A 10 0) (nI t) set d n) (t := t) set d (k := k) (by omega) true 1000 0 (by omega) (by omega)
            rw [show mrR τ cO cI t set d k = allN (mrG τ set k) k by simp [mrR, e2, e3]] at ih1
            exact q.trans ih1
          · rw [if_neg e3]
            have q := lm_isRight58 R (lX5_isRight_14 M (A 10 0) (nI t) set d n) (t := t) set d (k := k) (by omega) false 1000 0 (by omega) (by omega)
            rw [show mrR τ cO cI t set d k = false by simp [mrR, e2, e3]] at ih1
            exact q.trans ih1
    · have e1 : k = cO := by omega
      subst e1
      simp (disch := omega) only [↓rd5b R, hO, nI_leI, Nat.le_refl, ↓reduceIte, hbz_bI]
/-- a set of n as a number below 256 -/
def mrS (σ : hσ) (cO cI t n : Nat) (d : Int32) : Bool := inR (nI (popN n)) 1 3 && allN (mrR σ cO cI t (nI n) d) cO
theorem m_isRight (R : Rep M A s τ w) {cO cI : Nat} (hO : τ 2 0 = nI cO) (hO8 : cO ≤ 8) {t n : Nat} (hn : n < 256) (d : Int32) (hw : ∀ k, k < cO → fX5_why M (A 10 0) (nI t) (nI k) d = some (whyS τ cO cI t k d)) : fX5_isRight M (A 10 0) (nI t) (nI n) d = some (bI (mrS τ cO cI t n d)) := by
  unfold fX5_isRight
  rw [sz5 n hn, Option.bind_some, in5b]
  have q := lm_isRight14 R hO hO8 (t := t) (nI n) d hw (inR (nI (popN n)) 1 3) 1000 0 (by omega) (by omega)
  rw [show allN (mrR τ cO cI t (nI n) d) 0 = true from rfl, Bool.and_true] at q
  exact q
theorem lm_heavy (R : Rep M A s τ w) {c : Nat} (hN : τ 2 0 = nI c) (hc : c ≤ 8) (set : Int32) : ∀ n k, k ≤ c → c - k < n → lX5_heavy_4 M (A 10 0) set n (sm (fun k => if (decide (k < c) && hb set (nI k)) = true then τ 4 k else 0) k) (nI k) = some (sm (fun k => if (decide (k < c) && hb set (nI k)) = true then τ 4 k else 0) c) := by
  intro n
  induction n with
  | zero =>
    intro k h1 h2
    omega
  | succ n ih =>
    intro k h1 h2
    rw [lX5_heavy_4]
    by_cases e0 : k < c
    · have e1 : ¬ c ≤ k := by omega
      have step : ∀ x, x = (if (decide (k < c) && hb set (nI k)) = true then τ 4 k else 0) → lX5_heavy_4 M (A 10 0) set n (sm (fun k => if (decide (k < c) && hb set (nI k)) = true then τ 4 k else 0) k + x) (nI (k + 1)) = some (sm (fun k => if (decide (k < c) && hb set (nI k)) = true then τ 4 k else 0) c) := fun x hx => by
        subst hx
        exact ih (k + 1) (by omega) (by omega)
      simp (disch := omega) only [↓rd5b R, ↓rdAb R, hN, nI_leI, e1, ↓reduceIte, ↓has5b, nI_1, bI_0]
      repeat' split
      all_goals (refine step _ ?_; simp [*])
    · have e1 : k = c := by omega
      subst e1
      simp (disch := omega) only [↓rd5b R, hN, nI_leI, Nat.le_refl, ↓reduceIte]
theorem m_heavy (R : Rep M A s τ w) {c : Nat} (hN : τ 2 0 = nI c) (hc : c ≤ 8) (set : Int32) : fX5_heavy M (A 10 0) set = some (heavS τ c set) := by
  unfold fX5_heavy heavS
  rw [sm_stop (n := c) (fun k hk => by
    have : ¬ k < c := by omega
    simp [this]) 8 hc]
  exact lm_heavy R hN hc set 1000 0 (by omega) (by omega)
theorem m_leftOf (R : Rep M A s τ w) {t : Nat} (ht : t < 48) : fX5_leftOf M (A 10 0) (nI t) = some (if τ 22 t = 2 then 60 - τ 28 t else τ 29 t - τ 27 t) := by
  unfold fX5_leftOf
  simp (disch := omega) only [↓rd5b R, ↓rdAb R]
  split <;> rfl
theorem lm_spentBy (R : Rep M A s τ w) {c t : Nat} (hN : τ 2 0 = nI c) (hc : c ≤ 8) (q : Nat → Bool) (hq : ∀ k, k < c → fX5_isSpent M (A 10 0) (nI t) (nI k) (τ 1 0) = some (bI (q k))) : ∀ n k, k ≤ c → c - k < n → lX5_spentBy_4 M (A 10 0) (nI t) n (orN (fun k => decide (k < c) && q k) k) (nI k) = some (orN (fun k => decide (k < c) && q k) c) := by
  intro n
  induction n with
  | zero =>
    intro k h1 h2
    omega
  | succ n ih =>
    intro k h1 h2
    rw [lX5_spentBy_4]
    by_cases e0 : k < c
    · have e1 : ¬ c ≤ k := by omega
      have step : ∀ x, x = (if (decide (k < c) && q k) = true then bitN k else 0) → lX5_spentBy_4 M (A 10 0) (nI t) n (orN (fun k => decide (k < c) && q k) k ||| x) (nI (k + 1)) = some (orN (fun k => decide (k < c) && q k) c) := fun x hx => by
        subst hx
        exact ih (k + 1) (by omega) (by omega)
      simp (disch := omega) only [↓rd5b R, hN, nI_leI, e1, ↓reduceIte, nI_1, bI_0, ↓(fun (f : Int32 → Option Int32) => obind (hq k e0) f)]
      repeat' split
      all_goals (refine step _ ?_; simp [*, bit_2])
    · have e1 : k = c := by omega
      subst e1
      simp (disch := omega) only [↓rd5b R, hN, nI_leI, Nat.le_refl, ↓reduceIte]
theorem m_spentBy (R : Rep M A s τ w) {c t : Nat} (hN : τ 2 0 = nI c) (hc : c ≤ 8) (hq : ∀ k, k < c → fX5_isSpent M (A 10 0) (nI t) (nI k) (τ 1 0) = some (bI (spS τ c t k (τ 1 0)))) : fX5_spentBy M (A 10 0) (nI t) = some (sptS τ c t) := by
  unfold fX5_spentBy sptS
  rw [orN_stop (n := c) (fun k hk => by
    have : ¬ k < c := by omega
    simp [this]) 8 hc]
  exact lm_spentBy R hN hc (fun k => spS τ c t k (τ 1 0)) hq 1000 0 (by omega) (by omega)
end RM
