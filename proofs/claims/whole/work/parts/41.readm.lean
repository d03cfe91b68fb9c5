/-! ===== the model's reading methods ===== -/
theorem has5b (a k : Int32) {β : Type} (f : Int32 → Option β) : (fX5_has a k).bind f = f (bI (hb a k)) := obind (has5 a k) f
theorem in5b (a b c : Int32) {β : Type} (f : Int32 → Option β) : (fX5_in a b c).bind f = f (bI (inR a b c)) := obind (in5 a b c) f
theorem has4b (a k : Int32) {β : Type} (f : Int32 → Option β) : (fX4_hasBit a k).bind f = f (bI (hb a k)) := obind (has4 a k) f
theorem in4b (a b c : Int32) {β : Type} (f : Int32 → Option β) : (fX4_isWithin a b c).bind f = f (bI (inR a b c)) := obind (in4 a b c) f
theorem i10 : ((1 : Int32) = 0) = False := eq_false (by decide)
theorem l10 {k : Nat} (h : k < 2 ^ 31) : ((10 : Int32) ≤ nI k) = (10 ≤ k) := propext (nI_leI (a := 10) (by decide) h)
theorem l8 {k : Nat} (h : k < 2 ^ 31) : ((8 : Int32) ≤ nI k) = (8 ≤ k) := propext (nI_leI (a := 8) (by decide) h)
theorem l6 {k : Nat} (h : k < 2 ^ 31) : ((6 : Int32) ≤ nI k) = (6 ≤ k) := propext (nI_leI (a := 6) (by decide) h)
theorem l40 {k : Nat} (h : k < 2 ^ 31) : ((40 : Int32) ≤ nI k) = (40 ≤ k) := propext (nI_leI (a := 40) (by decide) h)
theorem l48 {k : Nat} (h : k < 2 ^ 31) : ((48 : Int32) ≤ nI k) = (48 ≤ k) := propext (nI_leI (a := 48) (by decide) h)
theorem l256 {k : Nat} (h : k < 2 ^ 31) : ((256 : Int32) ≤ nI k) = (256 ≤ k) := propext (nI_leI (a := 256) (by decide) h)
theorem d8 {t : Nat} (h : t < 2 ^ 31) : nI t / 8 = nI (t / 8) := pk_div (d := 8) h (by decide) (by decide)
theorem r8 {t : Nat} (h : t < 2 ^ 31) : nI t - nI (t / 8) * 8 = nI (t % 8) := by
  rw [← d8 h]
  exact pk_rem (d := 8) h (by decide) (by decide)
theorem m8 (f p : Nat) : 8 * nI f + nI p = nI (8 * f + p) := by
  rw [show (8 : Int32) = nI 8 from rfl, pk_mul, nI_add]
theorem le0n {x : Int32} : (0 ≤ x) = ¬ x < 0 := propext Int32.not_lt.symm
theorem ltn {x y : Int32} : (x < y) = ¬ y ≤ x := propext Int32.not_le.symm
def isinP (σ : hσ) (cF : Nat) (a1 a2 : Int32) : Prop := ∃ f p : Nat, a1 = nI f ∧ a2 = nI p ∧ f < cF ∧ p < 8 ∧ hb (σ 9 f) (nI p) = true
section RM
variable {M : hM} {A : hAd} {s τ : hσ} {w : Nat → Int64}
theorem m_thrown (R : Rep M A s τ w) : fX5_thrown M (A 10 0) = some (τ 0 0) := by
  unfold fX5_thrown
  simp only [↓rd5b R]
theorem m_isOffence (R : Rep M A s τ w) (a : Int32) : fX5_isOffence M (A 10 0) a = some (bI (inR a 0 (τ 2 0 - 1))) := by
  unfold fX5_isOffence
  simp only [↓rd5b R, ↓in5b, hbz_bI]
theorem m_isItem (R : Rep M A s τ w) (a : Int32) : fX5_isItem M (A 10 0) a = some (bI (inR a 0 (τ 11 0 - 1))) := by
  unfold fX5_isItem
  simp only [↓rd5b R, ↓in5b, hbz_bI]
theorem m_isIn_t (R : Rep M A s τ w) {c : Nat} (hN : τ 7 0 = nI c) (hc : c ≤ 6) {a1 a2 : Int32} (h : isinP τ c a1 a2) : fX5_isIn M (A 10 0) a1 a2 = some 1 := by
  obtain ⟨f, p, rfl, rfl, hf, hp, hbt⟩ := h
  unfold fX5_isIn
  have e1 : inR (nI f) 0 (nI c - 1) = true := (inR_pre (by omega)).mpr ⟨f, hf, rfl⟩
  have e2 : inR (nI p) 0 7 = true := (inR_nI (b := 7) (by decide)).mpr ⟨p, by omega, rfl⟩
  simp (disch := omega) only [↓rd5b R, ↓rdAb R, ↓in5b, hN, e1, e2, ↓has5b, hbt, bI_t, i10, ↓reduceIte]
theorem m_isIn_f (R : Rep M A s τ w) {c : Nat} (hN : τ 7 0 = nI c) (hc : c ≤ 6) {a1 a2 : Int32} (h : ¬ isinP τ c a1 a2) : fX5_isIn M (A 10 0) a1 a2 = some 0 := by
  unfold fX5_isIn
  simp only [↓rd5b R, ↓in5b, hN]
  cases e1 : inR a1 0 (nI c - 1) with
  | false => simp only [bI_f, ↓reduceIte]
  | true =>
    obtain ⟨f, hf, rfl⟩ := (inR_pre (by omega)).mp e1
    cases e2 : inR a2 0 7 with
    | false => simp only [bI_f, bI_t, i10, ↓reduceIte]
    | true =>
      obtain ⟨p, hp, rfl⟩ := (inR_nI (b := 7) (by decide)).mp e2
      cases e3 : hb (τ 9 f) (nI p) with
      | true => exact absurd ⟨f, p, rfl, rfl, hf, by omega, e3⟩ h
      | false => simp (disch := omega) only [↓rd5b R, ↓rdAb R, ↓has5b, e3, bI_f, bI_t, i10, ↓reduceIte]
theorem m_areThere (R : Rep M A s τ w) {c : Nat} (hN : τ 2 0 = nI c) (a : Int32) : fX5_areThere M (A 10 0) a = some (bI (decide (0 ≤ a) && decide (a < bitN c))) := by
  unfold fX5_areThere
  simp only [↓rd5b R, hN]
  rw [show (1 <<< (nI c &&& 31) : Int32) = bitN c from rfl]
  by_cases h1 : a < 0
  · have h2 : ¬ 0 ≤ a := Int32.not_le.mpr h1
    simp [h1, h2, bI]
  · have h2 : 0 ≤ a := Int32.not_lt.mp h1
    by_cases h3 : a < bitN c
    · have h4 : ¬ bitN c ≤ a := Int32.not_le.mpr h3
      rw [if_neg h1, if_neg h4]
      simp [h2, h3, bI]
    · have h4 : bitN c ≤ a := Int32.not_lt.mp h3
      rw [if_neg h1, if_pos h4]
      simp [h3, bI]
theorem lm_lacking (R : Rep M A s τ w) {c : Nat} (hN : τ 11 0 = nI c) (hc : c ≤ 40) (f p : Int32) : ∀ n k, k ≤ c → c - k < n → lX5_lacking_5 M (A 10 0) f p n (sm (fun k => bI (lkG τ c f p k)) k) (nI k) = some (sm (fun k => bI (lkG τ c f p k)) c) := by
  intro n
  induction n with
  | zero =>
    intro k h1 h2
    omega
  | succ n ih =>
    intro k h1 h2
    rw [lX5_lacking_5]
    by_cases e : k < c
    · have e1 : ¬ c ≤ k := by omega
      have step : ∀ x, x = bI (lkG τ c f p k) → lX5_lacking_5 M (A 10 0) f p n (sm (fun k => bI (lkG τ c f p k)) k + x) (nI (k + 1)) = some (sm (fun k => bI (lkG τ c f p k)) c) := fun x hx => by
        subst hx
        exact ih (k + 1) (by omega) (by omega)
      simp only [bX5_lacking_53, bX5_lacking_54, bX5_lacking_90]
      simp (disch := omega) only [↓rd5b R, ↓rdAb R, hN, nI_leI, e1, ↓reduceIte, ↓has5b, nI_1, bI_0, i10, eq_self, le0n, ite_not]
      repeat' split
      all_goals (refine step _ ?_; simp [lkG, bI, *])
    · have e1 : k = c := by omega
      subst e1
      simp (disch := omega) only [↓rd5b R, hN, nI_leI, Nat.le_refl, ↓reduceIte]
theorem m_lacking (R : Rep M A s τ w) {c : Nat} (hN : τ 11 0 = nI c) (hc : c ≤ 40) (f p : Int32) : fX5_lacking M (A 10 0) f p = some (lackS τ c f p) := by
  unfold fX5_lacking lackS
  rw [sm_stop (n := c) (fun k hk => by
    have : ¬ k < c := by omega
    simp [lkG, this, bI]) 40 hc]
  exact lm_lacking R hN hc f p 1000 0 (by omega) (by omega)
theorem lm_strengthOf (R : Rep M A s τ w) {c : Nat} (hN : τ 11 0 = nI c) (hc : c ≤ 40) {t : Nat} (ht : t < 48) (e d : Int32) : ∀ n k, k ≤ c → c - k < n → lX5_strengthOf_6 M (A 10 0) (nI t) e d n (sm (fun k => if stG τ c t e d k = true then τ 14 k else 0) k) (nI k) = some (sm (fun k => if stG τ c t e d k = true then τ 14 k else 0) c) := by
  intro n
  induction n with
  | zero =>
    intro k h1 h2
    omega
  | succ n ih =>
    intro k h1 h2
    rw [lX5_strengthOf_6]
    by_cases e0 : k < c
    · have e1 : ¬ c ≤ k := by omega
      have step : ∀ x, x = (if stG τ c t e d k = true then τ 14 k else 0) → lX5_strengthOf_6 M (A 10 0) (nI t) e d n (sm (fun k => if stG τ c t e d k = true then τ 14 k else 0) k + x) (nI (k + 1)) = some (sm (fun k => if stG τ c t e d k = true then τ 14 k else 0) c) := fun x hx => by
        subst hx
        exact ih (k + 1) (by omega) (by omega)
      simp only [bX5_strengthOf_61, bX5_strengthOf_62, bX5_strengthOf_96, bX5_strengthOf_100, bX5_strengthOf_101, bX5_strengthOf_136]
      simp (disch := omega) only [↓rd5b R, ↓rdAb R, hN, nI_leI, e1, ↓reduceIte, ↓has5b, ltn, ite_not, nI_1, bI_0, i10, eq_self, d8, r8]
      repeat' split
      all_goals (refine step _ ?_; simp [stG, *])
    · have e1 : k = c := by omega
      subst e1
      simp (disch := omega) only [↓rd5b R, hN, nI_leI, Nat.le_refl, ↓reduceIte]
theorem m_strengthOf (R : Rep M A s τ w) {c : Nat} (hN : τ 11 0 = nI c) (hc : c ≤ 40) {t : Nat} (ht : t < 48) (e d : Int32) : fX5_strengthOf M (A 10 0) (nI t) e d = some (strS τ c t e d) := by
  unfold fX5_strengthOf strS
  rw [sm_stop (n := c) (fun k hk => by
    have : ¬ k < c := by omega
    simp [stG, this]) 40 hc]
  exact lm_strengthOf R hN hc ht e d 1000 0 (by omega) (by omega)
theorem lm_areStrong (R : Rep M A s τ w) {c : Nat} (hN : τ 11 0 = nI c) (hc : c ≤ 40) {t k : Nat} (ht : t < 48) (hk : k < 8) (least d : Int32) : ∀ n e, e ≤ 10 → 10 - e < n → lX5_areStrong_6 M (A 10 0) (nI t) (nI k) least d n (bI (allN (fun e => !hb (τ 3 k) (nI e) || decide (least ≤ strS τ c t (nI e) d)) e)) (nI e) = some (bI (strgS τ c t k least d)) := by
  intro n
  induction n with
  | zero =>
    intro e h1 h2
    omega
  | succ n ih =>
    intro e h1 h2
    rw [lX5_areStrong_6]
    by_cases e0 : e < 10
    · have e1 : ¬ 10 ≤ e := by omega
      have step : ∀ x, x = bI (allN (fun e => !hb (τ 3 k) (nI e) || decide (least ≤ strS τ c t (nI e) d)) (e + 1)) → lX5_areStrong_6 M (A 10 0) (nI t) (nI k) least d n x (nI (e + 1)) = some (bI (strgS τ c t k least d)) := fun x hx => by
        subst hx
        exact ih (e + 1) (by omega) (by omega)
      simp only [bX5_areStrong_45]
      simp (disch := omega) only [↓rd5b R, ↓rdAb R, l10, e1, ↓reduceIte, ↓has5b, nI_1, bI_0, ↓(fun (e d : Int32) (f : Int32 → Option Int32) => obind (m_strengthOf R hN hc ht e d) f)]
      repeat' split
      all_goals (refine step _ ?_; rw [allN]; simp_all [bI])
    · have e1 : e = 10 := by omega
      subst e1
      simp (disch := omega) only [l10, Nat.le_refl, ↓reduceIte, hbz_bI]
      rfl
theorem m_areStrong (R : Rep M A s τ w) {c : Nat} (hN : τ 11 0 = nI c) (hc : c ≤ 40) {t k : Nat} (ht : t < 48) (hk : k < 8) (least d : Int32) : fX5_areStrong M (A 10 0) (nI t) (nI k) least d = some (bI (strgS τ c t k least d)) := lm_areStrong R hN hc ht hk least d 1000 0 (by omega) (by omega)
theorem m_areOver (R : Rep M A s τ w) {a b : Nat} (ha : a < 8) (hb' : b < 8) : fX5_areOver M (A 10 0) (nI a) (nI b) = some (bI (ovS τ a b)) := by
  unfold fX5_areOver
  simp (disch := omega) only [↓rd5b R, ↓rdAb R, bX5_areOver_34]
  unfold ovS
  by_cases h1 : τ 3 a &&& τ 3 b = τ 3 a
  · simp [h1, bI]
  · by_cases h2 : τ 3 a &&& τ 3 b = τ 3 b <;> simp [h1, h2, bI]
end RM
