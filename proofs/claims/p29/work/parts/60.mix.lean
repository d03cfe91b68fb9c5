/-! ===== the law's own questions: the mix of all, what is known on a day ===== -/
/-- the law's numbers beside the class's: how many there are of each, the accused of each file -/
def LW (τ s : hσ) (cO cF cI : Nat) : Prop := τ 12 0 = nI cO ∧ τ 12 1 = nI cF ∧ τ 12 2 = nI cI ∧ ∀ k, k < cF → τ 13 k = s 9 k
theorem dv_nI {a d : Nat} (ha : a < 2 ^ 31) (h0 : 0 < d) (hd : d < 2 ^ 31) : dvI (nI a) (nI d) = some (nI (a / d)) := by
  unfold dvI
  rw [if_neg (fun z => by have := (nI_eq (b := 0) hd (by decide)).mp z; omega), pk_div ha h0 hd]
theorem rm_nI {a d : Nat} (ha : a < 2 ^ 31) (h0 : 0 < d) (hd : d < 2 ^ 31) : rmI (nI a) (nI d) = some (nI (a % d)) := by
  unfold rmI
  rw [if_neg (fun z => by have := (nI_eq (b := 0) hd (by decide)).mp z; omega), pk_rem ha h0 hd]
theorem rem2 {a d : Nat} (ha : a < 2 ^ 31) (h0 : 0 < d) (hd : d < 2 ^ 31) : nI a - nI (a / d) * nI d = nI (a % d) := by
  rw [← pk_div ha h0 hd]
  exact pk_rem ha h0 hd
theorem bt1 (a k : Int32) : ((a >>> (k &&& 31)) &&& 1 = 1) = (hb a k = true) := by
  unfold hb
  rw [decide_eq_true_eq]
section LQ
variable {M : hM} {A : hAd} {s τ : hσ} {cO cF cI : Nat}
theorem rp0b (R : Rep M A s τ) {β : Type} (f : Int32 → Option β) : (aI M 0 (some (A 11 12)) 0).bind f = f (τ 12 0) := (rdAb R).1 0 (by decide) β f
theorem rp1b (R : Rep M A s τ) {β : Type} (f : Int32 → Option β) : (aI M 0 (some (A 11 12)) 1).bind f = f (τ 12 1) := (rdAb R).1 1 (by decide) β f
theorem rp2b (R : Rep M A s τ) {β : Type} (f : Int32 → Option β) : (aI M 0 (some (A 11 12)) 2).bind f = f (τ 12 2) := (rdAb R).1 2 (by decide) β f
theorem rp0e (R : Rep M A s τ) (f : Int32 → Prop) : (∃ x, aI M 0 (some (A 11 12)) 0 = some x ∧ f x) = f (τ 12 0) := (rdAe R).1 0 (by decide) f
theorem rp1e (R : Rep M A s τ) (f : Int32 → Prop) : (∃ x, aI M 0 (some (A 11 12)) 1 = some x ∧ f x) = f (τ 12 1) := (rdAe R).1 1 (by decide) f
theorem rp2e (R : Rep M A s τ) (f : Int32 → Prop) : (∃ x, aI M 0 (some (A 11 12)) 2 = some x ∧ f x) = f (τ 12 2) := (rdAe R).1 2 (by decide) f
theorem mix_191 (R : Rep M A s τ) (I : Inv cO cF cI s) (L : LW τ s cO cF cI) : ∀ n k a, k ≤ cO * cO → cO * cO - k < n → ∃ v, lL_mix_191 M (some (A 0 0)) (some (A 11 12)) n a (nI k) = some v := by
  have hO8 := I.1.2.1
  have h64 : cO * cO ≤ 64 := Nat.mul_le_mul hO8 hO8
  intro n
  induction n with
  | zero =>
    intro k a h1 h2
    omega
  | succ n ih =>
    intro k a h1 h2
    rw [lL_mix_191]
    simp only [↓rp0b R, L.1, pk_mul]
    by_cases e0 : k < cO * cO
    · rw [if_neg (fun z => by have := (nI_leI (by omega) (by omega)).mp z; omega)]
      have hpos : 0 < cO := by
        rcases Nat.eq_zero_or_pos cO with z | z
        · rw [z] at e0
          omega
        · exact z
      have d1 : k / cO < cO := Nat.div_lt_of_lt_mul e0
      have d2 : k % cO < cO := Nat.mod_lt _ hpos
      simp only [↓(fun (g : Int32 → Option Int64) => obind (dv_nI (a := k) (d := cO) (by omega) hpos (by omega)) g), ↓(fun (g : Int32 → Option Int64) => obind (rm_nI (a := k) (d := cO) (by omega) hpos (by omega)) g), pk_div (a := k) (d := cO) (by omega) hpos (by omega), rem2 (a := k) (d := cO) (by omega) hpos (by omega), ↓(fun (g : Int32 → Option Int64) => obind (fL_nests_t R I.2.1 hO8 d1 d2) g), nI_1]
      exact ih (k + 1) _ (by omega) (by omega)
    · have : k = cO * cO := by omega
      subst this
      rw [if_pos (Int32.le_refl _)]
      exact ⟨a, rfl⟩
theorem mix_118 (R : Rep M A s τ) (I : Inv cO cF cI s) (L : LW τ s cO cF cI) : ∀ n k a, k ≤ cI → cI - k < n → ∃ v, lL_mix_118 M (some (A 0 0)) (some (A 11 12)) n a (nI k) = some v := by
  have hI4 := I.1.2.2.2.2.2.1
  have h64 : cO * cO ≤ 64 := Nat.mul_le_mul I.1.2.1 I.1.2.1
  intro n
  induction n with
  | zero =>
    intro k a h1 h2
    omega
  | succ n ih =>
    intro k a h1 h2
    rw [lL_mix_118]
    simp only [↓rp2b R, L.2.2.1]
    by_cases e0 : k < cI
    · rw [if_neg (fun z => by have := (nI_leI (by omega) (by omega)).mp z; omega)]
      obtain ⟨v4, h4⟩ := fL_item_t R I.2.1 hI4 e0 (j := 4) (by decide)
      obtain ⟨v5, h5⟩ := fL_item_t R I.2.1 hI4 e0 (j := 5) (by decide)
      obtain ⟨v6, h6⟩ := fL_item_t R I.2.1 hI4 e0 (j := 6) (by decide)
      obtain ⟨v7, h7⟩ := fL_item_t R I.2.1 hI4 e0 (j := 7) (by decide)
      have g4 : fL_ofItemq M (some (A 0 0)) (nI k) 4 = some v4 := h4
      have g5 : fL_ofItemq M (some (A 0 0)) (nI k) 5 = some v5 := h5
      have g6 : fL_ofItemq M (some (A 0 0)) (nI k) 6 = some v6 := h6
      have g7 : fL_ofItemq M (some (A 0 0)) (nI k) 7 = some v7 := h7
      rw [obind g4, obind g5, obind g6, obind g7, nI_1]
      exact ih (k + 1) _ (by omega) (by omega)
    · have : k = cI := by omega
      subst this
      rw [if_pos (Int32.le_refl _)]
      exact mix_191 R I L 1000 0 a (by omega) (by omega)
theorem mix_72 (R : Rep M A s τ) (I : Inv cO cF cI s) {K : Nat} (ha : accS s cF K = true) (k39 : Int64 → Int32 → Option Int64) (a1 a2 : Option Nat) (hk : ∀ a, ∃ v, k39 a (nI K + 1) = some v) : ∀ n k a, k ≤ 8 → 8 - k < n → ∃ v, lL_mix_72 M k39 (some (A 0 0)) a1 a2 (nI K) n a (nI k) = some v := by
  have h48 := acc48 I ha
  intro n
  induction n with
  | zero =>
    intro k a h1 h2
    omega
  | succ n ih =>
    intro k a h1 h2
    rw [lL_mix_72]
    by_cases e0 : k < 8
    · have e1 : ¬ 8 ≤ k := by omega
      rw [if_neg (by rw [l8 (by omega)]; exact e1)]
      have ha' : accS s cF (8 * (K / 8) + K % 8) = true := by
        rw [show 8 * (K / 8) + K % 8 = K by omega]
        exact ha
      simp only [d8 (t := K) (by omega), r8 (t := K) (by omega), ↓(fun (g : Int32 → Option Int64) => obind (fL_of_t R I.2.1 I.1.2.1 I.1.2.2.2.1 (accS_f ha) (by omega) ha' e0) g), nI_1]
      exact ih (k + 1) _ (by omega) (by omega)
    · have : k = 8 := by omega
      subst this
      rw [if_pos (by decide)]
      exact hk a
theorem acc_K {K : Nat} (h : K / 8 < cF) : accS s cF K = hb (s 9 (K / 8)) (nI (K % 8)) := by
  unfold accS
  rw [decide_eq_true h, Bool.true_and]
theorem mix_39 (R : Rep M A s τ) (I : Inv cO cF cI s) (L : LW τ s cO cF cI) : ∀ n k a, k ≤ 8 * cF → 8 * cF - k < n → ∃ v, lL_mix_39 M (some (A 0 0)) (some (A 11 12)) (some (A 11 13)) n a (nI k) = some v := by
  have hF6 := I.1.2.2.2.1
  intro n
  induction n with
  | zero =>
    intro k a h1 h2
    omega
  | succ n ih =>
    intro k a h1 h2
    rw [lL_mix_39]
    simp only [↓rp1b R, L.2.1, show (8 : Int32) * nI cF = nI (8 * cF) from pk_mul 8 cF]
    by_cases e0 : k < 8 * cF
    · rw [if_neg (fun z => by have := (nI_leI (by omega) (by omega)).mp z; omega)]
      have hk : k / 8 < cF := by omega
      simp only [d8 (t := k) (by omega), r8 (t := k) (by omega), ↓(fun (g : Int32 → Option Int64) => obind ((rdA R).2.1 (k / 8) (by omega)) g), L.2.2.2 (k / 8) hk, bt1, ← acc_K hk]
      cases ha : accS s cF k with
      | true =>
        rw [if_pos rfl]
        exact mix_72 R I ha _ _ _ (fun a => by rw [nI_1]; exact ih (k + 1) a (by omega) (by omega)) 1000 0 a (by omega) (by omega)
      | false =>
        rw [if_neg (by decide), nI_1]
        exact ih (k + 1) a (by omega) (by omega)
    · have : k = 8 * cF := by omega
      subst this
      rw [if_pos (Int32.le_refl _)]
      exact mix_118 R I L 1000 0 a (by omega) (by have := I.1.2.2.2.2.2.1; omega)
theorem mix_9 (R : Rep M A s τ) (I : Inv cO cF cI s) (L : LW τ s cO cF cI) : ∀ n k a, k ≤ 6 → 6 - k < n → ∃ v, lL_mix_9 M (some (A 0 0)) (some (A 11 12)) (some (A 11 13)) n a (nI k) = some v := by
  intro n
  induction n with
  | zero =>
    intro k a h1 h2
    omega
  | succ n ih =>
    intro k a h1 h2
    rw [lL_mix_9]
    by_cases e0 : k < 6
    · have e1 : ¬ 6 ≤ k := by omega
      rw [if_neg (by rw [l6 (by omega)]; exact e1), obind (fL_count_t R e0), nI_1]
      exact ih (k + 1) _ (by omega) (by omega)
    · have : k = 6 := by omega
      subst this
      rw [if_pos (by decide)]
      exact mix_39 R I L 1000 0 a (by omega) (by have := I.1.2.2.2.1; omega)
theorem mix_t (R : Rep M A s τ) (I : Inv cO cF cI s) (L : LW τ s cO cF cI) : ∃ v, fL_mix M (some (A 0 0)) (some (A 11 12)) (some (A 11 13)) = some v := by
  unfold fL_mix
  simp only [↓rd4b R]
  rw [obind (c_day R)]
  exact mix_9 R I L 1000 0 _ (by omega) (by omega)
/-! what is known of an accused on a day, as a number -/
def accF (c : Int64) (g : Nat → Int32) : Nat → Int64 → Nat → Int64
  | 0, a, _ => a
  | m + 1, a, k => accF c g m (c * a + (g k).toInt64) (k + 1)
theorem accF_cong {c : Int64} {g g' : Nat → Int32} : ∀ m a k, (∀ j, k ≤ j → j < k + m → g j = g' j) → accF c g m a k = accF c g' m a k
  | 0, _, _, _ => rfl
  | m + 1, a, k, h => by
    rw [accF, accF, h k (Nat.le_refl _) (by omega)]
    exact accF_cong m _ (k + 1) (fun j h1 h2 => h j (by omega) (by omega))
def knV (w e : Nat → Int32) (cO : Nat) : Int64 := accF 37 e 10 (accF 31 w cO 0 0) 0
theorem kn_48 (R : Rep M A s τ) (I : Inv cO cF cI s) {t : Nat} (ha : accS s cF t = true) {d : Int32} (hd : inR d 0 (s 1 0) = true) : ∀ n k a, k ≤ 10 → 10 - k < n → lL_known_48 M (some (A 0 0)) (nI t) d n a (nI k) = some (accF 37 (fun e => strS s cI t (nI e) d) (10 - k) a k) := by
  have h48 := acc48 I ha
  have ha' : accS s cF (8 * (t / 8) + t % 8) = true := by
    rw [show 8 * (t / 8) + t % 8 = t by omega]
    exact ha
  intro n
  induction n with
  | zero =>
    intro k a h1 h2
    omega
  | succ n ih =>
    intro k a h1 h2
    rw [lL_known_48]
    by_cases e0 : k < 10
    · have e1 : ¬ 10 ≤ k := by omega
      have q := fL_str_t R I.2.1 I.1.2.2.2.1 (accS_f ha) (by omega) ha' e0 hd
      rw [show 8 * (t / 8) + t % 8 = t by omega] at q
      rw [if_neg (by rw [l10 (by omega)]; exact e1)]
      simp only [d8 (t := t) (by omega), r8 (t := t) (by omega), ↓(fun (g : Int32 → Option Int64) => obind q g), nI_1]
      rw [ih (k + 1) _ (by omega) (by omega), show 10 - k = (10 - (k + 1)) + 1 by omega, accF]
    · have : k = 10 := by omega
      subst this
      rw [if_pos (by decide)]
      rfl
theorem kn_6 (R : Rep M A s τ) (I : Inv cO cF cI s) (L : LW τ s cO cF cI) {t : Nat} (ha : accS s cF t = true) {d : Int32} (hd : inR d 0 (s 1 0) = true) : ∀ n k a, k ≤ cO → cO - k < n → lL_known_6 M (some (A 0 0)) (some (A 11 12)) (nI t) d n a (nI k) = some (accF 37 (fun e => strS s cI t (nI e) d) 10 (accF 31 (fun k => whyS s cO cI t k d) (cO - k) a k) 0) := by
  have h48 := acc48 I ha
  have hO8 := I.1.2.1
  have ha' : accS s cF (8 * (t / 8) + t % 8) = true := by
    rw [show 8 * (t / 8) + t % 8 = t by omega]
    exact ha
  intro n
  induction n with
  | zero =>
    intro k a h1 h2
    omega
  | succ n ih =>
    intro k a h1 h2
    rw [lL_known_6]
    simp only [↓rp0b R, L.1]
    by_cases e0 : k < cO
    · have q := fL_why_t R I.2.1 hO8 I.1.2.2.2.1 (accS_f ha) (by omega) ha' e0 hd
      rw [show 8 * (t / 8) + t % 8 = t by omega] at q
      rw [if_neg (fun z => by have := (nI_leI (by omega) (by omega)).mp z; omega)]
      simp only [d8 (t := t) (by omega), r8 (t := t) (by omega), ↓(fun (g : Int32 → Option Int64) => obind q g), nI_1]
      rw [ih (k + 1) _ (by omega) (by omega), show cO - k = (cO - (k + 1)) + 1 by omega]
      rfl
    · have : k = cO := by omega
      subst this
      rw [if_pos (Int32.le_refl _), Nat.sub_self]
      exact kn_48 R I ha hd 1000 0 a (by omega) (by omega)
theorem known_t (R : Rep M A s τ) (I : Inv cO cF cI s) (L : LW τ s cO cF cI) {t : Nat} (ha : accS s cF t = true) {d : Int32} (hd : inR d 0 (s 1 0) = true) : fL_known M (some (A 0 0)) (some (A 11 12)) (nI t) d = some (knV (fun k => whyS s cO cI t k d) (fun e => strS s cI t (nI e) d) cO) := by
  have q := kn_6 R I L ha hd 1000 0 0 (by omega) (by have := I.1.2.1; omega)
  rw [Nat.sub_zero] at q
  exact q
/-! the set's bits -/
set_option maxRecDepth 100000 in
theorem bits_t : ∀ n, n < 256 → fL_bits (nI n) = some (nI (popN n)) := by decide +kernel
end LQ
