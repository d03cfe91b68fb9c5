/-! ===== numbers, bits, sums ===== -/
def bI (b : Bool) : Int32 := if b = true then 1 else 0
theorem bI_t : bI true = 1 := rfl
theorem bI_f : bI false = 0 := rfl
theorem bI_0 {b : Bool} : bI b = 0 ↔ b = false := by cases b <;> decide
theorem bI_1 {b : Bool} : bI b = 1 ↔ b = true := by cases b <;> decide
theorem bI_b (b : Bool) : bI b = 0 ∨ bI b = 1 := by cases b <;> decide
theorem hbz_bI (b : Bool) : hbz (bI b) = some (bI b) := if_pos (bI_b b)
theorem hbz_0 : hbz 0 = some 0 := if_pos (Or.inl rfl)
theorem hbz_1 : hbz 1 = some 1 := if_pos (Or.inr rfl)
def hb (a k : Int32) : Bool := decide ((a >>> (k &&& 31)) &&& 1 = 1)
theorem has4 (a k : Int32) : fX4_hasBit a k = some (bI (hb a k)) := by
  unfold fX4_hasBit hb bI
  by_cases h : (a >>> (k &&& 31)) &&& 1 = 1 <;> simp [h]
def inR (x a b : Int32) : Bool := decide (a ≤ x ∧ x ≤ b)
theorem in4 (x a b : Int32) : fX4_isWithin x a b = some (bI (inR x a b)) := by
  unfold fX4_isWithin inR bI
  by_cases h1 : x < a
  · have h : ¬ a ≤ x := Int32.not_le.mpr h1
    simp [h1, h]
  · have h : a ≤ x := Int32.not_lt.mp h1
    by_cases h2 : b < x
    · have h3 : ¬ x ≤ b := Int32.not_le.mpr h2
      simp [h1, h, h2, h3]
    · have h3 : x ≤ b := Int32.not_lt.mp h2
      simp [h1, h, h2, h3]
theorem inR_t {x a b : Int32} : inR x a b = true ↔ a ≤ x ∧ x ≤ b := by simp [inR]
theorem inR_nI {x : Int32} {b : Nat} (hb : b < 2 ^ 31) : inR x 0 (nI b) = true ↔ ∃ k, k ≤ b ∧ x = nI k := by
  rw [inR_t]
  constructor
  · rintro ⟨h1, h2⟩
    obtain ⟨j, hj, rfl⟩ := nI_of (x := x) (Int32.not_lt.mpr h1)
    exact ⟨j, (nI_leI hj hb).mp h2, rfl⟩
  · rintro ⟨k, hk, rfl⟩
    exact ⟨nI_pos' (by omega), (nI_leI (by omega) hb).mpr hk⟩
theorem inR_pre {x : Int32} {n : Nat} (hn : n < 2 ^ 31) : inR x 0 (nI n - 1) = true ↔ ∃ k, k < n ∧ x = nI k := by
  cases n with
  | zero =>
    rw [inR_t]
    constructor
    · rintro ⟨h1, h2⟩
      have h3 : x.toInt ≤ -1 := by
        have := Int32.le_iff_toInt_le.mp h2
        rwa [show (nI 0 - 1).toInt = -1 by decide] at this
      have h4 : (0 : Int) ≤ x.toInt := by
        have := Int32.le_iff_toInt_le.mp h1
        rwa [show (0 : Int32).toInt = 0 by decide] at this
      omega
    · rintro ⟨k, hk, -⟩
      omega
  | succ m =>
    rw [nI_pred, inR_nI (by omega)]
    constructor
    · rintro ⟨k, hk, e⟩
      exact ⟨k, by omega, e⟩
    · rintro ⟨k, hk, e⟩
      exact ⟨k, by omega, e⟩
def sm (g : Nat → Int32) : Nat → Int32
  | 0 => 0
  | n + 1 => sm g n + g n
theorem sm_stop {g : Nat → Int32} {n : Nat} (h : ∀ k, n ≤ k → g k = 0) : ∀ m, n ≤ m → sm g m = sm g n := by
  intro m
  induction m with
  | zero =>
    intro q
    rw [show n = 0 by omega]
  | succ m ih =>
    intro q
    by_cases e : n = m + 1
    · rw [e]
    · rw [sm, ih (by omega), h m (by omega), Int32.add_zero]
theorem sm_cong {g g' : Nat → Int32} : ∀ {n : Nat}, (∀ k, k < n → g k = g' k) → sm g n = sm g' n
  | 0, _ => rfl
  | n + 1, h => by rw [sm, sm, sm_cong (fun k hk => h k (by omega)), h n (by omega)]
def allN (p : Nat → Bool) : Nat → Bool
  | 0 => true
  | n + 1 => allN p n && p n
def exN (p : Nat → Bool) : Nat → Bool
  | 0 => false
  | n + 1 => exN p n || p n
theorem allN_iff {p : Nat → Bool} : ∀ {n : Nat}, allN p n = true ↔ ∀ k, k < n → p k = true
  | 0 => by simp [allN]
  | n + 1 => by
    rw [allN, Bool.and_eq_true, allN_iff]
    constructor
    · rintro ⟨h1, h2⟩ k hk
      by_cases e : k = n
      · rw [e]; exact h2
      · exact h1 k (by omega)
    · intro h
      exact ⟨fun k hk => h k (by omega), h n (by omega)⟩
theorem exN_iff {p : Nat → Bool} : ∀ {n : Nat}, exN p n = true ↔ ∃ k, k < n ∧ p k = true
  | 0 => by simp [exN]
  | n + 1 => by
    rw [exN, Bool.or_eq_true, exN_iff]
    constructor
    · rintro (⟨k, hk, h⟩ | h)
      · exact ⟨k, by omega, h⟩
      · exact ⟨n, by omega, h⟩
    · rintro ⟨k, hk, h⟩
      by_cases e : k = n
      · right; rw [← e]; exact h
      · exact Or.inl ⟨k, by omega, h⟩
theorem exN_f {p : Nat → Bool} {n : Nat} : exN p n = false ↔ ∀ k, k < n → p k = false := by
  rw [← Bool.not_eq_true, exN_iff]
  constructor
  · intro h k hk
    cases e : p k with
    | false => rfl
    | true => exact absurd ⟨k, hk, e⟩ h
  · rintro h ⟨k, hk, e⟩
    rw [h k hk] at e
    cases e
theorem allN_f {p : Nat → Bool} {n : Nat} : allN p n = false ↔ ∃ k, k < n ∧ p k = false := by
  rw [← Bool.not_eq_true, allN_iff]
  constructor
  · intro h
    apply Classical.byContradiction
    intro q
    exact h fun k hk => by
      cases e : p k with
      | true => rfl
      | false => exact absurd ⟨k, hk, e⟩ q
  · rintro ⟨k, hk, e⟩ h
    rw [h k hk] at e
    cases e
def bitN (k : Nat) : Int32 := 1 <<< (nI k &&& 31)
def orN (p : Nat → Bool) : Nat → Int32
  | 0 => 0
  | n + 1 => orN p n ||| (if p n = true then bitN n else 0)
theorem orN_stop {p : Nat → Bool} {n : Nat} (h : ∀ k, n ≤ k → p k = false) : ∀ m, n ≤ m → orN p m = orN p n := by
  intro m
  induction m with
  | zero =>
    intro q
    rw [show n = 0 by omega]
  | succ m ih =>
    intro q
    by_cases e : n = m + 1
    · rw [e]
    · rw [orN, ih (by omega), h m (by omega), if_neg (by decide), Int32.or_zero]
/-! what the answers are, told by the numbers alone -/
def lkG (σ : hσ) (c : Nat) (f p : Int32) (k : Nat) : Bool := decide (k < c) && decide (σ 12 k = f) && decide (σ 14 k < 0) && hb (σ 15 k) p && !hb (σ 20 k) p && decide (σ 21 k = 0)
def lackS (σ : hσ) (c : Nat) (f p : Int32) : Int32 := sm (fun k => bI (lkG σ c f p k)) 40
def stG (σ : hσ) (c t : Nat) (e d : Int32) (k : Nat) : Bool := decide (k < c) && decide (σ 12 k = nI (t / 8)) && decide (σ 13 k = e) && hb (σ 15 k) (nI (t % 8)) && decide (σ 18 k ≤ d) && (decide (σ 16 k = 0) || (decide (σ 19 k ≠ -1) && decide (σ 19 k ≤ d)))
def strS (σ : hσ) (c t : Nat) (e d : Int32) : Int32 := sm (fun k => if stG σ c t e d k = true then σ 14 k else 0) 40
def strgS (σ : hσ) (c t k : Nat) (least d : Int32) : Bool := allN (fun e => !hb (σ 3 k) (nI e) || decide (least ≤ strS σ c t (nI e) d)) 10
def ovS (σ : hσ) (a b : Nat) : Bool := decide (σ 3 a &&& σ 3 b = σ 3 a) || decide (σ 3 a &&& σ 3 b = σ 3 b)
def hadS (σ : hσ) (t j : Nat) (d : Int32) : Bool := decide (σ (1001 + 2 * t) j ≠ -1) && decide (σ (1001 + 2 * t) j ≤ d)
def spS (σ : hσ) (cO t k : Nat) (d : Int32) : Bool := exN (fun j => ovS σ k j && hadS σ t j d) cO
def whyS (σ : hσ) (cO cI t k : Nat) (d : Int32) : Int32 := if d ≤ σ 8 (t / 8) + σ 5 k then (if spS σ cO t k d = true then 2 else if strgS σ cI t k 5 d = true then (if 0 < σ 4 k + σ 10 (t / 8) then 0 else 4) else 3) else 1
def heavS (σ : hσ) (cO : Nat) (set : Int32) : Int32 := sm (fun k => if (decide (k < cO) && hb set (nI k)) = true then σ 4 k else 0) 8
def canS (σ : hσ) (cO cI t : Nat) (d : Int32) : Int32 := orN (fun k => decide (k < cO) && decide (whyS σ cO cI t k d = 0)) 8
def prvS (σ : hσ) (cO cI t : Nat) : Int32 := orN (fun k => decide (k < cO) && (hb (σ 23 t) (nI k) && strgS σ cI t k 8 (σ 1 0))) 8
def sptS (σ : hσ) (cO t : Nat) : Int32 := orN (fun k => decide (k < cO) && spS σ cO t k (σ 1 0)) 8
theorem has4b (a k : Int32) {β : Type} (f : Int32 → Option β) : (fX4_hasBit a k).bind f = f (bI (hb a k)) := obind (has4 a k) f
theorem in4b (a b c : Int32) {β : Type} (f : Int32 → Option β) : (fX4_isWithin a b c).bind f = f (bI (inR a b c)) := obind (in4 a b c) f
theorem i10 : ((1 : Int32) = 0) = False := eq_false (by decide)
theorem l10 {k : Nat} (h : k < 2 ^ 31) : ((10 : Int32) ≤ nI k) = (10 ≤ k) := propext (nI_leI (a := 10) (by decide) h)
theorem l8 {k : Nat} (h : k < 2 ^ 31) : ((8 : Int32) ≤ nI k) = (8 ≤ k) := propext (nI_leI (a := 8) (by decide) h)
theorem l6 {k : Nat} (h : k < 2 ^ 31) : ((6 : Int32) ≤ nI k) = (6 ≤ k) := propext (nI_leI (a := 6) (by decide) h)
theorem l40 {k : Nat} (h : k < 2 ^ 31) : ((40 : Int32) ≤ nI k) = (40 ≤ k) := propext (nI_leI (a := 40) (by decide) h)
theorem l48 {k : Nat} (h : k < 2 ^ 31) : ((48 : Int32) ≤ nI k) = (48 ≤ k) := propext (nI_leI (a := 48) (by decide) h)
theorem l256 {k : Nat} (h : k < 2 ^ 31) : ((256 : Int32) ≤ nI k) = (256 ≤ k) := propext (nI_leI (a := 256) (by decide) h)
theorem d8 {t : Nat} (h : t < 2 ^ 31) : nI t / 8 = nI (t / 8) := pk_div (d := 8) h (by decide) (by decide)
theorem r8 {t : Nat} (h : t < 2 ^ 31) : nI t - nI (t / 8) * 8 = nI (t % 8) := by
  rw [← d8 h]
  exact pk_rem (d := 8) h (by decide) (by decide)
theorem m8 (f p : Nat) : 8 * nI f + nI p = nI (8 * f + p) := by
  rw [show (8 : Int32) = nI 8 from rfl, pk_mul, nI_add]
theorem le0n {x : Int32} : (0 ≤ x) = ¬ x < 0 := propext Int32.not_lt.symm
theorem ltn {x y : Int32} : (x < y) = ¬ y ≤ x := propext Int32.not_le.symm
def isinP (σ : hσ) (cF : Nat) (a1 a2 : Int32) : Prop := ∃ f p : Nat, a1 = nI f ∧ a2 = nI p ∧ f < cF ∧ p < 8 ∧ hb (σ 9 f) (nI p) = true
def popN (n : Nat) : Nat := n % 2 + n / 2 % 2 + n / 4 % 2 + n / 8 % 2 + n / 16 % 2 + n / 32 % 2 + n / 64 % 2 + n / 128 % 2
set_option maxRecDepth 100000 in
theorem sz6 : ∀ n, n < 256 → fJ6_bitCount_0f7a4 (nI n) = some (nI (popN n)) := by decide +kernel
theorem bit_2 (k : Nat) : bitN k = 1 <<< (nI k &&& 31) := rfl
theorem l0n {x : Int32} : (0 < x) = ¬ x ≤ 0 := propext Int32.not_le.symm
