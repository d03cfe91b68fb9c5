/-! ===== bits of a number ===== -/
def bt (x : Int32) (i : Nat) : Bool := x.toBitVec.getLsbD i
theorem b_ext {x y : Int32} (h : ∀ i, i < 32 → bt x i = bt y i) : x = y := Int32.toBitVec_inj.mp (BitVec.eq_of_getLsbD_eq (fun i hi => h i hi))
theorem b_or (x y : Int32) (i : Nat) : bt (x ||| y) i = (bt x i || bt y i) := by unfold bt; rw [Int32.toBitVec_or, BitVec.getLsbD_or]
theorem b_and (x y : Int32) (i : Nat) : bt (x &&& y) i = (bt x i && bt y i) := by unfold bt; rw [Int32.toBitVec_and, BitVec.getLsbD_and]
theorem b_xor (x y : Int32) (i : Nat) : bt (x ^^^ y) i = (bt x i ^^ bt y i) := by unfold bt; rw [Int32.toBitVec_xor, BitVec.getLsbD_xor]
theorem b_m1 : ∀ i, i < 32 → bt (-1) i = true := by decide +kernel
theorem b_0 (i : Nat) : bt 0 i = false := BitVec.getLsbD_zero
theorem s_l : ∀ n, n < 32 → ((nI n &&& 31).toBitVec.smod 32).toNat = n := by decide +kernel
theorem b_shl (n : Nat) (hn : n < 32) (x : Int32) {i : Nat} (hi : i < 32) : bt (x <<< (nI n &&& 31)) i = (decide (n ≤ i) && bt x (i - n)) := by
  unfold bt
  rw [Int32.toBitVec_shiftLeft]
  show (x.toBitVec <<< ((nI n &&& 31).toBitVec.smod 32).toNat).getLsbD i = _
  rw [s_l n hn, BitVec.getLsbD_shiftLeft]
  rcases Nat.lt_or_ge i n with h | h
  · simp [h, Nat.not_le.mpr h]
  · simp [hi, h, Nat.not_lt.mpr h]
theorem b_sshr (n : Nat) (hn : n < 32) (x : Int32) {i : Nat} (hi : i < 32) : bt (x >>> (nI n &&& 31)) i = if n + i < 32 then bt x (n + i) else bt x 31 := by
  unfold bt
  rw [Int32.toBitVec_shiftRight]
  show (x.toBitVec.sshiftRight ((nI n &&& 31).toBitVec.smod 32).toNat).getLsbD i = _
  rw [s_l n hn, BitVec.getLsbD_sshiftRight, BitVec.msb_eq_getLsbD_last]
  simp [hi]
theorem b_not (x : Int32) {i : Nat} (hi : i < 32) : bt (x ^^^ (-1)) i = !bt x i := by
  rw [b_xor, b_m1 i hi]
  cases bt x i <;> rfl
theorem b_1 : ∀ i, i < 32 → bt 1 i = decide (i = 0) := by decide +kernel
theorem hb_bt (x : Int32) {k : Nat} (hk : k < 32) : hb x (nI k) = bt x k := by
  unfold hb
  have e : ((x >>> (nI k &&& 31)) &&& 1 = 1) ↔ bt x k = true := by
    constructor
    · intro h
      have := congrArg (fun z => bt z 0) h
      simp only [b_and, b_sshr k hk x (i := 0) (by decide), b_1 0 (by decide)] at this
      rw [if_pos (by omega)] at this
      simpa using this
    · intro h
      refine b_ext fun i hi => ?_
      rw [b_and, b_1 i hi]
      by_cases q : i = 0
      · subst q
        rw [b_sshr k hk x (i := 0) (by decide), if_pos (by omega)]
        simp [h]
      · simp [q]
  by_cases q : bt x k = true
  · rw [q]
    exact decide_eq_true (e.mpr q)
  · rw [Bool.not_eq_true] at q
    rw [q]
    exact decide_eq_false fun z => by
      rw [e.mp z] at q
      cases q
theorem bt_bitN {k i : Nat} (hk : k < 32) (hi : i < 32) : bt (bitN k) i = decide (i = k) := by
  unfold bitN
  rw [b_shl k hk 1 hi]
  by_cases h : k ≤ i
  · rw [b_1 _ (by omega)]
    by_cases e : i = k
    · simp [e]
    · have : ¬ i - k = 0 := by omega
      simp [this, e]
  · have : ¬ i = k := by omega
    simp [h, this]
theorem andnot {x y : Int32} : x &&& (y ^^^ (-1)) = 0 ↔ x &&& y = x := by
  constructor
  · intro h
    refine b_ext fun i hi => ?_
    have := congrArg (fun z => bt z i) h
    simp only [b_and, b_not y hi, b_0] at this
    rw [b_and]
    revert this
    generalize bt x i = a
    generalize bt y i = b
    cases a <;> cases b <;> decide
  · intro h
    refine b_ext fun i hi => ?_
    have := congrArg (fun z => bt z i) h
    simp only [b_and] at this
    rw [b_and, b_not y hi, b_0]
    revert this
    generalize bt x i = a
    generalize bt y i = b
    cases a <;> cases b <;> decide
theorem andnot_b {x y : Int32} : x &&& (y ^^^ (-1)) = 0 ↔ ∀ i, i < 32 → bt x i = true → bt y i = true := by
  rw [andnot]
  constructor
  · intro h i hi hx
    have := congrArg (fun z => bt z i) h
    simp only [b_and, hx, Bool.true_and] at this
    exact this
  · intro h
    refine b_ext fun i hi => ?_
    rw [b_and]
    cases e : bt x i with
    | false => rfl
    | true => rw [h i hi e]; rfl
theorem bt_orN {p : Nat → Bool} {i : Nat} (hi : i < 32) : ∀ {n : Nat}, n ≤ 32 → bt (orN p n) i = (decide (i < n) && p i)
  | 0, _ => by
    rw [orN, b_0]
    simp
  | n + 1, h => by
    rw [orN, b_or, bt_orN hi (n := n) (by omega)]
    by_cases e : i = n
    · subst e
      cases q : p i with
      | true =>
        rw [if_pos rfl, bt_bitN (by omega) hi]
        simp
      | false =>
        rw [if_neg (by decide), b_0]
        simp
    · have e1 : (i < n + 1) ↔ i < n := by omega
      cases q : p n with
      | true =>
        rw [if_pos rfl, bt_bitN (by omega) hi]
        simp [e, e1]
      | false =>
        rw [if_neg (by decide), b_0]
        simp [e1]
theorem exN_guard {p : Nat → Bool} {c m : Nat} (h : c ≤ m) : exN (fun j => decide (j < c) && p j) m = exN p c := by
  cases e : exN p c with
  | true =>
    obtain ⟨k, hk, hp⟩ := exN_iff.mp e
    exact exN_iff.mpr ⟨k, by omega, by simp [hk, hp]⟩
  | false =>
    have q := exN_f.mp e
    refine exN_f.mpr fun k _ => ?_
    by_cases hk : k < c
    · simp [q k hk]
    · simp [hk]
theorem ovS_comm (σ : hσ) (a b : Nat) : ovS σ a b = ovS σ b a := by
  unfold ovS
  rw [Int32.and_comm (σ 3 b) (σ 3 a), Bool.or_comm]
theorem snf {x : Nat} : ((some x : Option Nat) = none) = False := eq_false (fun h => by cases h)
theorem t8F {k : Nat} (h : k < 2 ^ 31) : nI k < 8 ↔ k < 8 := nI_ltI (a := k) (b := 8) h (by decide)
theorem t8 {k : Nat} : k < 8 → nI k < 8 := fun h => (t8F (by omega)).mpr h
theorem t6F {k : Nat} (h : k < 2 ^ 31) : nI k < 6 ↔ k < 6 := nI_ltI (a := k) (b := 6) h (by decide)
theorem t6 {k : Nat} : k < 6 → nI k < 6 := fun h => (t6F (by omega)).mpr h
theorem t40F {k : Nat} (h : k < 2 ^ 31) : nI k < 40 ↔ k < 40 := nI_ltI (a := k) (b := 40) h (by decide)
theorem t40 {k : Nat} : k < 40 → nI k < 40 := fun h => (t40F (by omega)).mpr h
/-! ===== what is there of the class's objects ===== -/
def accS (s : hσ) (cF t : Nat) : Bool := decide (t / 8 < cF) && hb (s 9 (t / 8)) (nI (t % 8))
def ExI (cO cF cI : Nat) (s : hσ) : Prop := (∀ k, s 110 k = bI (decide (k < cO))) ∧ (∀ k, s 114 k = bI (decide (k < cO))) ∧ (∀ k, s 111 k = bI (decide (k < cF))) ∧ (∀ k, s 115 k = bI (decide (k < cF))) ∧ (∀ k, s 118 k = bI (decide (k < cF))) ∧ (∀ k, s 113 k = bI (decide (k < cI))) ∧ (∀ k, s 116 k = bI (decide (k < cI))) ∧ (∀ t, s 112 t = bI (accS s cF t)) ∧ (∀ t, s 119 t = bI (accS s cF t)) ∧ (∀ f p, s (1000 + 2 * f) p = bI (decide (p < 8) && accS s cF (8 * f + p))) ∧ s 120 0 = 1
theorem bI_dt {p : Prop} [Decidable p] (h : p) : bI (decide p) = 1 := by rw [decide_eq_true h]; rfl
theorem bI_df {p : Prop} [Decidable p] (h : ¬ p) : bI (decide p) = 0 := by rw [decide_eq_false h]; rfl
section RC
variable {M : hM} {A : hAd} {s τ : hσ} {cO cF cI : Nat}
theorem ExI.o (E : ExI cO cF cI s) {k : Nat} (h : k < cO) : s 110 k = 1 := (E.1 k).trans (bI_dt h)
theorem ExI.f (E : ExI cO cF cI s) {k : Nat} (h : k < cF) : s 111 k = 1 := (E.2.2.1 k).trans (bI_dt h)
theorem ExI.r (E : ExI cO cF cI s) {k : Nat} (h : k < cF) : s 118 k = 1 := (E.2.2.2.2.1 k).trans (bI_dt h)
theorem ExI.i (E : ExI cO cF cI s) {k : Nat} (h : k < cI) : s 113 k = 1 := (E.2.2.2.2.2.1 k).trans (bI_dt h)
theorem ExI.a (E : ExI cO cF cI s) {t : Nat} (h : accS s cF t = true) : s 112 t = 1 := (E.2.2.2.2.2.2.2.1 t).trans (by rw [h]; rfl)
theorem ExI.g (E : ExI cO cF cI s) {t : Nat} (h : accS s cF t = true) : s 119 t = 1 := (E.2.2.2.2.2.2.2.2.1 t).trans (by rw [h]; rfl)
theorem ExI.out (E : ExI cO cF cI s) : s 120 0 = 1 := E.2.2.2.2.2.2.2.2.2.2
theorem accS_f {t : Nat} (h : accS s cF t = true) : t / 8 < cF := by
  unfold accS at h
  rw [Bool.and_eq_true] at h
  exact of_decide_eq_true h.1
theorem rO_t (R : Rep M A s τ) (E : ExI cO cF cI s) {k : Nat} (hk : k < 8) (h : k < cO) : aR M 3 (some (A 1 0)) (nI k) = some (some (A 4 k)) := by
  rw [(rdR R).1 k hk, E.2.1 k, bI_dt h]
  rfl
theorem rO_f (R : Rep M A s τ) (E : ExI cO cF cI s) {k : Nat} (hk : k < 8) (h : ¬ k < cO) : aR M 3 (some (A 1 0)) (nI k) = some none := by
  rw [(rdR R).1 k hk, E.2.1 k, bI_df h]
  rfl
theorem rF_t (R : Rep M A s τ) (E : ExI cO cF cI s) {k : Nat} (hk : k < 6) (h : k < cF) : aR M 4 (some (A 2 0)) (nI k) = some (some (A 5 k)) := by
  rw [(rdR R).2.1 k hk, E.2.2.2.1 k, bI_dt h]
  rfl
theorem rF_f (R : Rep M A s τ) (E : ExI cO cF cI s) {k : Nat} (hk : k < 6) (h : ¬ k < cF) : aR M 4 (some (A 2 0)) (nI k) = some none := by
  rw [(rdR R).2.1 k hk, E.2.2.2.1 k, bI_df h]
  rfl
theorem rI_t (R : Rep M A s τ) (E : ExI cO cF cI s) {k : Nat} (hk : k < 40) (h : k < cI) : aR M 5 (some (A 3 0)) (nI k) = some (some (A 9 k)) := by
  rw [(rdR R).2.2.1 k hk, E.2.2.2.2.2.2.1 k, bI_dt h]
  rfl
theorem rI_f (R : Rep M A s τ) (E : ExI cO cF cI s) {k : Nat} (hk : k < 40) (h : ¬ k < cI) : aR M 5 (some (A 3 0)) (nI k) = some none := by
  rw [(rdR R).2.2.1 k hk, E.2.2.2.2.2.2.1 k, bI_df h]
  rfl
theorem rW_t (R : Rep M A s τ) (E : ExI cO cF cI s) {f p : Nat} (hf : f < cF) (hp : p < 8) (h : accS s cF (8 * f + p) = true) : aR M 6 (some (A 6 f)) (nI p) = some (some (A 7 (8 * f + p))) := by
  rw [(rdR R).2.2.2.1 f p (E.r hf) hp, E.2.2.2.2.2.2.2.2.2.1 f p, decide_eq_true hp, Bool.true_and, h]
  rfl
theorem rW_f (R : Rep M A s τ) (E : ExI cO cF cI s) {f p : Nat} (hf : f < cF) (hp : p < 8) (h : accS s cF (8 * f + p) = false) : aR M 6 (some (A 6 f)) (nI p) = some none := by
  rw [(rdR R).2.2.2.1 f p (E.r hf) hp, E.2.2.2.2.2.2.2.2.2.1 f p, decide_eq_true hp, Bool.true_and, h]
  rfl
theorem c_offenceAt_t (R : Rep M A s τ) (E : ExI cO cF cI s) {k : Nat} (hk : k < 8) (h : k < cO) : fX4_offenceAt M (A 0 0) (nI k) = some (some (A 4 k)) := by
  unfold fX4_offenceAt
  rw [if_neg (nI_pos (by omega))]
  simp only [↓rd4b R, ↓rdLb R]
  rw [if_pos (t8 hk)]
  simp only [↓rd4b R, ↓(fun (f : Option Nat → Option (Option Nat)) => obind (rO_t R E hk h) f)]
theorem c_offenceAt_f (R : Rep M A s τ) (E : ExI cO cF cI s) {a : Int32} (h : ¬ ∃ k, k < cO ∧ a = nI k) : fX4_offenceAt M (A 0 0) a = some none := by
  unfold fX4_offenceAt
  by_cases h1 : a < 0
  · rw [if_pos h1]
    rfl
  · rw [if_neg h1]
    obtain ⟨j, hj, rfl⟩ := nI_of h1
    simp only [↓rd4b R, ↓rdLb R]
    by_cases h2 : j < 8
    · rw [if_pos (t8 h2)]
      simp only [↓rd4b R, ↓(fun (f : Option Nat → Option (Option Nat)) => obind (rO_f R E h2 (fun q => h ⟨j, q, rfl⟩)) f)]
    · rw [if_neg fun q => h2 ((t8F hj).mp q)]
      rfl
theorem c_fileAt_t (R : Rep M A s τ) (E : ExI cO cF cI s) {k : Nat} (hk : k < 6) (h : k < cF) : fX4_fileAt M (A 0 0) (nI k) = some (some (A 5 k)) := by
  unfold fX4_fileAt
  rw [if_neg (nI_pos (by omega))]
  simp only [↓rd4b R, ↓rdLb R]
  rw [if_pos (t6 hk)]
  simp only [↓rd4b R, ↓(fun (f : Option Nat → Option (Option Nat)) => obind (rF_t R E hk h) f)]
theorem c_fileAt_f (R : Rep M A s τ) (E : ExI cO cF cI s) {a : Int32} (h : ¬ ∃ k, k < cF ∧ a = nI k) : fX4_fileAt M (A 0 0) a = some none := by
  unfold fX4_fileAt
  by_cases h1 : a < 0
  · rw [if_pos h1]
    rfl
  · rw [if_neg h1]
    obtain ⟨j, hj, rfl⟩ := nI_of h1
    simp only [↓rd4b R, ↓rdLb R]
    by_cases h2 : j < 6
    · rw [if_pos (t6 h2)]
      simp only [↓rd4b R, ↓(fun (f : Option Nat → Option (Option Nat)) => obind (rF_f R E h2 (fun q => h ⟨j, q, rfl⟩)) f)]
    · rw [if_neg fun q => h2 ((t6F hj).mp q)]
      rfl
theorem c_itemAt_t (R : Rep M A s τ) (E : ExI cO cF cI s) {k : Nat} (hk : k < 40) (h : k < cI) : fX4_itemAt M (A 0 0) (nI k) = some (some (A 9 k)) := by
  unfold fX4_itemAt
  rw [if_neg (nI_pos (by omega))]
  simp only [↓rd4b R, ↓rdLb R]
  rw [if_pos (t40 hk)]
  simp only [↓rd4b R, ↓(fun (f : Option Nat → Option (Option Nat)) => obind (rI_t R E hk h) f)]
theorem c_itemAt_f (R : Rep M A s τ) (E : ExI cO cF cI s) {a : Int32} (h : ¬ ∃ k, k < cI ∧ a = nI k) : fX4_itemAt M (A 0 0) a = some none := by
  unfold fX4_itemAt
  by_cases h1 : a < 0
  · rw [if_pos h1]
    rfl
  · rw [if_neg h1]
    obtain ⟨j, hj, rfl⟩ := nI_of h1
    simp only [↓rd4b R, ↓rdLb R]
    by_cases h2 : j < 40
    · rw [if_pos (t40 h2)]
      simp only [↓rd4b R, ↓(fun (f : Option Nat → Option (Option Nat)) => obind (rI_f R E h2 (fun q => h ⟨j, q, rfl⟩)) f)]
    · rw [if_neg fun q => h2 ((t40F hj).mp q)]
      rfl
theorem c_rowOf_t (R : Rep M A s τ) (E : ExI cO cF cI s) {f p : Nat} (hf : f < cF) (hp : p < 8) (h : accS s cF (8 * f + p) = true) : fX1_rowOf M (A 5 f) (nI p) = some (some (A 7 (8 * f + p))) := by
  unfold fX1_rowOf
  rw [if_neg (nI_pos (by omega))]
  simp (disch := first | exact E.r hf | exact hf) only [↓rd1b R (E.f hf), ↓rdLb R]
  rw [if_pos (t8 hp)]
  simp only [↓rd1b R (E.f hf), ↓(fun (g : Option Nat → Option (Option Nat)) => obind (rW_t R E hf hp h) g)]
theorem c_rowOf_f (R : Rep M A s τ) (E : ExI cO cF cI s) {f : Nat} (hf : f < cF) {a : Int32} (h : ¬ ∃ p, p < 8 ∧ a = nI p ∧ accS s cF (8 * f + p) = true) : fX1_rowOf M (A 5 f) a = some none := by
  unfold fX1_rowOf
  by_cases h1 : a < 0
  · rw [if_pos h1]
    rfl
  · rw [if_neg h1]
    obtain ⟨j, hj, rfl⟩ := nI_of h1
    simp (disch := first | exact E.r hf | exact hf) only [↓rd1b R (E.f hf), ↓rdLb R]
    by_cases h2 : j < 8
    · rw [if_pos (t8 h2)]
      have h3 : accS s cF (8 * f + j) = false := by
        cases e : accS s cF (8 * f + j) with
        | false => rfl
        | true => exact absurd ⟨j, h2, rfl, e⟩ h
      simp only [↓rd1b R (E.f hf), ↓(fun (g : Option Nat → Option (Option Nat)) => obind (rW_f R E hf h2 h3) g)]
    · rw [if_neg fun q => h2 ((t8F hj).mp q)]
      rfl
end RC
