/-! ===== the best set: the methods ===== -/
def canB (σ : hσ) (cO cI t : Nat) (d : Int32) (k : Nat) : Bool := decide (k < cO) && decide (whyS σ cO cI t k d = 0)
def mateB (σ : hσ) (cO k j : Nat) : Bool := decide (j < cO) && (decide (k < cO) && (!hb (σ 6 k) (nI j) && !ovS σ j k))
theorem mateB_sym {σ : hσ} {cO : Nat} (hs : ∀ a b, a < cO → b < cO → hb (σ 6 a) (nI b) = hb (σ 6 b) (nI a)) (i j : Nat) : mateB σ cO i j = mateB σ cO j i := by
  unfold mateB
  by_cases h1 : i < cO
  · by_cases h2 : j < cO
    · rw [hs i j h1 h2, ovS_comm σ j i]
      simp [h1, h2]
    · simp [h2]
  · simp [h1]
theorem tb_8 {n k : Nat} (hn : n < 256) (hk : 8 ≤ k) : n.testBit k = false := Nat.testBit_lt_two_pow (Nat.lt_of_lt_of_le hn (Nat.pow_le_pow_right (n := 2) (by decide) hk))
theorem lt_of_bits {n c : Nat} (h : ∀ i, n.testBit i = true → i < c) : n < 2 ^ c := Nat.lt_pow_two_of_testBit n fun i hi => by
  cases e : n.testBit i with
  | false => rfl
  | true =>
    have := h i e
    omega
theorem rtA {n : Nat} (hn : n < 256) (can : Nat → Bool) : nI n &&& (orN can 8 ^^^ (-1)) = 0 ↔ ∀ k, k < 8 → n.testBit k = true → can k = true := by
  rw [andnot_b]
  constructor
  · intro h k hk hk2
    have := h k (by omega) (by rw [bt_nI n (by omega)]; exact hk2)
    rw [bt_orN (by omega) (by omega)] at this
    simpa [hk] using this
  · intro h i hi hi2
    rw [bt_nI n hi] at hi2
    by_cases e : i < 8
    · rw [bt_orN hi (by omega), h i e hi2]
      simp [e]
    · rw [tb_8 hn (by omega)] at hi2
      cases hi2
theorem rtM {n k : Nat} (hn : n < 256) (hk : k < 8) (mt : Nat → Bool) : (nI n &&& (bitN k ^^^ (-1))) &&& (orN mt 8 ^^^ (-1)) = 0 ↔ ∀ j, j < 8 → n.testBit j = true → j ≠ k → mt j = true := by
  rw [andnot_b]
  constructor
  · intro h j hj hj2 ne
    have := h j (by omega) (by rw [b_and, bt_nI n (by omega), b_not _ (by omega), bt_bitN (by omega) (by omega), hj2, decide_eq_false ne]; rfl)
    rw [bt_orN (by omega) (by omega)] at this
    simpa [hj] using this
  · intro h i hi hi2
    rw [b_and, bt_nI n hi, b_not _ hi, bt_bitN (by omega) hi, Bool.and_eq_true] at hi2
    obtain ⟨q1, q2⟩ := hi2
    have ne : i ≠ k := by
      intro e
      rw [e] at q2
      simp at q2
    by_cases e : i < 8
    · rw [bt_orN hi (by omega), h i e q1 ne]
      simp [e]
    · rw [tb_8 hn (by omega)] at q1
      cases q1
theorem lt1 {x : Nat} (h : x < 2 ^ 31) : nI x < 1 ↔ x < 1 := nI_ltI (b := 1) h (by decide)
theorem lt3 {x : Nat} (h : x < 2 ^ 31) : 3 < nI x ↔ 3 < x := nI_ltI (a := 3) (by decide) h
section RC
variable {M : hM} {A : hAd} {s τ : hσ} {cO cF cI : Nat}
theorem c_mates (R : Rep M A s τ) (E : ExI cO cF cI s) {k : Nat} (hk : k < 8) : fX4_matesOf M (A 0 0) (nI k) = some (orN (mateB s cO k) 8) := by
  unfold fX4_matesOf
  simp only [↓rd4b R]
  by_cases hkO : k < cO
  · rw [c_offenceAt_t R E hk hkO, Option.bind_some]
    refine gath (l := lX4_matesOf_11 M (A 0 0) (some (A 4 k))) (cO := cO) (p := fun j => decide (k < cO) && (!hb (s 6 k) (nI j) && !ovS s j k)) (fun n x => ?_) (fun n j x e0 => ?_) 1000 0 (by omega) (by omega)
    · rw [lX4_matesOf_11]
      simp only [↓rd4b R, ↓rdLb R]
      rw [if_pos (by decide)]
    · have e1 : ¬ 8 ≤ j := by omega
      rw [lX4_matesOf_11]
      simp only [↓rd4b R, ↓rdLb R]
      rw [if_neg (by rw [l8 (by omega)]; exact e1)]
      by_cases hj : j < cO
      · have hex : fX3_excludes M (A 4 k) (nI j) = some (bI (hb (s 6 k) (nI j))) := by
          unfold fX3_excludes
          simp only [↓rd3b R (E.o hkO), ↓has4b, hbz_bI]
        simp only [↓(fun (g : Option Nat → Option Int32) => obind (rO_t R E e0 hj) g), snf, ↓reduceIte, ↓rd3b R (E.o hkO), ↓(fun (g : Int32 → Option Int32) => obind hex g), ↓(fun (g : Int32 → Option Int32) => obind (c_isAkinTo R (E.o hkO) (E.o hj)) g), bI_0, nI_1, hj, hkO, if_true]
        cases hb (s 6 k) (nI j) <;> cases ovS s j k <;> rfl
      · simp only [↓(fun (g : Option Nat → Option Int32) => obind (rO_f R E e0 hj) g), snf, ↓reduceIte, nI_1, hj, if_false]
  · rw [c_offenceAt_f R E (fun ⟨j, hj, e⟩ => hkO (by rw [(nI_eq (by omega) (by omega)).mp e]; exact hj) : ¬ ∃ j, j < cO ∧ nI k = nI j), Option.bind_some]
    refine gath (l := lX4_matesOf_11 M (A 0 0) none) (cO := cO) (p := fun j => decide (k < cO) && (!hb (s 6 k) (nI j) && !ovS s j k)) (fun n x => ?_) (fun n j x e0 => ?_) 1000 0 (by omega) (by omega)
    · rw [lX4_matesOf_11]
      simp only [↓rd4b R, ↓rdLb R]
      rw [if_pos (by decide)]
    · have e1 : ¬ 8 ≤ j := by omega
      rw [lX4_matesOf_11]
      simp only [↓rd4b R, ↓rdLb R]
      rw [if_neg (by rw [l8 (by omega)]; exact e1)]
      by_cases hj : j < cO
      · simp only [↓(fun (g : Option Nat → Option Int32) => obind (rO_t R E e0 hj) g), ↓reduceIte, nI_1, hkO, decide_false, Bool.false_and, hj, if_true]
        rfl
      · simp only [↓(fun (g : Option Nat → Option Int32) => obind (rO_f R E e0 hj) g), ↓reduceIte, nI_1, hj, if_false]
theorem lc_isRight (R : Rep M A s τ) (E : ExI cO cF cI s) {n : Nat} (hn : n < 256) : ∀ m k, k ≤ 8 → 8 - k < m → allN (fun k => !n.testBit k || decide ((nI n &&& (bitN k ^^^ (-1))) &&& (orN (mateB s cO k) 8 ^^^ (-1)) = 0)) k = true → lX4_isRight_28 M (A 0 0) (nI n) m (nI k) = some (bI (allN (fun k => !n.testBit k || decide ((nI n &&& (bitN k ^^^ (-1))) &&& (orN (mateB s cO k) 8 ^^^ (-1)) = 0)) 8)) := by
  intro m
  induction m with
  | zero =>
    intro k h1 h2
    omega
  | succ m ih =>
    intro k h1 h2 h3
    rw [lX4_isRight_28]
    simp only [↓rd4b R, ↓rdLb R]
    by_cases e0 : k < 8
    · have e1 : ¬ 8 ≤ k := by omega
      rw [if_neg (by rw [l8 (by omega)]; exact e1)]
      have q := ih (k + 1) (by omega) (by omega)
      rw [allN, h3, Bool.true_and] at q
      rw [has4b, hb_nI n (by omega), nI_1]
      simp only [bI_0]
      cases e2 : n.testBit k with
      | false =>
        rw [if_pos rfl]
        exact q (by simp [e2])
      | true =>
        rw [if_neg (by decide), c_mates R E e0, Option.bind_some]
        by_cases e3 : (nI n &&& (bitN k ^^^ (-1))) &&& (orN (mateB s cO k) 8 ^^^ (-1)) = 0
        · exact (if_pos e3).trans (q (by rw [decide_eq_true e3, Bool.or_true]))
        · refine (if_neg e3).trans ?_
          have : allN (fun k => !n.testBit k || decide ((nI n &&& (bitN k ^^^ (-1))) &&& (orN (mateB s cO k) 8 ^^^ (-1)) = 0)) 8 = false := allN_f.mpr ⟨k, e0, by
            rw [e2, decide_eq_false e3]
            rfl⟩
          rw [this]
          rfl
    · have e1 : k = 8 := by omega
      subst e1
      rw [if_pos (by decide), h3]
      rfl
theorem c_isRight (R : Rep M A s τ) (E : ExI cO cF cI s) {n : Nat} (hn : n < 256) (can : Nat → Bool) : fX4_isRight M (A 0 0) (nI n) (orN can 8) = some (bI (rtB can (mateB s cO) n)) := by
  unfold fX4_isRight
  rw [sz6 n hn, Option.bind_some]
  have hp := popN_le n
  by_cases h1 : 1 ≤ popN n
  · rw [if_neg (fun q => absurd ((lt1 (show popN n < 2 ^ 31 by omega)).mp q) (by omega))]
    by_cases h2 : popN n ≤ 3
    · rw [if_neg (fun q => absurd ((lt3 (show popN n < 2 ^ 31 by omega)).mp q) (by omega))]
      by_cases h3 : nI n &&& (orN can 8 ^^^ (-1)) = 0
      · rw [if_pos h3]
        refine (lc_isRight R E hn 1000 0 (by omega) (by omega) rfl).trans ?_
        refine congrArg (fun b => some (bI b)) ?_
        rw [Bool.eq_iff_iff, rtB_iff, allN_iff]
        rw [rtA hn] at h3
        constructor
        · intro h
          refine ⟨⟨h1, h2⟩, fun k hk hk2 => ⟨h3 k hk hk2, ?_⟩⟩
          have := h k hk
          rw [hk2] at this
          exact (rtM hn hk _).mp (by simpa using this)
        · rintro ⟨-, h⟩ k hk
          cases hk2 : n.testBit k with
          | false => rfl
          | true =>
            rw [decide_eq_true ((rtM hn hk _).mpr (h k hk hk2).2)]
            rfl
      · rw [if_neg h3]
        have : rtB can (mateB s cO) n = false := by
          rw [← Bool.not_eq_true, rtB_iff]
          rintro ⟨-, h⟩
          exact h3 ((rtA hn can).mpr fun k hk hk2 => (h k hk hk2).1)
        rw [this]
        rfl
    · rw [if_pos ((lt3 (show popN n < 2 ^ 31 by omega)).mpr (by omega))]
      have : rtB can (mateB s cO) n = false := by
        rw [← Bool.not_eq_true, rtB_iff]
        rintro ⟨⟨-, h⟩, -⟩
        exact h2 h
      rw [this]
      rfl
  · rw [if_pos ((lt1 (show popN n < 2 ^ 31 by omega)).mpr (by omega))]
    have : rtB can (mateB s cO) n = false := by
      rw [← Bool.not_eq_true, rtB_iff]
      rintro ⟨⟨h, -⟩, -⟩
      exact h1 h
    rw [this]
    rfl
theorem c_better (R : Rep M A s τ) (E : ExI cO cF cI s) {h : Nat → Nat} (hg : ∀ n, heavS s cO (nI n) = nI (h n) ∧ h n < 1000) {a b : Nat} (ha : a < 256) (hb' : b < 256) : fX4_better M (A 0 0) (nI a) (nI b) = some (nI (if Ky h a < Ky h b then b else a)) := by
  unfold fX4_better
  simp only [↓rd4b R, ↓(fun (z : Int32) (g : Int32 → Option Int32) => obind (c_gravity R E z) g), ↓(fun (g : Int32 → Option Int32) => obind (sz6 a ha) g), ↓(fun (g : Int32 → Option Int32) => obind (sz6 b hb') g), (hg _).1]
  have pa := popN_le a
  have pb := popN_le b
  have g1 := (hg a).2
  have g2 := (hg b).2
  simp only [zs0 g2 g1, zsl g2 g1, zs0 (show popN a < 1000 by omega) (show popN b < 1000 by omega), zsl (show popN a < 1000 by omega) (show popN b < 1000 by omega), nI_leI (show a < 2 ^ 31 by omega) (show b < 2 ^ 31 by omega)]
  unfold Ky
  by_cases h1 : h b = h a
  · rw [if_pos h1]
    by_cases h2 : popN a = popN b
    · rw [if_pos h2]
      by_cases h3 : a ≤ b
      · rw [if_pos h3, if_neg (by omega)]
      · rw [if_neg h3, if_pos (by omega)]
    · rw [if_neg h2]
      by_cases h3 : popN a ≤ popN b
      · rw [if_pos h3, if_neg (by omega)]
      · rw [if_neg h3, if_pos (by omega)]
  · rw [if_neg h1]
    by_cases h3 : h b ≤ h a
    · rw [if_pos h3, if_neg (by omega)]
    · rw [if_neg h3, if_pos (by omega)]
theorem up256 {h : Nat → Nat} {a b : Nat} (ha : a < 256) (hb' : b < 256) : (if Ky h a < Ky h b then b else a) < 256 := by
  split <;> assumption
theorem c_third (R : Rep M A s τ) (E : ExI cO cF cI s) {h : Nat → Nat} (hg : ∀ n, heavS s cO (nI n) = nI (h n) ∧ h n < 1000) {f p : Nat} (hf : f < 256) (hp : p < 256) (m : Int32) : ∃ r, r < 256 ∧ fX4_bestWithThird M (A 0 0) (nI f) (nI p) m = some (nI r) ∧ Up h f (fun x => ∃ c, c < 8 ∧ bt m c = true ∧ x = p ||| 2 ^ c) r := by
  obtain ⟨r, h1, h2, h3⟩ := upl (h := h) (l := lX4_bestWithThird_6 M (A 0 0) (nI p) m) (N := 8) (T := fun c x => bt m c = true ∧ x = p ||| 2 ^ c) (I := fun _ _ => True) (fun n x => by
    rw [lX4_bestWithThird_6]
    simp only [↓rd4b R, ↓rdLb R]
    rw [if_pos (by decide)]) (fun n f c hf hc _ => by
    rw [lX4_bestWithThird_6]
    have e1 : ¬ 8 ≤ c := by omega
    simp only [↓rd4b R, ↓rdLb R]
    rw [if_neg (by rw [l8 (by omega)]; exact e1), has4b, hb_bt _ (by omega), nI_1]
    simp only [bI_0]
    cases e2 : bt m c with
    | false =>
      rw [if_pos rfl]
      exact ⟨f, hf, trivial, Up.no (fun x q => by cases q.1), rfl⟩
    | true =>
      rw [if_neg (by decide)]
      have e3 : nI p ||| (1 <<< (nI c &&& 31)) = nI (p ||| 2 ^ c) := by
        rw [← or_nI, ← bitN_nI (by omega)]
        rfl
      rw [e3, c_better R E hg hf (or256 p hp c hc), Option.bind_some]
      exact ⟨_, up256 hf (or256 p hp c hc), trivial, (Up.one h f _).iff fun x => by simp, rfl⟩) 1000 f 0 hf (by omega) trivial (by omega)
  exact ⟨r, h1, h2, h3.iff fun x => by
    constructor
    · rintro ⟨c, q1, q2, q3⟩
      exact ⟨c, by omega, q1, q2, q3⟩
    · rintro ⟨c, -, q1, q2, q3⟩
      exact ⟨c, q1, q2, q3⟩⟩
theorem above_bt : ∀ k, k < 8 → ∀ i, i < 32 → bt (-(2 <<< (nI k &&& 31))) i = decide (k < i) := by decide +kernel
theorem c_withMates (R : Rep M A s τ) (E : ExI cO cF cI s) {h : Nat → Nat} (hg : ∀ n, heavS s cO (nI n) = nI (h n) ∧ h n < 1000) {f p : Nat} (hf : f < 256) (hp : p < 256) (m : Int32) : ∃ r, r < 256 ∧ fX4_bestWithMates M (A 0 0) (nI f) (nI p) m = some (nI r) ∧ Up h f (fun x => ∃ b, b < 8 ∧ bt m b = true ∧ (x = p ||| 2 ^ b ∨ ∃ c, c < 8 ∧ (bt m c = true ∧ mateB s cO b c = true ∧ b < c) ∧ x = p ||| 2 ^ b ||| 2 ^ c)) r := by
  obtain ⟨r, h1, h2, h3⟩ := upl (h := h) (l := lX4_bestWithMates_6 M (A 0 0) (nI p) m) (N := 8) (T := fun b x => bt m b = true ∧ (x = p ||| 2 ^ b ∨ ∃ c, c < 8 ∧ (bt m c = true ∧ mateB s cO b c = true ∧ b < c) ∧ x = p ||| 2 ^ b ||| 2 ^ c)) (I := fun _ _ => True) (fun n x => by
    rw [lX4_bestWithMates_6]
    simp only [↓rd4b R, ↓rdLb R]
    rw [if_pos (by decide)]) (fun n f c hf hc _ => by
    rw [lX4_bestWithMates_6]
    have e1 : ¬ 8 ≤ c := by omega
    simp only [↓rd4b R, ↓rdLb R]
    rw [if_neg (by rw [l8 (by omega)]; exact e1), has4b, hb_bt _ (by omega), nI_1]
    simp only [bI_0]
    cases e2 : bt m c with
    | false =>
      rw [if_pos rfl]
      exact ⟨f, hf, trivial, Up.no (fun x q => by cases q.1), rfl⟩
    | true =>
      rw [if_neg (by decide)]
      have e3 : nI p ||| (1 <<< (nI c &&& 31)) = nI (p ||| 2 ^ c) := by
        rw [← or_nI, ← bitN_nI (by omega)]
        rfl
      have hpc := or256 p hp c hc
      rw [e3, c_better R E hg hf hpc, Option.bind_some, c_mates R E hc, Option.bind_some]
      unfold fX4_above
      rw [Option.bind_some]
      obtain ⟨r2, g1, g2, g3⟩ := c_third R E hg (f := if Ky h f < Ky h (p ||| 2 ^ c) then p ||| 2 ^ c else f) (p := p ||| 2 ^ c) (up256 hf hpc) hpc ((m &&& orN (mateB s cO c) 8) &&& (-(2 <<< (nI c &&& 31))))
      rw [g2, Option.bind_some]
      refine ⟨r2, g1, trivial, (Up.one h f _).seq g3 fun x => ?_, rfl⟩
      simp only [true_and]
      refine or_congr_right ?_
      refine exists_congr fun c2 => and_congr_right fun hc2 => and_congr_left fun _ => ?_
      rw [b_and, b_and, above_bt c hc c2 (by omega), bt_orN (by omega) (by omega)]
      simp [hc2, and_assoc]) 1000 f 0 hf (by omega) trivial (by omega)
  exact ⟨r, h1, h2, h3.iff fun x => by
    constructor
    · rintro ⟨c, q1, q2, q3⟩
      exact ⟨c, by omega, q1, q2, q3⟩
    · rintro ⟨c, -, q1, q2, q3⟩
      exact ⟨c, q1, q2, q3⟩⟩
theorem c_growing (R : Rep M A s τ) (E : ExI cO cF cI s) {h : Nat → Nat} (hg : ∀ n, heavS s cO (nI n) = nI (h n) ∧ h n < 1000) (can : Nat → Bool) : ∃ r, r < 256 ∧ fX4_bestByGrowing M (A 0 0) (orN can 8) = some (nI r) ∧ Up h 0 (Grow can (mateB s cO)) r := by
  have hcan : ∀ i, i < 8 → bt (orN can 8) i = can i := fun i hi => by
    rw [bt_orN (by omega) (by omega)]
    simp [hi]
  obtain ⟨r, h1, h2, h3⟩ := upl (h := h) (l := lX4_bestByGrowing_4 M (A 0 0) (orN can 8)) (N := 8) (T := fun a n => can a = true ∧ (n = 2 ^ a ∨ ∃ b, b < 8 ∧ (can b = true ∧ mateB s cO a b = true ∧ a < b) ∧ (n = 2 ^ a ||| 2 ^ b ∨ ∃ c, c < 8 ∧ ((can c = true ∧ mateB s cO a c = true ∧ a < c) ∧ mateB s cO b c = true ∧ b < c) ∧ n = 2 ^ a ||| 2 ^ b ||| 2 ^ c))) (I := fun _ _ => True) (fun n x => by
    rw [lX4_bestByGrowing_4]
    simp only [↓rd4b R, ↓rdLb R]
    rw [if_pos (by decide)]) (fun n f a hf ha _ => by
    rw [lX4_bestByGrowing_4]
    have e1 : ¬ 8 ≤ a := by omega
    simp only [↓rd4b R, ↓rdLb R]
    rw [if_neg (by rw [l8 (by omega)]; exact e1), has4b, hb_bt _ (by omega), hcan a ha, nI_1]
    simp only [bI_0]
    cases e2 : can a with
    | false =>
      rw [if_pos rfl]
      exact ⟨f, hf, trivial, Up.no (fun x q => by cases q.1), rfl⟩
    | true =>
      rw [if_neg (by decide)]
      have hpa := (pop1 a ha).2
      rw [show (1 <<< (nI a &&& 31) : Int32) = nI (2 ^ a) from bitN_nI (by omega), c_better R E hg hf hpa, Option.bind_some, c_mates R E ha, Option.bind_some]
      unfold fX4_above
      rw [Option.bind_some]
      obtain ⟨r2, g1, g2, g3⟩ := c_withMates R E hg (f := if Ky h f < Ky h (2 ^ a) then 2 ^ a else f) (p := 2 ^ a) (up256 hf hpa) hpa ((orN can 8 &&& orN (mateB s cO a) 8) &&& (-(2 <<< (nI a &&& 31))))
      rw [g2, Option.bind_some]
      have hm : ∀ i, i < 8 → (bt ((orN can 8 &&& orN (mateB s cO a) 8) &&& (-(2 <<< (nI a &&& 31)))) i = true ↔ can i = true ∧ mateB s cO a i = true ∧ a < i) := fun i hi => by
        rw [b_and, b_and, above_bt a ha i (by omega), hcan i hi, bt_orN (by omega) (by omega)]
        simp [hi, and_assoc]
      refine ⟨r2, g1, trivial, (Up.one h f _).seq g3 fun x => ?_, rfl⟩
      simp only [true_and]
      refine or_congr_right ?_
      refine exists_congr fun b => and_congr_right fun hb2 => ?_
      rw [hm b hb2]
      refine and_congr_right fun _ => or_congr_right ?_
      refine exists_congr fun c2 => and_congr_right fun hc2 => ?_
      rw [hm c2 hc2]) 1000 0 0 (by decide) (by omega) trivial (by omega)
  exact ⟨r, h1, h2, h3.iff fun x => by
    constructor
    · rintro ⟨c, q1, q2, q3⟩
      exact ⟨c, by omega, q1, q2, q3⟩
    · rintro ⟨c, -, q1, q2, q3⟩
      exact ⟨c, q1, q2, q3⟩⟩
theorem c_allsets (R : Rep M A s τ) (E : ExI cO cF cI s) {h : Nat → Nat} (hg : ∀ n, heavS s cO (nI n) = nI (h n) ∧ h n < 1000) (can : Nat → Bool) : ∃ r, r < 256 ∧ fX4_bestOfAllSets M (A 0 0) (orN can 8) = some (nI r) ∧ Up h 0 (fun n => n < 256 ∧ RT can (mateB s cO) n) r := by
  obtain ⟨r, h1, h2, h3⟩ := upl (h := h) (l := lX4_bestOfAllSets_4 M (A 0 0) (orN can 8)) (N := 256) (T := fun a n => n = a ∧ RT can (mateB s cO) a) (I := fun _ _ => True) (fun n x => by
    rw [lX4_bestOfAllSets_4]
    rw [if_pos (by decide)]) (fun n f a hf ha _ => by
    rw [lX4_bestOfAllSets_4]
    have e1 : ¬ 256 ≤ a := by omega
    rw [if_neg (by rw [l256 (by omega)]; exact e1)]
    simp only [↓rd4b R]
    rw [c_isRight R E ha can, Option.bind_some, nI_1]
    simp only [bI_0]
    cases e2 : rtB can (mateB s cO) a with
    | false =>
      rw [if_pos rfl]
      refine ⟨f, hf, trivial, Up.no fun x => ?_, rfl⟩
      rintro ⟨-, q⟩
      rw [rtB_iff.mpr q] at e2
      cases e2
    | true =>
      rw [if_neg (by decide), c_better R E hg hf ha, Option.bind_some]
      exact ⟨_, up256 hf ha, trivial, (Up.one h f _).iff fun x => and_iff_left (rtB_iff.mp e2), rfl⟩) 1000 0 1 (by decide) (by omega) trivial (by omega)
  exact ⟨r, h1, h2, h3.iff fun x => by
    constructor
    · rintro ⟨q1, q2⟩
      refine ⟨x, ?_, q1, rfl, q2⟩
      by_cases e : x = 0
      · subst e
        exact absurd q2.1.1 (by decide)
      · omega
    · rintro ⟨c, -, q1, rfl, q3⟩
      exact ⟨q1, q3⟩⟩
theorem RT_lt {cO cI t n : Nat} {d : Int32} (hO8 : cO ≤ 8) (hn : n < 256) (h : RT (canB τ cO cI t d) (mateB τ cO) n) : n < 2 ^ cO := lt_of_bits fun i hi => by
  by_cases e : i < 8
  · have q := (h.2 i e hi).1
    unfold canB at q
    rw [Bool.and_eq_true] at q
    exact of_decide_eq_true q.1
  · rw [tb_8 hn (by omega)] at hi
    cases hi
theorem pw256 : ∀ c, c ≤ 8 → 2 ^ c ≤ 256 := by decide +kernel
end RC
