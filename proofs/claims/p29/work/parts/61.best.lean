/-! ===== the law's own questions: the best set is right, nesting goes one way and on ===== -/
theorem orN_0 {p : Nat → Bool} : orN p 8 = 0 ↔ ∀ k, k < 8 → p k = false := by
  constructor
  · intro h k hk
    have := congrArg (fun z => bt z k) h
    simp only [b_0] at this
    rw [bt_orN (by omega) (by omega)] at this
    simpa [hk] using this
  · intro h
    refine b_ext fun i hi => ?_
    rw [b_0, bt_orN hi (by omega)]
    by_cases e : i < 8
    · rw [h i e, Bool.and_false]
    · simp [e]
theorem orN_step {p : Nat → Bool} {k : Nat} (hk : k < 8) : orN p k + (if p k = true then (1 : Int32) <<< (nI k &&& 31) else 0) = orN p (k + 1) := by
  obtain ⟨n, hn, e⟩ := orN_nI p k (by omega)
  rw [orN, e]
  by_cases q : p k = true
  · rw [if_pos q, if_pos q]
    show nI n + bitN k = nI n ||| bitN k
    have e2 := Nat.two_pow_add_eq_or_of_lt hn 1
    rw [Nat.mul_one] at e2
    rw [bitN_nI (by omega), nI_add, or_nI, Nat.add_comm, e2, Nat.or_comm]
  · rw [if_neg q, if_neg q, Int32.add_zero, Int32.or_zero]
theorem nest_irr (σ : hσ) (a : Nat) : nestS σ a a = false := by
  unfold nestS
  rw [decide_eq_false (show ¬ σ 3 a ≠ σ 3 a from fun z => z rfl), Bool.false_and]
theorem nest_iff {σ : hσ} {a b : Nat} : nestS σ a b = true ↔ σ 3 a ≠ σ 3 b ∧ σ 3 a &&& σ 3 b = σ 3 a := by
  unfold nestS
  rw [Bool.and_eq_true, decide_eq_true_eq, decide_eq_true_eq, andnot]
theorem nest_ov {σ : hσ} {a b : Nat} (h : nestS σ a b = true) : ovS σ b a = true := by
  obtain ⟨-, h2⟩ := nest_iff.mp h
  unfold ovS
  rw [Int32.and_comm, h2, decide_eq_true (Eq.refl (σ 3 a)), Bool.or_true]
theorem nest_as {σ : hσ} {a b : Nat} (h : nestS σ a b = true) : nestS σ b a = false := by
  cases q : nestS σ b a with
  | false => rfl
  | true =>
    obtain ⟨h1, h2⟩ := nest_iff.mp h
    obtain ⟨-, h4⟩ := nest_iff.mp q
    rw [Int32.and_comm, h2] at h4
    exact absurd h4 h1
theorem nest_tr {σ : hσ} {a b c : Nat} (h : nestS σ a b = true) (h' : nestS σ b c = true) : nestS σ a c = true := by
  obtain ⟨h1, h2⟩ := nest_iff.mp h
  obtain ⟨h3, h4⟩ := nest_iff.mp h'
  refine nest_iff.mpr ⟨fun z => ?_, ?_⟩
  · rw [← z, Int32.and_comm, h2] at h4
    exact h1 h4
  · calc σ 3 a &&& σ 3 c = (σ 3 a &&& σ 3 b) &&& σ 3 c := by rw [h2]
      _ = σ 3 a &&& (σ 3 b &&& σ 3 c) := Int32.and_assoc _ _ _
      _ = σ 3 a &&& σ 3 b := by rw [h4]
      _ = σ 3 a := h2
section LB
variable {M : hM} {A : hAd} {s τ : hσ} {cO cF cI : Nat}
/-- what may stand beside what -/
def apart (s : hσ) (cO r : Nat) : Prop := ∀ i j, i < cO → j < cO → r.testBit i = true → r.testBit j = true → nestS s i j = false
theorem best_153 (R : Rep M A s τ) (I : Inv cO cF cI s) (L : LW τ s cO cF cI) {r : Nat} (hr : r < 256) (hap : apart s cO r) : ∀ n k, k ≤ cO * cO → cO * cO - k < n → lL_isBest_153 M (some (A 0 0)) (some (A 11 12)) (nI r) n 1 (nI k) = some 1 := by
  have hO8 := I.1.2.1
  have h64 : cO * cO ≤ 64 := Nat.mul_le_mul hO8 hO8
  intro n
  induction n with
  | zero =>
    intro k h1 h2
    omega
  | succ n ih =>
    intro k h1 h2
    rw [lL_isBest_153]
    simp only [↓rp0b R, L.1, pk_mul]
    by_cases e0 : k < cO * cO
    · rw [if_neg (fun z => by have := (nI_leI (by omega) (by omega)).mp z; omega), if_neg (by decide)]
      have hpos : 0 < cO := by
        rcases Nat.eq_zero_or_pos cO with z | z
        · rw [z] at e0
          omega
        · exact z
      have d1 : k / cO < cO := Nat.div_lt_of_lt_mul e0
      have d2 : k % cO < cO := Nat.mod_lt _ hpos
      have q := ih (k + 1) (by omega) (by omega)
      simp only [bL_isBest_204, bL_isBest_205, bL_isBest_231, ↓rp0b R, L.1, ↓(fun (g : Int32 → Option Int32) => obind (dv_nI (a := k) (d := cO) (by omega) hpos (by omega)) g), ↓(fun (g : Int32 → Option Int32) => obind (rm_nI (a := k) (d := cO) (by omega) hpos (by omega)) g), pk_div (a := k) (d := cO) (by omega) hpos (by omega), rem2 (a := k) (d := cO) (by omega) hpos (by omega), ↓(fun (g : Int32 → Option Int32) => obind (fL_nests_t R I.2.1 hO8 d1 d2) g), nI_1, bt1, hb_nI r (show k / cO < 32 by omega), hb_nI r (show k % cO < 32 by omega), bI_0, i10, ↓reduceIte]
      cases b1 : r.testBit (k / cO) with
      | false =>
        rw [if_neg (by decide)]
        exact q
      | true =>
        rw [if_pos rfl]
        cases b2 : r.testBit (k % cO) with
        | false =>
          rw [if_neg (by decide)]
          exact q
        | true =>
          rw [if_pos rfl, hap _ _ d1 d2 b1 b2, if_pos rfl]
          exact q
    · have : k = cO * cO := by omega
      subst this
      rw [if_pos (Int32.le_refl _)]
      exact hbz_1
theorem best_60 (R : Rep M A s τ) (I : Inv cO cF cI s) (L : LW τ s cO cF cI) {t : Nat} (ha : accS s cF t = true) {d : Int32} (hd : inR d 0 (s 1 0) = true) {r : Nat} (hr : r < 256) (hb1 : bestP s cO cI t d r) : ∀ n k, k ≤ cO → cO - k < n → lL_isBest_60 M (some (A 0 0)) (some (A 11 12)) (nI t) d (nI r) 1 n (orN (canB s cO cI t d) k) (nI k) = some 1 := by
  have h48 := acc48 I ha
  have hO8 := I.1.2.1
  have ha' : accS s cF (8 * (t / 8) + t % 8) = true := by
    rw [show 8 * (t / 8) + t % 8 = t by omega]
    exact ha
  have hap : apart s cO r := fun i j hi hj bi bj => by
    by_cases e : i = j
    · rw [e]
      exact nest_irr s j
    · rcases hb1.1 with z | z
      · rw [z, Nat.zero_testBit] at bi
        cases bi
      · have m := (z.2 i (by omega) bi).2 j (by omega) bj (fun q => e q.symm)
        cases q : nestS s i j with
        | false => rfl
        | true =>
          unfold mateB at m
          rw [nest_ov q] at m
          simp at m
  intro n
  induction n with
  | zero =>
    intro k h1 h2
    omega
  | succ n ih =>
    intro k h1 h2
    rw [lL_isBest_60]
    simp only [↓rp0b R, L.1]
    by_cases e0 : k < cO
    · have q := fL_why_t R I.2.1 hO8 I.1.2.2.2.1 (accS_f ha) (by omega) ha' e0 hd
      rw [show 8 * (t / 8) + t % 8 = t by omega] at q
      rw [if_neg (fun z => by have := (nI_leI (by omega) (by omega)).mp z; omega)]
      simp only [d8 (t := t) (by omega), r8 (t := t) (by omega), ↓(fun (g : Int32 → Option Int32) => obind q g), nI_1]
      have st := orN_step (p := canB s cO cI t d) (k := k) (by omega)
      have q2 := ih (k + 1) (by omega) (by omega)
      rw [← st] at q2
      have ec : canB s cO cI t d k = decide (whyS s cO cI t k d = 0) := by
        unfold canB
        rw [decide_eq_true e0, Bool.true_and]
      by_cases c : whyS s cO cI t k d = 0
      · rw [if_pos c]
        rw [ec, decide_eq_true c, if_pos rfl] at q2
        exact q2
      · rw [if_neg c]
        rw [ec, decide_eq_false c, if_neg (by decide)] at q2
        exact q2
    · have : k = cO := by omega
      subst this
      have e8 : orN (canB s k cI t d) k = orN (canB s k cI t d) 8 := (orN_stop (fun j hj => by
        unfold canB
        rw [decide_eq_false (show ¬ j < k by omega), Bool.false_and]) 8 hO8).symm
      rw [if_pos (Int32.le_refl _), if_neg (by decide), e8]
      have h1 : nI r &&& (orN (canB s k cI t d) 8 ^^^ (-1)) = 0 := (rtA hr _).mpr (fun j hj q => by
        rcases hb1.1 with z | z
        · rw [z, Nat.zero_testBit] at q
          cases q
        · exact (z.2 j hj q).1)
      rw [if_pos h1]
      have fin := best_153 R I L hr hap 1000 0 (by omega) (by have := Nat.mul_le_mul hO8 hO8; omega)
      by_cases z : r = 0
      · have z1 : orN (canB s k cI t d) 8 = 0 := orN_0.mpr (hb1.2 z)
        rw [if_pos (by rw [z]; rfl), z1]
        simp only [bL_isBest_130, bL_isBest_140, ↓reduceIte]
        exact fin
      · have z0 : ¬ nI r = 0 := fun q => z ((nI_eq (a := r) (b := 0) (by omega) (by decide)).mp q)
        have z1 : ¬ orN (canB s k cI t d) 8 = 0 := fun q => by
          have q2 := orN_0.mp q
          rcases hb1.1 with w | w
          · exact z w
          · have : popN r = 0 := by
              have hz : ∀ j, j < 8 → r.testBit j = false := fun j hj => by
                cases y : r.testBit j with
                | false => rfl
                | true =>
                  have := (w.2 j hj y).1
                  rw [q2 j hj] at this
                  cases this
              have r0 : r = 0 := Nat.eq_of_testBit_eq fun i => by
                rw [Nat.zero_testBit]
                by_cases h8 : i < 8
                · exact hz i h8
                · exact tb_8 hr (by omega)
              exact absurd r0 z
            have := w.1.1
            omega
        rw [if_neg z0]
        simp only [bL_isBest_130, bL_isBest_140, z1, ↓reduceIte]
        exact fin
theorem isBest_t (R : Rep M A s τ) (I : Inv cO cF cI s) (L : LW τ s cO cF cI) {t : Nat} (ha : accS s cF t = true) {d : Int32} (hd : inR d 0 (s 1 0) = true) : fL_isBest M (some (A 0 0)) (some (A 11 12)) (nI t) d = some 1 := by
  have h48 := acc48 I ha
  have ha' : accS s cF (8 * (t / 8) + t % 8) = true := by
    rw [show 8 * (t / 8) + t % 8 = t by omega]
    exact ha
  obtain ⟨r, r1, r2, r3, r4⟩ := fL_best_t R I (accS_f ha) (by omega) ha' hd
  rw [show 8 * (t / 8) + t % 8 = t by omega] at r4
  have hp : popN r ≤ 3 := by
    rcases r4.1 with z | z
    · rw [z]
      decide
    · exact z.1.2
  have p3 : ¬ (3 : Int32) < nI (popN r) := fun z => by
    have := (nI_ltI (a := 3) (by decide) (by omega)).mp z
    omega
  unfold fL_isBest
  simp only [d8 (t := t) (by omega), r8 (t := t) (by omega), ↓(fun (g : Int32 → Option Int32) => obind r2 g), ↓(fun (g : Int32 → Option Int32) => obind r3 g), ↓reduceIte, nI_pos (show r < 2 ^ 31 by omega), ↓(fun (g : Int32 → Option Int32) => obind (bits_t r r1) g), p3, bL_isBest_52]
  exact best_60 R I L ha hd r1 r4 1000 0 (by omega) (by have := I.1.2.1; omega)
theorem areNested_t (R : Rep M A s τ) (I : Inv cO cF cI s) (L : LW τ s cO cF cI) (hpos : 0 < cO) {Y : Nat} (hY : Y < 2 ^ 31) : fL_areNested M (some (A 0 0)) (some (A 11 12)) (nI Y) = some 1 := by
  have hO8 := I.1.2.1
  have d8' : nI Y / 8 = nI (Y / 8) := pk_div (d := 8) hY (by decide) (by decide)
  have d64 : nI Y / 64 = nI (Y / 64) := pk_div (d := 64) hY (by decide) (by decide)
  have m1 : Y % cO < cO := Nat.mod_lt _ hpos
  have m2 : Y / 8 % cO < cO := Nat.mod_lt _ hpos
  have m3 : Y / 64 % cO < cO := Nat.mod_lt _ hpos
  have n := fun {a b : Nat} (ha : a < cO) (hb' : b < cO) => fL_nests_t R I.2.1 hO8 ha hb'
  unfold fL_areNested
  simp only [↓rp0b R, L.1, d8', d64, ↓(fun (g : Int32 → Option Int32) => obind (rm_nI (a := Y) (d := cO) hY hpos (by omega)) g), ↓(fun (g : Int32 → Option Int32) => obind (rm_nI (a := Y / 8) (d := cO) (by omega) hpos (by omega)) g), ↓(fun (g : Int32 → Option Int32) => obind (rm_nI (a := Y / 64) (d := cO) (by omega) hpos (by omega)) g), pk_div (a := Y) (d := cO) hY hpos (by omega), rem2 (a := Y) (d := cO) hY hpos (by omega), pk_div (a := Y / 8) (d := cO) (by omega) hpos (by omega), rem2 (a := Y / 8) (d := cO) (by omega) hpos (by omega), pk_div (a := Y / 64) (d := cO) (by omega) hpos (by omega), rem2 (a := Y / 64) (d := cO) (by omega) hpos (by omega), bL_areNested_42, bL_areNested_61, bL_areNested_79, bL_areNested_100, ↓(fun (g : Int32 → Option Int32) => obind (n m1 m2) g), ↓(fun (g : Int32 → Option Int32) => obind (n m2 m3) g), ↓(fun (g : Int32 → Option Int32) => obind (n m2 m1) g), ↓(fun (g : Int32 → Option Int32) => obind (n m1 m3) g), ↓(fun (g : Int32 → Option Int32) => obind (n m1 m1) g), bI_0, bI_1, nest_irr, ↓reduceIte, i10]
  cases ab : nestS s (Y % cO) (Y / 8 % cO) with
  | false =>
    cases bc : nestS s (Y / 8 % cO) (Y / 64 % cO) <;> simp
  | true =>
    have ba := nest_as ab
    cases bc : nestS s (Y / 8 % cO) (Y / 64 % cO) with
    | false => simp [ba]
    | true =>
      have ac := nest_tr ab bc
      simp [ba, ac]
end LB
