/-! ===== the law's own check behind each call ===== -/
/-- row k of what was told of the accused at their places when it was asked last -/
def atK (k : Nat) : Nat := k / 4 * 8 + k % 4
def dRow (τ s : hσ) (cO cF k : Nat) : Prop := (accS s cF (atK k) = true → τ 14 (4 * k) = sptS s cO (atK k) ∧ τ 14 (4 * k + 1) = s 32 (atK k) ∧ τ 14 (4 * k + 2) = s 27 (atK k) ∧ τ 14 (4 * k + 3) = s 22 (atK k)) ∧ (accS s cF (atK k) = false → τ 14 (4 * k) = 0 ∧ τ 14 (4 * k + 1) = 0 ∧ τ 14 (4 * k + 2) = 0 ∧ τ 14 (4 * k + 3) = 0)
/-- what was told before, against what is told now -/
def held (s : hσ) (cO t : Nat) (o0 o1 o2 o3 : Int32) : Prop := o0 &&& (sptS s cO t ^^^ (-1)) = 0 ∧ o1 &&& (s 32 t ^^^ (-1)) = 0 ∧ ¬ s 27 t < o2 ∧ (s 22 t = 0 ∨ o3 ≠ s 22 t ∨ s 27 t = o2)
theorem atK_8 {k : Nat} : atK k / 8 = k / 4 ∧ atK k % 8 = k % 4 := by
  unfold atK
  omega
theorem atK_lt {k : Nat} (h : k < 12) : atK k < 48 := by
  unfold atK
  omega
section LH
variable {M : hM} {A : hAd} {s τ : hσ} {cO cF cI : Nat}
theorem conv_spt (I : Inv cO cF cI s) {t : Nat} (ha : accS s cF t = true) : s 32 t &&& (sptS s cO t ^^^ (-1)) = 0 := by
  obtain ⟨-, -, -, -, -, -, -, -, -, ⟨c, hc, ec, hb'⟩, o11⟩ := I.one ha
  refine and_sub fun i hi q => ?_
  rw [ec, bt_nI _ hi] at q
  have i8 : i < 8 := by
    apply Nat.lt_of_not_le
    intro z
    rw [tb_8 hc z] at q
    cases q
  obtain ⟨k1, k2⟩ := hb' i i8 q
  unfold sptS
  rw [bt_orN hi (by omega), decide_eq_true i8, Bool.true_and, decide_eq_true k1, Bool.true_and]
  refine exN_iff.mpr ⟨i, k1, ?_⟩
  have h1 : ovS s i i = true := by
    unfold ovS
    rw [Int32.and_self, decide_eq_true (Eq.refl (s 3 i))]
    rfl
  have h3 : s (1001 + 2 * t) i ≤ s 1 0 := by
    rcases o11 i i8 with z | z
    · exact absurd z k2
    · exact z
  rw [h1, Bool.true_and]
  unfold hadS
  rw [decide_eq_true k2, decide_eq_true h3]
  rfl
theorem isHeld_t (R : Rep M A s τ) (I : Inv cO cF cI s) {t k : Nat} (hk : k < 12) (ha : accS s cF t = true) (hh : held s cO t (τ 14 (4 * k)) (τ 14 (4 * k + 1)) (τ 14 (4 * k + 2)) (τ 14 (4 * k + 3))) (Q : hM → Int32 → Prop) (hq : ∀ M' : hM, Rep M' A s (sU (sU (sU (sU τ 14 (4 * k) (sptS s cO t)) 14 (4 * k + 1) (s 32 t)) 14 (4 * k + 2) (s 27 t)) 14 (4 * k + 3) (s 22 t)) → Q M' 1) : wL_isHeld M (some (A 0 0)) (nI t) (some (A 11 14)) (nI (4 * k)) Q := by
  have h48 := acc48 I ha
  have hO8 := I.1.2.1
  have ha' : accS s cF (8 * (t / 8) + t % 8) = true := by
    rw [show 8 * (t / 8) + t % 8 = t by omega]
    exact ha
  have g : ∀ j, j < 8 → fL_ofq M (some (A 0 0)) (nI (t / 8)) (nI (t % 8)) (nI j) = some (ofS s cO t j) := fun j hj => by
    have q := fL_of_t R I.2.1 hO8 I.1.2.2.2.1 (accS_f ha) (by omega) ha' hj
    rw [show 8 * (t / 8) + t % 8 = t by omega] at q
    exact q
  have g0 : fL_ofq M (some (A 0 0)) (nI (t / 8)) (nI (t % 8)) 0 = some (s 22 t) := g 0 (by decide)
  have g1 : fL_ofq M (some (A 0 0)) (nI (t / 8)) (nI (t % 8)) 1 = some (s 23 t) := g 1 (by decide)
  have g2 : fL_ofq M (some (A 0 0)) (nI (t / 8)) (nI (t % 8)) 2 = some (if s 26 t = 0 then 0 else 1) := g 2 (by decide)
  have g3 : fL_ofq M (some (A 0 0)) (nI (t / 8)) (nI (t % 8)) 3 = some (s 27 t) := g 3 (by decide)
  have g4 : fL_ofq M (some (A 0 0)) (nI (t / 8)) (nI (t % 8)) 4 = some (s 28 t) := g 4 (by decide)
  have g6 : fL_ofq M (some (A 0 0)) (nI (t / 8)) (nI (t % 8)) 6 = some (s 32 t) := g 6 (by decide)
  have g7 : fL_ofq M (some (A 0 0)) (nI (t / 8)) (nI (t % 8)) 7 = some (sptS s cO t) := g 7 (by decide)
  have e1 : nI (4 * k) + 1 = nI (4 * k + 1) := nI_1 _
  have e2 : nI (4 * k) + 2 = nI (4 * k + 2) := nI_add _ 2
  have e3 : nI (4 * k) + 3 = nI (4 * k + 3) := nI_add _ 3
  have r0 := (rdA R).2.2.1 (4 * k) (by omega)
  have r1 := (rdA R).2.2.1 (4 * k + 1) (by omega)
  have r2 := (rdA R).2.2.1 (4 * k + 2) (by omega)
  have r3 := (rdA R).2.2.1 (4 * k + 3) (by omega)
  obtain ⟨hh0, hh1, hh2, hh3⟩ := hh
  obtain ⟨o1, o2, o3, o4, o5, o6, o7, ⟨e, m, d1, d2, d3, d4⟩, ⟨l, l1, l2⟩, o10, o11⟩ := I.one ha
  have n10 : ¬ (10 : Int32) < s 27 t := fun z => by
    rw [d1] at z
    have := (nI_ltI (a := 10) (by decide) (by omega)).mp z
    omega
  have n60 : ¬ (60 : Int32) < s 28 t := fun z => by
    rw [l2] at z
    have := (nI_ltI (a := 60) (by decide) (by omega)).mp z
    omega
  -- the end: all is written down
  have fin : bL_isHeld_226 Q M (some (A 11 14)) (nI (4 * k)) (s 22 t) (sptS s cO t) (s 32 t) (s 27 t) := by
    obtain ⟨M1, w1, R1⟩ := wrA R (f := 14) (n := 48) (k := 4 * k) rfl (by omega) (by decide) (sptS s cO t)
    obtain ⟨M2, w2, R2⟩ := wrA R1 (f := 14) (n := 48) (k := 4 * k + 1) rfl (by omega) (by decide) (s 32 t)
    obtain ⟨M3, w3, R3⟩ := wrA R2 (f := 14) (n := 48) (k := 4 * k + 2) rfl (by omega) (by decide) (s 27 t)
    obtain ⟨M4, w4, R4⟩ := wrA R3 (f := 14) (n := 48) (k := 4 * k + 3) rfl (by omega) (by decide) (s 22 t)
    unfold bL_isHeld_226 bL_isHeld_231
    rw [oex w1, e1, oex w2, e2, oex w3, e3, oex w4]
    exact ⟨Or.inr rfl, hq M4 R4⟩
  have s194 : bL_isHeld_194 Q M (some (A 0 0)) (some (A 11 14)) (nI (4 * k)) (nI (t / 8)) (nI (t % 8)) (s 22 t) (sptS s cO t) (s 32 t) (s 27 t) := by
    unfold bL_isHeld_194
    rw [oex g4, if_neg n60]
    by_cases c : s 22 t = 2
    · rw [if_pos c]
      exact fin
    · rw [if_neg c, oex g4, if_pos (o3 c)]
      exact fin
  have s152 : bL_isHeld_152 Q M (some (A 0 0)) (some (A 11 14)) (nI (4 * k)) (nI (t / 8)) (nI (t % 8)) (s 22 t) (sptS s cO t) (s 32 t) (s 27 t) := by
    unfold bL_isHeld_152
    rw [if_neg n10, e2, oex r2, if_neg hh2]
    by_cases c : s 22 t = 0
    · rw [if_pos c]
      exact s194
    · rw [if_neg c, e3, oex r3]
      by_cases c3 : τ 14 (4 * k + 3) = s 22 t
      · rw [if_pos c3, oex r2, if_pos ?_]
        · exact s194
        · rcases hh3 with z | z | z
          · exact absurd z c
          · exact absurd c3 z
          · exact z
      · rw [if_neg c3]
        exact s194
  have s131 : ∀ b : Int32, bL_isHeld_131 Q M (some (A 0 0)) (some (A 11 14)) (nI (4 * k)) (nI (t / 8)) (nI (t % 8)) (s 22 t) (sptS s cO t) (s 32 t) (s 27 t) b b := fun b => by
    unfold bL_isHeld_131
    rw [if_pos rfl]
    by_cases c : s 22 t = 1
    · rw [if_pos c, oex g2, if_pos (o4 c), if_pos rfl]
      exact s152
    · rw [if_neg c]
      exact s152
  have n0 : ¬ s 22 t < 0 := by
    rcases o1 with z | z | z <;> rw [z] <;> decide
  have n2 : ¬ (2 : Int32) < s 22 t := by
    rcases o1 with z | z | z <;> rw [z] <;> decide
  unfold wL_isHeld
  rw [d8 (t := t) (by omega), r8 (t := t) (by omega), oex g0, oex g7, oex g6, oex g3, oex r0, if_pos hh0, e1, oex r1, if_pos hh1, if_pos (conv_spt I ha), if_neg n0, if_neg n2, oex g1]
  by_cases c : s 23 t = 0
  · have c2 : ¬ s 22 t = 2 := fun z => o2.mp z c
    rw [if_pos c]
    unfold bL_isHeld_120
    rw [if_neg c2]
    exact s131 0
  · have c2 : s 22 t = 2 := o2.mpr c
    rw [if_neg c]
    unfold bL_isHeld_120
    rw [if_pos c2]
    exact s131 1
/-! the check's last part: the best set, nesting, what is spent -/
theorem law_253 (R : Rep M A s τ) (I : Inv cO cF cI s) (L : LW τ s cO cF cI) {t : Nat} (ha : accS s cF t = true) (Q : hM → Int32 → Prop) (hq : Q M 1) : ∀ n k, k ≤ cO → cO - k < n → lL_isLawful_253 Q (some (A 0 0)) (some (A 11 12)) (nI t) (sptS s cO t) n M 1 (nI k) := by
  have h48 := acc48 I ha
  have hO8 := I.1.2.1
  have ha' : accS s cF (8 * (t / 8) + t % 8) = true := by
    rw [show 8 * (t / 8) + t % 8 = t by omega]
    exact ha
  have hd : inR (s 1 0) 0 (s 1 0) = true := by
    obtain ⟨D, hD, e⟩ := I.1.2.2.2.2.2.2
    rw [e]
    exact (inR_nI (by omega)).mpr ⟨D, Nat.le_refl _, rfl⟩
  intro n
  induction n with
  | zero =>
    intro k h1 h2
    omega
  | succ n ih =>
    intro k h1 h2
    rw [lL_isLawful_253, rp0e R, L.1]
    by_cases e0 : k < cO
    · have q := fL_why_t R I.2.1 hO8 I.1.2.2.2.1 (accS_f ha) (by omega) ha' e0 hd
      rw [show 8 * (t / 8) + t % 8 = t by omega] at q
      rw [if_neg (fun z => by have := (nI_leI (by omega) (by omega)).mp z; omega), if_neg (by decide), oex (rd4 R).1, oex (c_day R), d8 (t := t) (by omega), r8 (t := t) (by omega), oex q]
      have nx := ih (k + 1) (by omega) (by omega)
      have hbit : hb (sptS s cO t) (nI k) = spS s cO t k (s 1 0) := by
        rw [hb_bt _ (by omega)]
        unfold sptS
        rw [bt_orN (by omega) (by omega), decide_eq_true (show k < 8 by omega), decide_eq_true e0, Bool.true_and, Bool.true_and]
      have z01 : ((sptS s cO t >>> (nI k &&& 31)) &&& 1 = 0) ↔ hb (sptS s cO t) (nI k) = false := by
        have two : ∀ y : Int32, y &&& 1 = 0 ∨ y &&& 1 = 1 := fun y => by
          cases w : bt y 0 with
          | true =>
            right
            refine b_ext fun i hi => ?_
            rw [b_and, b_1 i hi]
            by_cases e : i = 0
            · subst e
              rw [w]
              rfl
            · rw [decide_eq_false e, Bool.and_false]
          | false =>
            left
            refine b_ext fun i hi => ?_
            rw [b_and, b_1 i hi, b_0]
            by_cases e : i = 0
            · subst e
              rw [w]
              rfl
            · rw [decide_eq_false e, Bool.and_false]
        unfold hb
        rw [decide_eq_false_iff_not]
        rcases two (sptS s cO t >>> (nI k &&& 31)) with w | w
        · rw [w]
          decide
        · rw [w]
          decide
      rw [nI_1]
      by_cases c : (sptS s cO t >>> (nI k &&& 31)) &&& 1 = 0
      · rw [if_pos c]
        have c2 := z01.mp c
        rw [hbit] at c2
        have w2 : ¬ whyS s cO cI t k (s 1 0) = 2 := by
          unfold whyS
          rw [c2]
          split
          · rw [if_neg (by decide)]
            split
            · split <;> decide
            · decide
          · decide
        rw [if_neg w2]
        exact nx
      · rw [if_neg c]
        have c2 : spS s cO t k (s 1 0) = true := by
          rw [← hbit]
          cases w : hb (sptS s cO t) (nI k) with
          | true => rfl
          | false => exact absurd (z01.mpr w) c
        have w12 : whyS s cO cI t k (s 1 0) = 1 ∨ whyS s cO cI t k (s 1 0) = 2 := by
          unfold whyS
          rw [c2]
          split
          · rw [if_pos rfl]
            exact Or.inr rfl
          · exact Or.inl rfl
        unfold bL_isLawful_324
        rcases w12 with w | w
        · rw [if_pos w]
          rw [nI_1]
          exact nx
        · rw [if_neg (by rw [w]; decide), if_pos w, nI_1]
          exact nx
    · have : k = cO := by omega
      subst this
      rw [if_pos (Int32.le_refl _)]
      exact ⟨Or.inr rfl, hq⟩
theorem law_131 (R : Rep M A s τ) (I : Inv cO cF cI s) (L : LW τ s cO cF cI) {Y : Nat} (hY : Y < 2 ^ 31) (Q : hM → Int32 → Prop) (hq : Q M 1) : bL_isLawful_131 Q M (some (A 0 0)) (some (A 11 12)) (some (A 11 13)) (nI Y) 1 := by
  have hO8 := I.1.2.1
  have hF6 := I.1.2.2.2.1
  obtain ⟨D, hD, hday⟩ := I.1.2.2.2.2.2.2
  have a1 : nI Y / 48 = nI (Y / 48) := pk_div (d := 48) hY (by decide) (by decide)
  have a2 : nI Y - nI (Y / 48) * 48 = nI (Y % 48) := rem2 (d := 48) hY (by decide) (by decide)
  unfold bL_isLawful_131
  rw [if_neg (by decide), rp0e R, L.1, a1, a2]
  by_cases c0 : nI cO ≤ 0
  · rw [if_pos c0]
    exact ⟨Or.inr rfl, hq⟩
  · have hpos : 0 < cO := by
      rcases Nat.eq_zero_or_pos cO with z | z
      · rw [z] at c0
        exact absurd (by decide : nI 0 ≤ 0) c0
      · exact z
    rw [if_neg c0, rp1e R, L.2.1, show (8 : Int32) * nI cF = nI (8 * cF) from pk_mul 8 cF]
    by_cases c1 : nI (8 * cF) ≤ nI (Y % 48)
    · rw [if_pos c1]
      exact ⟨Or.inr rfl, hq⟩
    · have hf : Y % 48 < 8 * cF := by
        apply Nat.lt_of_not_le
        intro z
        exact c1 ((nI_leI (by omega) (by omega)).mpr z)
      have hk : Y % 48 / 8 < cF := by omega
      rw [if_neg c1, d8 (t := Y % 48) (by omega), r8 (t := Y % 48) (by omega), oex ((rdA R).2.1 (Y % 48 / 8) (by omega)), L.2.2.2 _ hk]
      cases ha : accS s cF (Y % 48) with
      | false =>
        rw [if_neg (by rw [bt1, ← acc_K hk, ha]; decide)]
        exact ⟨Or.inr rfl, hq⟩
      | true =>
        rw [if_pos (by rw [bt1, ← acc_K hk]; exact ha)]
        have hd1 : inR (s 1 0) 0 (s 1 0) = true := by
          rw [hday]
          exact (inR_nI (by omega)).mpr ⟨D, Nat.le_refl _, rfl⟩
        have hd2 : inR (nI (Y / 48 % (D + 1))) 0 (s 1 0) = true := by
          rw [hday]
          exact (inR_nI (by omega)).mpr ⟨_, by have := Nat.mod_lt (Y / 48) (show 0 < D + 1 by omega); omega, rfl⟩
        have b1 := isBest_t R I L ha hd1
        have b2 := isBest_t R I L ha hd2
        have b3 := areNested_t R I L hpos hY
        have m1 : rmI (nI (Y / 48)) (s 1 0 + 1) = some (nI (Y / 48 % (D + 1))) := by
          rw [hday, nI_1]
          exact rm_nI (by omega) (by omega) (by omega)
        have m2 : nI (Y / 48) - nI (Y / 48) / (s 1 0 + 1) * (s 1 0 + 1) = nI (Y / 48 % (D + 1)) := by
          rw [hday, nI_1]
          exact pk_rem (by omega) (by omega) (by omega)
        rw [oex (rd4 R).1, oex (c_day R), oex b1, if_neg (by decide), oex (rd4 R).1, oex (c_day R), oex m1, m2, oex b2, if_neg (by decide), oex b3, if_neg (by decide)]
        have ha' : accS s cF (8 * (Y % 48 / 8) + Y % 48 % 8) = true := by
          rw [show 8 * (Y % 48 / 8) + Y % 48 % 8 = Y % 48 by omega]
          exact ha
        have g7 : fL_ofq M (some (A 0 0)) (nI (Y % 48 / 8)) (nI (Y % 48 % 8)) 7 = some (sptS s cO (Y % 48)) := by
          have q := fL_of_t R I.2.1 hO8 hF6 hk (by omega) ha' (j := 7) (by decide)
          rw [show 8 * (Y % 48 / 8) + Y % 48 % 8 = Y % 48 by omega] at q
          exact q
        unfold bL_isLawful_230
        rw [d8 (t := Y % 48) (by omega), r8 (t := Y % 48) (by omega), oex g7]
        exact law_253 R I L ha Q hq 1000 0 (by omega) (by omega)
/-! the rows of the accused -/
theorem law_59 (I : Inv cO cF cI s) {τ0 : hσ} {Y : Nat} (hY : Y < 2 ^ 31) (L0 : LW τ0 s cO cF cI) (hh : ∀ k, k < 12 → accS s cF (atK k) = true → held s cO (atK k) (τ0 14 (4 * k)) (τ0 14 (4 * k + 1)) (τ0 14 (4 * k + 2)) (τ0 14 (4 * k + 3))) (h0 : ∀ k, k < 12 → accS s cF (atK k) = false → τ0 14 (4 * k) = 0 ∧ τ0 14 (4 * k + 1) = 0 ∧ τ0 14 (4 * k + 2) = 0 ∧ τ0 14 (4 * k + 3) = 0) (a3 : Option Nat) (Q : hM → Int32 → Prop) (hq : ∀ (M' : hM) (τ' : hσ), Rep M' A s τ' → (∀ f i, f ≠ 14 → τ' f i = τ0 f i) → (∀ k, k < 12 → dRow τ' s cO cF k) → Q M' 1) (h3 : a3 = some (A 11 14)) : ∀ n k (M : hM) (τ : hσ), Rep M A s τ → (∀ f i, f ≠ 14 → τ f i = τ0 f i) → (∀ j, j < k → dRow τ s cO cF j) → (∀ i, 4 * k ≤ i → τ 14 i = τ0 14 i) → k ≤ 12 → 12 - k < n → lL_isLawful_59 Q (some (A 0 0)) (some (A 11 12)) (some (A 11 13)) a3 (nI Y) n M 1 (nI k) := by
  subst h3
  have hF6 := I.1.2.2.2.1
  intro n
  induction n with
  | zero =>
    intro k M τ R T1 T2 T3 h1 h2
    omega
  | succ n ih =>
    intro k M τ R T1 T2 T3 h1 h2
    have L : LW τ s cO cF cI := ⟨(T1 12 0 (by decide)).trans L0.1, (T1 12 1 (by decide)).trans L0.2.1, (T1 12 2 (by decide)).trans L0.2.2.1, fun j hj => (T1 13 j (by decide)).trans (L0.2.2.2 j hj)⟩
    rw [lL_isLawful_59]
    by_cases e0 : k < 12
    · have e1 : ¬ (12 : Int32) ≤ nI k := fun z => by
        have := (nI_leI (a := 12) (by decide) (by omega)).mp z
        omega
      have f4 : nI k / 4 = nI (k / 4) := pk_div (d := 4) (by omega) (by decide) (by decide)
      have f5 : nI k - nI (k / 4) * 4 = nI (k % 4) := rem2 (d := 4) (by omega) (by decide) (by decide)
      have f6 : nI (k / 4) * 8 + nI (k % 4) = nI (atK k) := by
        rw [show (8 : Int32) = nI 8 from rfl, pk_mul, nI_add]
        rfl
      have f7 : (4 : Int32) * nI k = nI (4 * k) := pk_mul 4 k
      have skip : accS s cF (atK k) = false → dRow τ s cO cF k := fun hf => by
        refine ⟨fun z => ?_, fun _ => ?_⟩
        · rw [hf] at z
          cases z
        · obtain ⟨z0, z1, z2, z3⟩ := h0 k e0 hf
          exact ⟨(T3 _ (by omega)).trans z0, (T3 _ (by omega)).trans z1, (T3 _ (by omega)).trans z2, (T3 _ (by omega)).trans z3⟩
      have goOn : accS s cF (atK k) = false → lL_isLawful_59 Q (some (A 0 0)) (some (A 11 12)) (some (A 11 13)) (some (A 11 14)) (nI Y) n M 1 (nI (k + 1)) := fun hf => ih (k + 1) M τ R T1 (fun j hj => by
        by_cases e : j = k
        · rw [e]
          exact skip hf
        · exact T2 j (by omega)) (fun i hi => T3 i (by omega)) (by omega) (by omega)
      rw [if_neg e1, if_neg (by decide), rp1e R, L.2.1, f4, f5, f6, f7, nI_1]
      by_cases c1 : nI cF ≤ nI (k / 4)
      · rw [if_pos c1]
        refine goOn ?_
        unfold accS
        rw [atK_8.1, decide_eq_false (by have := (nI_leI (by omega) (by omega)).mp c1; omega), Bool.false_and]
      · have hk4 : k / 4 < cF := by
          apply Nat.lt_of_not_le
          intro z
          exact c1 ((nI_leI (by omega) (by omega)).mpr z)
        have hacc : accS s cF (atK k) = hb (s 9 (k / 4)) (nI (k % 4)) := by
          unfold accS
          rw [atK_8.1, atK_8.2, decide_eq_true hk4, Bool.true_and]
        rw [if_neg c1, oex ((rdA R).2.1 (k / 4) (by omega)), L.2.2.2 _ hk4]
        cases ha : accS s cF (atK k) with
        | false =>
          rw [if_neg (by rw [bt1, ← hacc, ha]; decide)]
          exact goOn ha
        | true =>
          rw [if_pos (by rw [bt1, ← hacc]; exact ha)]
          have hd := hh k e0 ha
          rw [← T3 (4 * k) (by omega), ← T3 (4 * k + 1) (by omega), ← T3 (4 * k + 2) (by omega), ← T3 (4 * k + 3) (by omega)] at hd
          refine isHeld_t R I e0 ha hd _ (fun M' R' => ?_)
          refine ih (k + 1) M' _ R' (fun f i hf => ?_) (fun j hj => ?_) (fun i hi => ?_) (by omega) (by omega)
          · rw [sU_ne hf, sU_ne hf, sU_ne hf, sU_ne hf]
            exact T1 f i hf
          · by_cases e : j = k
            · subst e
              refine ⟨fun _ => ⟨?_, ?_, ?_, ?_⟩, fun z => ?_⟩
              · rw [sU_nj (by omega), sU_nj (by omega), sU_nj (by omega), sU_eq]
              · rw [sU_nj (by omega), sU_nj (by omega), sU_eq]
              · rw [sU_nj (by omega), sU_eq]
              · rw [sU_eq]
              · rw [ha] at z
                cases z
            · have q := T2 j (by omega)
              have nj : ∀ i, i < 4 * k → sU (sU (sU (sU τ 14 (4 * k) (sptS s cO (atK k))) 14 (4 * k + 1) (s 32 (atK k))) 14 (4 * k + 2) (s 27 (atK k))) 14 (4 * k + 3) (s 22 (atK k)) 14 i = τ 14 i := fun i hi => by
                rw [sU_nj (by omega), sU_nj (by omega), sU_nj (by omega), sU_nj (by omega)]
              unfold dRow at q ⊢
              rw [nj (4 * j) (by omega), nj (4 * j + 1) (by omega), nj (4 * j + 2) (by omega), nj (4 * j + 3) (by omega)]
              exact q
          · rw [sU_nj (by omega), sU_nj (by omega), sU_nj (by omega), sU_nj (by omega)]
            exact T3 i (by omega)
    · have : k = 12 := by omega
      subst this
      rw [if_pos (by decide)]
      exact law_131 R I L hY Q (hq M τ R T1 T2)
/-! the counts -/
theorem law_6 (I : Inv cO cF cI s) {τ0 : hσ} {Y : Nat} (hY : Y < 2 ^ 31) (L0 : LW τ0 s cO cF cI) (hc : ∀ k, k < 6 → ¬ s 37 k < τ0 15 k) (hh : ∀ k, k < 12 → accS s cF (atK k) = true → held s cO (atK k) (τ0 14 (4 * k)) (τ0 14 (4 * k + 1)) (τ0 14 (4 * k + 2)) (τ0 14 (4 * k + 3))) (h0 : ∀ k, k < 12 → accS s cF (atK k) = false → τ0 14 (4 * k) = 0 ∧ τ0 14 (4 * k + 1) = 0 ∧ τ0 14 (4 * k + 2) = 0 ∧ τ0 14 (4 * k + 3) = 0) (Q : hM → Int32 → Prop) (hq : ∀ (M' : hM) (τ' : hσ), Rep M' A s τ' → (∀ f i, f ≠ 14 → f ≠ 15 → τ' f i = τ0 f i) → (∀ k, k < 12 → dRow τ' s cO cF k) → (∀ k, k < 6 → τ' 15 k = s 37 k) → Q M' 1) : ∀ n k (M : hM) (τ : hσ), Rep M A s τ → (∀ f i, f ≠ 15 → τ f i = τ0 f i) → (∀ j, j < k → τ 15 j = s 37 j) → (∀ i, k ≤ i → τ 15 i = τ0 15 i) → k ≤ 6 → 6 - k < n → lL_isLawful_6 Q (some (A 0 0)) (some (A 11 12)) (some (A 11 13)) (some (A 11 14)) (some (A 11 15)) (nI Y) n M 1 (nI k) := by
  intro n
  induction n with
  | zero =>
    intro k M τ R T1 T2 T3 h1 h2
    omega
  | succ n ih =>
    intro k M τ R T1 T2 T3 h1 h2
    rw [lL_isLawful_6]
    by_cases e0 : k < 6
    · have e1 : ¬ 6 ≤ k := by omega
      have hcnt := fL_count_t R e0
      have hk := hc k e0
      rw [← T3 k (Nat.le_refl _)] at hk
      rw [if_neg (by rw [l6 (by omega)]; exact e1), if_neg (by decide), oex hcnt, oex ((rdA R).2.2.2 k e0), if_neg hk]
      unfold bL_isLawful_37
      obtain ⟨M1, w1, R1⟩ := wrA R (f := 15) (n := 6) (k := k) rfl e0 (by decide) (s 37 k)
      rw [oex hcnt, oex w1, nI_1]
      refine ih (k + 1) M1 _ R1 (fun f i hf => ?_) (fun j hj => ?_) (fun i hi => ?_) (by omega) (by omega)
      · rw [sU_ne hf]
        exact T1 f i hf
      · by_cases e : j = k
        · rw [e, sU_eq]
        · rw [sU_nj e]
          exact T2 j (by omega)
      · rw [sU_nj (by omega)]
        exact T3 i (by omega)
    · have : k = 6 := by omega
      subst this
      rw [if_pos (by decide)]
      have L1 : LW τ s cO cF cI := ⟨(T1 12 0 (by decide)).trans L0.1, (T1 12 1 (by decide)).trans L0.2.1, (T1 12 2 (by decide)).trans L0.2.2.1, fun j hj => (T1 13 j (by decide)).trans (L0.2.2.2 j hj)⟩
      refine law_59 I hY L1 (fun k hk ha => ?_) (fun k hk ha => ?_) _ Q (fun M' τ' R' X1 X2 => hq M' τ' R' (fun f i f14 f15 => (X1 f i f14).trans (T1 f i f15)) X2 (fun k hk => (X1 15 k (by decide)).trans (T2 k hk))) rfl 1000 0 M τ R (fun _ _ _ => rfl) (fun j hj => absurd hj (Nat.not_lt_zero j)) (fun _ _ => rfl) (by omega) (by omega)
      · rw [T1 14 _ (by decide), T1 14 _ (by decide), T1 14 _ (by decide), T1 14 _ (by decide)]
        exact hh k hk ha
      · rw [T1 14 _ (by decide), T1 14 _ (by decide), T1 14 _ (by decide), T1 14 _ (by decide)]
        exact h0 k hk ha
theorem lawful_t (R : Rep M A s τ) (I : Inv cO cF cI s) {Y : Nat} (hY : Y < 2 ^ 31) (L : LW τ s cO cF cI) (hc : ∀ k, k < 6 → ¬ s 37 k < τ 15 k) (hh : ∀ k, k < 12 → accS s cF (atK k) = true → held s cO (atK k) (τ 14 (4 * k)) (τ 14 (4 * k + 1)) (τ 14 (4 * k + 2)) (τ 14 (4 * k + 3))) (h0 : ∀ k, k < 12 → accS s cF (atK k) = false → τ 14 (4 * k) = 0 ∧ τ 14 (4 * k + 1) = 0 ∧ τ 14 (4 * k + 2) = 0 ∧ τ 14 (4 * k + 3) = 0) (Q : hM → Int32 → Prop) (hq : ∀ (M' : hM) (τ' : hσ), Rep M' A s τ' → (∀ f i, f ≠ 14 → f ≠ 15 → τ' f i = τ f i) → (∀ k, k < 12 → dRow τ' s cO cF k) → (∀ k, k < 6 → τ' 15 k = s 37 k) → Q M' 1) : wL_isLawful M (some (A 0 0)) (some (A 11 12)) (some (A 11 13)) (some (A 11 14)) (some (A 11 15)) (nI Y) Q :=
  law_6 I hY L hc hh h0 Q hq 1000 0 M τ R (fun _ _ _ => rfl) (fun j hj => absurd hj (Nat.not_lt_zero j)) (fun _ _ => rfl) (by omega) (by omega)
end LH
