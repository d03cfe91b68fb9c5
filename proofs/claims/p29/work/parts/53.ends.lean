/-! ===== trials and pleas ===== -/
theorem sV_sU {s : hσ} {f j f' : Nat} {x : Int32} {g : Nat → Int32} (h : f ≠ f') : sV (sU s f j x) f' g = sU (sV s f' g) f j x := by
  funext a i
  show (if a = f' then g i else if a = f ∧ i = j then x else s a i) = (if a = f ∧ i = j then x else if a = f' then g i else s a i)
  by_cases e : a = f'
  · rw [if_pos e, if_neg (fun q => h (q.1.symm.trans e)), if_pos e]
  · rw [if_neg e]
    by_cases e2 : a = f ∧ i = j
    · rw [if_pos e2, if_pos e2]
    · rw [if_neg e2, if_neg e2, if_neg e]
def gJ (s : hσ) (t : Nat) (day : Int32) (j i : Nat) : Int32 := if (decide (j ≤ i) && (decide (i < 8) && (hb (s 23 t) (nI i) && decide (s (1001 + 2 * t) i = -1)))) = true then day else s (1001 + 2 * t) i
def ansS (s : hσ) (t : Nat) (conv day : Int32) : hσ := sU (sU (sU (sU (sU (sV s (1001 + 2 * t) (gJ s t day 0)) 32 t (s 32 t ||| conv)) 22 t 0) 23 t 0) 28 t 0) 26 t 0
section ANS
variable {M : hM} {A : hAd} {s τ : hσ}
theorem sU_comm {s : hσ} {f j f' j' : Nat} {x y : Int32} (h : f ≠ f' ∨ j ≠ j') : sU (sU s f j x) f' j' y = sU (sU s f' j' y) f j x := by
  funext g i
  unfold sU
  by_cases e1 : g = f ∧ i = j
  · by_cases e2 : g = f' ∧ i = j'
    · omega
    · rw [if_neg e2, if_pos e1, if_pos e1]
  · by_cases e2 : g = f' ∧ i = j'
    · rw [if_pos e2, if_neg e1, if_pos e2]
    · rw [if_neg e2, if_neg e1, if_neg e1, if_neg e2]
theorem lc_answer {t : Nat} (conv day : Int32) (Q : hM → Prop) : ∀ n j (M : hM) (s : hσ), Rep M A s τ → s 112 t = 1 → s 119 t = 1 → j ≤ 8 → 8 - j < n → ∃ M', lX0_answerCharges_2 (A 7 t) Q conv day n M (nI j) = Q M' ∧ Rep M' A (sU (sU (sU (sU (sU (sV s (1001 + 2 * t) (gJ s t day j)) 32 t (s 32 t ||| conv)) 23 t 0) 28 t 0) 26 t 0) 22 t 0) τ := by
  intro n
  induction n with
  | zero =>
    intro j M s R h1 h2 h3 h4
    omega
  | succ n ih =>
    intro j M s R h1 h2 h3 h4
    rw [lX0_answerCharges_2]
    simp (disch := exact h2) only [↓rd0e R h1, ↓rdLe R]
    by_cases e0 : j < 8
    · have e1 : ¬ 8 ≤ j := by omega
      rw [if_neg (by rw [l8 (by omega)]; exact e1)]
      have keep : (hb (s 23 t) (nI j) && decide (s (1001 + 2 * t) j = -1)) = false → gJ s t day j = gJ s t day (j + 1) := fun q => funext fun i => by
        unfold gJ
        by_cases e : i = j
        · subst e
          rw [q, Bool.and_false, Bool.and_false, decide_eq_false (show ¬ i + 1 ≤ i by omega), Bool.false_and]
        · have : (j ≤ i) ↔ (j + 1 ≤ i) := by omega
          rw [decide_eq_decide.mpr this]
      simp (disch := first | exact h2 | omega) only [↓rd0e R h1, ↓(fun (g : Int32 → Prop) => oex (has4 (s 23 t) (nI j)) g), bI_0, nI_1, ↓rdRe R]
      cases c1 : hb (s 23 t) (nI j) with
      | false =>
        rw [if_pos rfl, keep (by rw [c1]; rfl)]
        exact ih (j + 1) M s R h1 h2 (by omega) (by omega)
      | true =>
        rw [if_neg (by decide)]
        by_cases c2 : s (1001 + 2 * t) j = -1
        · rw [if_pos c2]
          obtain ⟨M1, e, R1⟩ := wr8 R h2 e0 day
          rw [oex e]
          obtain ⟨M', q1, q2⟩ := ih (j + 1) M1 _ R1 (by rw [sU_ne (by omega)]; exact h1) (by rw [sU_ne (by omega)]; exact h2) (by omega) (by omega)
          refine ⟨M', q1, ?_⟩
          have hg : gJ (sU s (1001 + 2 * t) j day) t day (j + 1) = gJ s t day j := funext fun i => by
            unfold gJ
            rw [sU_ne (show 23 ≠ 1001 + 2 * t by omega)]
            by_cases e : i = j
            · subst e
              rw [sU_eq, c1, c2, decide_eq_false (show ¬ i + 1 ≤ i by omega), Bool.false_and, if_neg (by decide), if_pos (by simp [e0])]
            · have : (j ≤ i) ↔ (j + 1 ≤ i) := by omega
              rw [sU_nj e, decide_eq_decide.mpr this]
          rw [hg, sV_over, sU_ne (show 32 ≠ 1001 + 2 * t by omega)] at q2
          exact q2
        · rw [if_neg c2, keep (by rw [decide_eq_false c2, Bool.and_false])]
          exact ih (j + 1) M s R h1 h2 (by omega) (by omega)
    · have e1 : j = 8 := by omega
      subst e1
      rw [if_pos (by decide)]
      have hg : sV s (1001 + 2 * t) (gJ s t day 8) = s := sV_id fun i => by
        unfold gJ
        rw [if_neg]
        intro q
        simp only [Bool.and_eq_true, decide_eq_true_eq] at q
        omega
      rw [hg]
      obtain ⟨M1, e1, R1⟩ := wr0_12 R h1 (s 32 t ||| conv)
      obtain ⟨M2, e2, R2⟩ := wr0_3 R1 (by simp (disch := omega) only [sU_ne]; exact h1) 0
      obtain ⟨M3, e3, R3⟩ := wr0_9 R2 (by simp (disch := omega) only [sU_ne]; exact h1) 0
      obtain ⟨M4, e4, R4⟩ := wr0_7 R3 (by simp (disch := omega) only [sU_ne]; exact h1) 0 (Or.inl rfl)
      obtain ⟨M5, e5, R5⟩ := wr0_2 R4 (by simp (disch := omega) only [sU_ne]; exact h1) 0
      rw [oex e1, oex e2, oex e3, oex e4, oex e5]
      exact ⟨M5, rfl, R5⟩
theorem c_answer (R : Rep M A s τ) {t : Nat} (h1 : s 112 t = 1) (h2 : s 119 t = 1) (conv day : Int32) (Q : hM → Prop) : ∃ M', wX0_answerCharges M (A 7 t) conv day Q = Q M' ∧ Rep M' A (ansS s t conv day) τ := by
  obtain ⟨M', q1, q2⟩ := lc_answer (A := A) (τ := τ) conv day Q 1000 0 M s R h1 h2 (by omega) (by omega)
  refine ⟨M', q1, ?_⟩
  unfold ansS
  rw [sU_comm (f := 26) (f' := 22) (Or.inl (by decide)), sU_comm (f := 28) (f' := 22) (Or.inl (by decide)), sU_comm (f := 23) (f' := 22) (Or.inl (by decide))] at q2
  exact q2
end ANS
theorem orN_nI (p : Nat → Bool) : ∀ m, m ≤ 8 → ∃ n, n < 2 ^ m ∧ orN p m = nI n := by
  intro m
  induction m with
  | zero =>
    intro _
    exact ⟨0, by decide, rfl⟩
  | succ m ih =>
    intro hm
    obtain ⟨n, hn, e⟩ := ih (by omega)
    have h2 : 2 ^ m < 2 ^ (m + 1) := Nat.pow_lt_pow_right (by decide) (by omega)
    by_cases q : p m = true
    · refine ⟨n ||| 2 ^ m, Nat.or_lt_two_pow (by omega) h2, ?_⟩
      rw [orN, e, if_pos q, bitN_nI (by omega), or_nI]
    · refine ⟨n, by omega, ?_⟩
      rw [orN, e, if_neg q, Int32.or_zero]
theorem and_small {c : Nat} (hc : c < 256) (z : Int32) : ∃ n, n < 256 ∧ nI c &&& z = nI n := by
  refine ⟨c &&& z.toBitVec.toNat, Nat.lt_of_le_of_lt Nat.and_le_left hc, b_ext fun i hi => ?_⟩
  rw [b_and, bt_nI _ hi, bt_nI _ hi, Nat.testBit_and]
  rfl
theorem lackS_0 (σ : hσ) (c : Nat) (f p : Int32) : lackS σ c f p ≤ 0 ↔ lackS σ c f p = 0 := by
  obtain ⟨m, hm, e⟩ := lackS_nI σ c f p
  rw [e, show (0 : Int32) = nI 0 from rfl, nI_leI (by omega) (by decide), nI_eq (by omega) (by decide)]
  omega
theorem accS_v {c t f : Nat} {g : Nat → Int32} {s : hσ} (hf : 999 < f) : accS (sV s f g) c t = accS s c t := by
  unfold accS
  simp (disch := omega) only [sV_ne]
theorem ans_x {s : hσ} {t : Nat} {conv day : Int32} {f i : Nat} (h : f < 1000) (h2 : ¬ (i = t ∧ (f = 22 ∨ f = 23 ∨ f = 26 ∨ f = 28 ∨ f = 32))) : ansS s t conv day f i = s f i := by
  unfold ansS
  rw [sU_off (by omega), sU_off (by omega), sU_off (by omega), sU_off (by omega), sU_off (by omega), sV_ne (by omega)]
theorem ans_o {s : hσ} {t : Nat} {conv day : Int32} {f i : Nat} (h : 1000 ≤ f) (h2 : f ≠ 1001 + 2 * t) : ansS s t conv day f i = s f i := by
  unfold ansS
  rw [sU_off (by omega), sU_off (by omega), sU_off (by omega), sU_off (by omega), sU_off (by omega), sV_ne h2]
theorem ans_F {s : hσ} {t : Nat} {conv day : Int32} {i : Nat} : ansS s t conv day (1001 + 2 * t) i = gJ s t day 0 i := by
  unfold ansS
  rw [sU_off (by omega), sU_off (by omega), sU_off (by omega), sU_off (by omega), sU_off (by omega), sV_eq]
theorem ans_0 {s : hσ} {t : Nat} {conv day : Int32} {f : Nat} (h : f = 22 ∨ f = 23 ∨ f = 26 ∨ f = 28) : ansS s t conv day f t = 0 := by
  unfold ansS
  rcases h with rfl | rfl | rfl | rfl <;> simp (disch := omega) only [sU_eq, sU_ne]
theorem ans_32 {s : hσ} {t : Nat} {conv day : Int32} : ansS s t conv day 32 t = s 32 t ||| conv := by
  unfold ansS
  simp (disch := omega) only [sU_eq, sU_ne]
theorem gJ_keep {s : hσ} {t : Nat} {day : Int32} {i : Nat} (h : s (1001 + 2 * t) i ≠ -1) : gJ s t day 0 i = s (1001 + 2 * t) i := by
  unfold gJ
  rw [decide_eq_false h, Bool.and_false, Bool.and_false, Bool.and_false, if_neg (by decide)]
theorem gJ_or (s : hσ) (t : Nat) (day : Int32) (i : Nat) : gJ s t day 0 i = s (1001 + 2 * t) i ∨ (s (1001 + 2 * t) i = -1 ∧ gJ s t day 0 i = day) := by
  by_cases h : s (1001 + 2 * t) i = -1
  · unfold gJ
    split
    · exact Or.inr ⟨h, rfl⟩
    · exact Or.inl rfl
  · exact Or.inl (gJ_keep h)
theorem gJ_new {s : hσ} {t : Nat} {day : Int32} {i : Nat} (h8 : i < 8) (h : hb (s 23 t) (nI i) = true) (hd : day ≠ -1) : gJ s t day 0 i ≠ -1 := by
  by_cases q : s (1001 + 2 * t) i = -1
  · unfold gJ
    rw [h, q, decide_eq_true (Nat.zero_le i), decide_eq_true h8, decide_eq_true rfl, if_pos (by rfl)]
    exact hd
  · rw [gJ_keep q]
    exact q
theorem nI_nm1 {n : Nat} (h : n < 2 ^ 31) : nI n ≠ -1 := fun e => by
  have := nI_pos h
  rw [e] at this
  exact this (by decide)
section ANSI
variable {cO cF cI t : Nat} {s s1 : hσ}
theorem ans_acc {conv day : Int32} (t2 : Nat) : accS (ansS s t conv day) cF t2 = accS s cF t2 := by
  unfold accS
  rw [ans_x (by omega) (by omega)]
theorem Inv_ans (I : Inv cO cF cI s) (ha : accS s cF t = true) {g : Nat} (hg : g < 256) (hsub : ∀ j, j < 8 → g.testBit j = true → hb (s 23 t) (nI j) = true) : Inv cO cF cI (ansS s t (nI g) (s 1 0)) := by
  obtain ⟨hO, hO8, hF, hF6, hI, hI4, D, hD, hday⟩ := I.1
  have E := I.2.1
  have ht := acc48 I ha
  have hdm : s 1 0 ≠ -1 := by
    rw [hday]
    exact nI_nm1 (by omega)
  have lo : ∀ f i, f < 22 ∨ (32 < f ∧ f < 1000) → ansS s t (nI g) (s 1 0) f i = s f i := fun f i h => ans_x (by omega) (by omega)
  refine ⟨⟨?_, hO8, ?_, hF6, ?_, hI4, D, hD, ?_⟩, ⟨fun k => ?_, fun k => ?_, fun k => ?_, fun k => ?_, fun k => ?_, fun k => ?_, fun k => ?_, fun t2 => ?_, fun t2 => ?_, fun f p => ?_, ?_⟩, ⟨fun k hk => ?_, fun x y hx hy => ?_, fun x y hx hy1 hy2 => ?_⟩, ?_⟩
  · rw [lo 2 0 (by omega)]
    exact hO
  · rw [lo 7 0 (by omega)]
    exact hF
  · rw [lo 11 0 (by omega)]
    exact hI
  · rw [lo 1 0 (by omega)]
    exact hday
  · rw [lo 110 k (by omega)]
    exact E.1 k
  · rw [lo 114 k (by omega)]
    exact E.2.1 k
  · rw [lo 111 k (by omega)]
    exact E.2.2.1 k
  · rw [lo 115 k (by omega)]
    exact E.2.2.2.1 k
  · rw [lo 118 k (by omega)]
    exact E.2.2.2.2.1 k
  · rw [lo 113 k (by omega)]
    exact E.2.2.2.2.2.1 k
  · rw [lo 116 k (by omega)]
    exact E.2.2.2.2.2.2.1 k
  · rw [lo 112 t2 (by omega), ans_acc]
    exact E.2.2.2.2.2.2.2.1 t2
  · rw [lo 119 t2 (by omega), ans_acc]
    exact E.2.2.2.2.2.2.2.2.1 t2
  · rw [ans_o (by omega) (by omega), ans_acc]
    exact E.2.2.2.2.2.2.2.2.2.1 f p
  · rw [lo 120 0 (by omega)]
    exact E.out
  · rw [lo 4 k (by omega)]
    exact I.2.2.1.1 k hk
  · rw [lo 6 x (by omega), lo 6 y (by omega)]
    exact I.2.2.1.2.1 x y hx hy
  · rw [lo 6 x (by omega)]
    exact I.2.2.1.2.2 x y hx hy1 hy2
  · obtain ⟨o1, o2, o3, o4, o5, ⟨c, hc, ec⟩, o7, o8, o9, ⟨c0, h0, e0, b0⟩, o11⟩ := I.one ha
    have hc256 : c < 256 := Nat.lt_of_lt_of_le hc (pw256 cO hO8)
    refine InvT_at (t := t) I.2.2.2 ha (fun t2 => ans_acc t2) (lo 1 0 (by omega)) (fun t2 f e hf => ans_x (by omega) (by omega)) (fun t2 j e => ans_o (by omega) (by omega)) (oneT_of (day := s 1 0) (a22 := 0) (a23 := 0) (a26 := 0) (a27 := s 27 t) (a28 := 0) (a30 := s 30 t) (a32 := nI (c0 ||| g)) (an := gJ s t (s 1 0) 0) (lo 1 0 (by omega)) (ans_0 (by omega)) (ans_0 (by omega)) (ans_0 (by omega)) (ans_x (by omega) (by omega)) (ans_0 (by omega)) (ans_x (by omega) (by omega)) (by rw [ans_32, e0, or_nI]) (fun j => ans_F) ⟨Or.inl rfl, ⟨fun z => absurd z (by decide), fun z => absurd rfl z⟩, fun _ => rfl, fun _ => rfl, Or.inl rfl, ⟨0, Nat.two_pow_pos cO, nI_0.symm⟩, o7, o8, ⟨0, by omega, nI_0.symm⟩, ⟨c0 ||| g, Nat.or_lt_two_pow (n := 8) h0 hg, rfl, fun j hj hb' => ?_⟩, fun j hj => ?_⟩)
    · rw [Nat.testBit_or, Bool.or_eq_true] at hb'
      rcases hb' with q | q
      · obtain ⟨k1, k2⟩ := b0 j hj q
        refine ⟨k1, ?_⟩
        rw [gJ_keep k2]
        exact k2
      · have k3 := hsub j hj q
        refine ⟨?_, gJ_new hj k3 hdm⟩
        rw [ec, hb_nI c (by omega)] at k3
        apply Nat.lt_of_not_le
        intro k4
        have k5 := Nat.testBit_lt_two_pow (Nat.lt_of_lt_of_le hc (Nat.pow_le_pow_right (n := 2) (by decide) k4))
        rw [k5] at k3
        cases k3
    · rcases gJ_or s t (s 1 0) j with q | ⟨-, q⟩
      · rw [q]
        exact o11 j hj
      · rw [q]
        exact Or.inr (Int32.le_refl _)
theorem Evo_ans (I : Inv cO cF cI s) (ha : accS s cF t = true) (hs : ∀ f i, f ≠ 37 → f ≠ 31 → s1 f i = s f i) (hc : ∀ k, k < 6 → ∃ c, c ≤ 64 ∧ s1 37 k = s 37 k + nI c) (conv : Int32) : Evo cO cF cI cO cF cI s (ansS s1 t conv (s 1 0)) := by
  obtain ⟨hO, hO8, hF, hF6, hI, hI4, D, hD, hday⟩ := I.1
  have lo : ∀ f i, f < 22 ∨ f = 27 → ansS s1 t conv (s 1 0) f i = s f i := fun f i h => (ans_x (by omega) (by omega)).trans (hs f i (by omega) (by omega))
  have ov : ∀ a b, ovS (ansS s1 t conv (s 1 0)) a b = ovS s a b := fun a b => by
    unfold ovS
    rw [lo 3 a (by omega), lo 3 b (by omega)]
  have had : ∀ t2 j, t2 ≠ t → ansS s1 t conv (s 1 0) (1001 + 2 * t2) j = s (1001 + 2 * t2) j := fun t2 j e => (ans_o (by omega) (by omega)).trans (hs _ j (by omega) (by omega))
  have hadt : ∀ j, (ansS s1 t conv (s 1 0) (1001 + 2 * t) j = s (1001 + 2 * t) j) ∨ (s (1001 + 2 * t) j = -1 ∧ ansS s1 t conv (s 1 0) (1001 + 2 * t) j = s 1 0) := fun j => by
    rw [ans_F, ← hs (1001 + 2 * t) j (by omega) (by omega)]
    exact gJ_or s1 t (s 1 0) j
  refine Evo.mk' (Nat.le_refl _) (by rw [lo 1 0 (by omega)]; exact Int32.le_refl _) (fun f i hf => lo f i (by omega)) (fun k hk => ?_) (fun t2 e d _ => ?_) (fun t2 k d hd => ?_) (fun t2 k _ _ q => ?_) (fun t2 _ _ j hj q => ?_) (fun t2 ht2 ha2 => ⟨?_, fun _ _ => lo 27 t2 (by omega)⟩)
  · rw [ans_x (by omega) (by omega)]
    exact hc k hk
  · unfold strS stG
    rw [show ansS s1 t conv (s 1 0) 12 = s 12 from funext fun i => lo 12 i (by omega), show ansS s1 t conv (s 1 0) 13 = s 13 from funext fun i => lo 13 i (by omega), show ansS s1 t conv (s 1 0) 14 = s 14 from funext fun i => lo 14 i (by omega), show ansS s1 t conv (s 1 0) 15 = s 15 from funext fun i => lo 15 i (by omega), show ansS s1 t conv (s 1 0) 16 = s 16 from funext fun i => lo 16 i (by omega), show ansS s1 t conv (s 1 0) 18 = s 18 from funext fun i => lo 18 i (by omega), show ansS s1 t conv (s 1 0) 19 = s 19 from funext fun i => lo 19 i (by omega)]
  · unfold spS
    refine congrArg (fun q => exN q cO) (funext fun j => ?_)
    rw [ov]
    refine congrArg (fun b => ovS s k j && b) ?_
    unfold hadS
    by_cases e : t2 = t
    · subst e
      rcases hadt j with q | ⟨q1, q2⟩
      · rw [q]
      · rw [q1, q2, decide_eq_false (Int32.not_le.mpr hd), Bool.and_false, decide_eq_false (show ¬ (-1 : Int32) ≠ -1 from fun z => z rfl), Bool.false_and]
    · rw [had t2 j e]
  · obtain ⟨j, hj, q2⟩ := exN_iff.mp q
    refine exN_iff.mpr ⟨j, hj, ?_⟩
    rw [ov, lo 1 0 (by omega)]
    rw [Bool.and_eq_true] at q2 ⊢
    refine ⟨q2.1, ?_⟩
    have q3 := q2.2
    unfold hadS at q3 ⊢
    rw [Bool.and_eq_true, decide_eq_true_eq, decide_eq_true_eq] at q3 ⊢
    by_cases e : t2 = t
    · subst e
      rcases hadt j with q | ⟨q1, -⟩
      · rw [q]
        exact q3
      · exact absurd q1 q3.1
    · rw [had t2 j e]
      exact q3
  · by_cases e : t2 = t
    · subst e
      rw [ans_32, hs 32 t2 (by omega) (by omega), b_or, q, Bool.true_or]
    · rw [ans_x (by omega) (by omega), hs 32 t2 (by omega) (by omega)]
      exact q
  · obtain ⟨e, h1, h2⟩ := (I.one ha2).d27
    exact ⟨e, e, h1, by rw [lo 27 t2 (by omega)]; exact h1, Nat.le_refl _, h2⟩
/-- all charges are spent then -/
theorem ans_spt (I : Inv cO cF cI s) (ha : accS s cF t = true) (conv : Int32) : s 23 t &&& (sptS (ansS s t conv (s 1 0)) cO t ^^^ (-1)) = 0 := by
  obtain ⟨hO, hO8, hF, hF6, hI, hI4, D, hD, hday⟩ := I.1
  obtain ⟨-, -, -, -, -, ⟨c, hc, ec⟩, -, -, -, -, o11⟩ := I.one ha
  have hc256 : c < 256 := Nat.lt_of_lt_of_le hc (pw256 cO hO8)
  rw [andnot_b]
  intro i hi hb'
  rw [ec, bt_nI _ hi] at hb'
  have i8 : i < 8 := by
    apply Nat.lt_of_not_le
    intro z
    rw [tb_8 hc256 z] at hb'
    cases hb'
  have iO : i < cO := by
    apply Nat.lt_of_not_le
    intro z
    rw [Nat.testBit_lt_two_pow (Nat.lt_of_lt_of_le hc (Nat.pow_le_pow_right (n := 2) (by decide) z))] at hb'
    cases hb'
  unfold sptS
  rw [bt_orN hi (by omega), decide_eq_true i8, Bool.true_and, decide_eq_true iO, Bool.true_and]
  refine exN_iff.mpr ⟨i, iO, ?_⟩
  have h1 : ovS (ansS s t conv (s 1 0)) i i = true := by
    unfold ovS
    rw [Int32.and_self, decide_eq_true rfl]
    rfl
  have h2 : gJ s t (s 1 0) 0 i ≠ -1 := gJ_new i8 (by rw [ec, hb_nI c (by omega)]; exact hb') (by rw [hday]; exact nI_nm1 (by omega))
  have h3 : gJ s t (s 1 0) 0 i ≤ s 1 0 := by
    rcases gJ_or s t (s 1 0) i with q | ⟨-, q⟩
    · rw [q]
      rcases o11 i i8 with z | z
      · rw [q] at h2
        exact absurd z h2
      · exact z
    · rw [q]
      exact Int32.le_refl _
  rw [h1, Bool.true_and]
  unfold hadS
  rw [ans_F, ans_x (by omega) (by omega), decide_eq_true h2, decide_eq_true h3]
  rfl
end ANSI
section ENDS
variable {M : hM} {A : hAd} {s τ : hσ} {cO cF cI : Nat}
theorem c_ansE (R : Rep M A s τ) {t : Nat} (h1 : s 112 t = 1) (h2 : s 119 t = 1) (conv day : Int32) {Q : hM → Prop} (k : ∀ M' : hM, Rep M' A (ansS s t conv day) τ → Q M') : wX0_answerCharges M (A 7 t) conv day Q := by
  obtain ⟨M', e, R'⟩ := c_answer R h1 h2 conv day Q
  rw [e]
  exact k M' R'
theorem and_sub {x y : Int32} (h : ∀ i, i < 32 → bt x i = true → bt y i = true) : x &&& (y ^^^ (-1)) = 0 := andnot_b.mpr h
/-- what a trial or a plea leaves behind, with the set of which somebody was convicted -/
def Ends (M' : hM) (A : hAd) (s τ : hσ) (cO cF cI t g : Nat) (s' : hσ) : Prop := Rep M' A s' τ ∧ Inv cO cF cI s' ∧ Evo cO cF cI cO cF cI s s' ∧ (∀ i, s' 9 i = s 9 i) ∧ g < 256 ∧ nI g &&& (s 23 t ^^^ (-1)) = 0 ∧ s' 22 t = 0 ∧ s' 23 t = 0 ∧ s' 26 t = 0 ∧ s' 28 t = 0 ∧ s' 37 0 = s 37 0 + nI (popN g) ∧ s 23 t &&& (sptS s' cO t ^^^ (-1)) = 0
theorem Ends_of {M' : hM} {s1 : hσ} {t g : Nat} (I : Inv cO cF cI s) (ha : accS s cF t = true) (hs : ∀ f i, f ≠ 37 → f ≠ 31 → s1 f i = s f i) (I1 : Inv cO cF cI s1) (hc : ∀ k, k < 6 → ∃ c, c ≤ 64 ∧ s1 37 k = s 37 k + nI c) (h370 : s1 37 0 = s 37 0 + nI (popN g)) (hg : g < 256) (hsub : ∀ j, j < 8 → g.testBit j = true → hb (s 23 t) (nI j) = true) (R : Rep M' A (ansS s1 t (nI g) (s 1 0)) τ) : Ends M' A s τ cO cF cI t g (ansS s1 t (nI g) (s 1 0)) := by
  have ha1 : accS s1 cF t = true := by
    unfold accS at *
    rw [hs 9 _ (by omega) (by omega)]
    exact ha
  have e1 : s1 1 0 = s 1 0 := hs 1 0 (by omega) (by omega)
  have e23 : s1 23 t = s 23 t := hs 23 t (by omega) (by omega)
  have hI1 := Inv_ans I1 ha1 hg (fun j hj q => by rw [e23]; exact hsub j hj q)
  rw [e1] at hI1
  have hsp := ans_spt I1 ha1 (nI g)
  rw [e1, e23] at hsp
  refine ⟨R, hI1, Evo_ans I ha hs hc (nI g), fun i => (ans_x (by omega) (by omega)).trans (hs 9 i (by omega) (by omega)), hg, and_sub fun i hi q => ?_, ans_0 (by omega), ans_0 (by omega), ans_0 (by omega), ans_0 (by omega), (ans_x (by omega) (by omega)).trans h370, hsp⟩
  rw [bt_nI _ hi] at q
  have i8 : i < 8 := by
    apply Nat.lt_of_not_le
    intro z
    rw [tb_8 hg z] at q
    cases q
  have := hsub i i8 q
  rw [hb_bt _ hi] at this
  exact this
theorem l_trial (R : Rep M A s τ) (I : Inv cO cF cI s) (p1 p2 : Int32) (Q : hM → Int32 → Prop) (hx : ∀ r, refd r → Q M r) (hq : ∀ (M' : hM) (s' : hσ) (f p g : Nat), p1 = nI f → p2 = nI p → f < cF → p < 8 → accS s cF (8 * f + p) = true → lackS s cI (nI f) (nI p) = 0 → Ends M' A s τ cO cF cI (8 * f + p) g s' → Q M' (nI g)) : wL_trial M (some (A 0 0)) p1 p2 Q := by
  obtain ⟨hO, hO8, hF, hF6, hI, hI4, D, hD, hday⟩ := I.1
  have E := I.2.1
  unfold wL_trial wX4_trial
  simp only [↓rd4e R]
  by_cases h : isinP s cF p1 p2
  · obtain ⟨f, p, rfl, rfl, hf, hp, ha⟩ := isin_acc h
    have ht := acc48 I ha
    rw [c_acc_t R E hF6 hf hp ha]
    obtain ⟨o1, o2, o3, o4, o5, o6, o7, o8, o9, o10, o11⟩ := I.one ha
    have h112 := E.a ha
    have h119 := E.g ha
    by_cases c1 : s 22 (8 * f + p) = 2
    · by_cases c2 : lackS s cI (nI f) (nI p) ≤ 0
      · obtain ⟨c, hc2, hc⟩ := o6
        have hc256 : c < 256 := Nat.lt_of_lt_of_le hc2 (pw256 cO hO8)
        obtain ⟨g, hg2, hg⟩ := orN_nI (fun k => decide (k < cO) && (hb (s 23 (8 * f + p)) (nI k) && strgS s cI (8 * f + p) k 8 (s 1 0))) 8 (by omega)
        have hg2 : g < 256 := hg2
        have hpg : prvS s cO cI (8 * f + p) = nI g := hg
        have hsub : ∀ j, j < 8 → g.testBit j = true → hb (s 23 (8 * f + p)) (nI j) = true := fun j hj q => by
          have k1 : bt (nI g) j = true := by
            rw [bt_nI _ (by omega)]
            exact q
          rw [← hg, bt_orN (by omega) (by omega)] at k1
          simp only [Bool.and_eq_true] at k1
          exact k1.2.2.1
        have hpv : fX4_provenCharges M (A 0 0) (some (A 7 (8 * f + p))) = some (nI g) := by
          rw [c_proven R E hO8 ha, hpg]
        obtain ⟨g2, hg3, hg4⟩ := and_small (c := c) hc256 (nI g ^^^ (-1))
        rw [← hc] at hg4
        have hb2 : fJ6_bitCount_0f7a4 (s 23 (8 * f + p) &&& (nI g ^^^ (-1))) = some (nI (popN g2)) := by
          rw [hg4]
          exact sz6 g2 hg3
        have hb1 : fJ6_bitCount_0f7a4 (nI g) = some (nI (popN g)) := sz6 g hg2
        obtain ⟨M1, e1, R1⟩ := wr4_7 R (s 37 0 + nI (popN g))
        simp (disch := omega) only [↓rd0e R h112, c1, c2, ↓(fun (a b : Int32) (g : Int32 → Prop) => oex (c_lackedBy R E a b) g), ↓(fun (g : Int32 → Prop) => oex (hpv) g), ↓(fun (g : Int32 → Prop) => oex (hb1) g), ↓(fun (g : hM → Prop) => oex e1 g), ↓reduceIte, bI_f, bI_t, i10, i20, i30, sx, snf, ↓rd4e R, ↓rd4e R1, ↓rd0e R1 (by simp (disch := omega) only [sU_ne]; exact h112), sU_ne, sU_nj, ↓(fun (g : Int32 → Prop) => oex (hb2) g)]
        obtain ⟨M2, e2, R2⟩ := wr4_8 R1 (s 37 1 + nI (popN g2))
        simp (disch := omega) only [↓(fun (g : hM → Prop) => oex e2 g), ↓reduceIte, bI_f, bI_t, i10, i20, i30, sx, snf, ↓rd4e R2, ↓rd0e R2 (by simp (disch := omega) only [sU_ne]; exact h112), sU_ne, sU_nj]
        refine c_ansE R2 (by simp (disch := omega) only [sU_ne]; exact h112) (by simp (disch := omega) only [sU_ne]; exact h119) (nI g) (s 1 0) (fun M3 R3 => ?_)
        have hp1 := popN_le g
        have hp2 := popN_le g2
        refine hq M3 _ f p g rfl rfl hf hp ha ((lackS_0 s cI (nI f) (nI p)).mp c2) (Ends_of I ha (fun a i n1 n2 => by rw [sU_ne n1, sU_ne n1]) ⟨InvN_c (by omega) (InvN_c (by omega) I.1), ExI_c (by omega) (ExI_c (by omega) E), InvO_c (by omega) (InvO_c (by omega) I.2.2.1), InvT_c (by omega) (InvT_c (by omega) I.2.2.2)⟩ (fun k hk => ?_) (by simp (disch := omega) only [sU_nj, sU_eq]) hg2 hsub R3)
        by_cases k1 : k = 1
        · subst k1
          exact ⟨popN g2, by omega, by rw [sU_eq]⟩
        · rw [sU_nj k1]
          exact cnt_one (s := s) (j := 0) (c := popN g) (by omega) k hk
      · simp only [↓rd0e R h112, c1, c2, ↓(fun (a b : Int32) (g : Int32 → Prop) => oex (c_lackedBy R E a b) g), ↓reduceIte, bI_f, bI_t, i10, i20, i30, sx, snf, ↓rd4e R]
        exact hx _ (Or.inr (Or.inr rfl))
    · simp only [↓rd0e R h112, c1, ↓reduceIte, bI_f, bI_t, i10, i20, i30, sx, snf, ↓rd4e R]
      exact hx _ (Or.inr (Or.inr rfl))
  · rw [c_acc_f R E hF6 h]
    simp only [sx, ↓reduceIte]
    exact hx _ (Or.inl rfl)
theorem disc_ex (z : Int32) : ∃ d, d ≤ 100 ∧ fX4_discountAfter z = some (100 - nI d) := by
  unfold fX4_discountAfter
  by_cases h1 : (10 : Int32) < z
  · by_cases h2 : (30 : Int32) < z
    · exact ⟨90, by omega, by rw [if_pos h1, if_pos h2]; rfl⟩
    · exact ⟨75, by omega, by rw [if_pos h1, if_neg h2]; rfl⟩
  · exact ⟨67, by omega, by rw [if_neg h1]; rfl⟩
theorem sub_sub100 : ∀ d, d ≤ 100 → (100 : Int32) - (100 - nI d) = nI d := by decide +kernel
theorem months_nI {h d : Nat} (hh : h < 1000) (hd : d ≤ 100) : ∃ m, m < 2 ^ 31 ∧ ((12 * nI h) * (100 - (100 - nI d))) / 100 = nI m := by
  have hb' : 12 * h * d ≤ 12 * h * 100 := Nat.mul_le_mul_left _ hd
  refine ⟨(12 * h * d) / 100, by omega, ?_⟩
  rw [sub_sub100 d hd, show (12 : Int32) = nI 12 from rfl, pk_mul, pk_mul]
  exact pk_div (d := 100) (by omega) (by decide) (by decide)
theorem l_plea (R : Rep M A s τ) (I : Inv cO cF cI s) (p1 p2 p3 : Int32) (Q : hM → Int32 → Prop) (hx : ∀ r, refd r → Q M r) (hq : ∀ (M' : hM) (s' : hσ) (f p g : Nat) (r : Int32), p1 = nI f → p2 = nI p → f < cF → p < 8 → accS s cF (8 * f + p) = true → p3 = nI g → ¬ refd r → r ≠ -9 → Ends M' A s τ cO cF cI (8 * f + p) g s' → Q M' r) : wL_plea M (some (A 0 0)) p1 p2 p3 Q := by
  obtain ⟨hO, hO8, hF, hF6, hI, hI4, D, hD, hday⟩ := I.1
  have E := I.2.1
  unfold wL_plea wX4_plea
  simp only [↓rd4e R]
  by_cases h : isinP s cF p1 p2
  · obtain ⟨f, p, rfl, rfl, hf, hp, ha⟩ := isin_acc h
    have ht := acc48 I ha
    rw [c_acc_t R E hF6 hf hp ha]
    obtain ⟨o1, o2, o3, o4, o5, o6, o7, o8, o9, o10, o11⟩ := I.one ha
    have h112 := E.a ha
    have h119 := E.g ha
    cases g3 : (decide (0 ≤ p3) && decide (p3 < bitN cO)) with
    | false =>
      simp only [g3, ↓c_checkTold R hO hO8 p3, Bool.false_eq_true, ↓reduceIte, bI_f, bI_t, i10, i20, i30, sx, snf, ↓rd4e R]
      exact hx _ (Or.inr (Or.inl rfl))
    | true =>
      obtain ⟨n1, hn1, hn2, rfl⟩ := told_n hO8 g3
      simp only [g3, ↓c_checkTold R hO hO8 (nI n1), ↓rd0e R h112, ↓reduceIte, bI_f, bI_t, i10, i20, i30, sx, snf, ↓rd4e R]
      by_cases c1 : s 22 (8 * f + p) = 2
      · rw [if_pos c1]
        by_cases c2 : (nI n1 : Int32) = 0
        · rw [if_pos c2]
          exact hx _ (Or.inr (Or.inr rfl))
        · rw [if_neg c2]
          by_cases c3 : nI n1 &&& (s 23 (8 * f + p) ^^^ (-1)) = 0
          · rw [if_pos c3]
            obtain ⟨gg, -, hgg⟩ := I.hG
            obtain ⟨gv1, gv2⟩ := hgg n1
            obtain ⟨c, hc2, hc⟩ := o6
            obtain ⟨gv3, gv4⟩ := hgg c
            rw [← hc] at gv3
            simp only [↓(fun (z : Int32) (g : Int32 → Prop) => oex (c_gravity R E z) g), gv1, gv3]
            by_cases c4 : nI (hv gg cO c) ≤ 2 * nI (hv gg cO n1)
            · rw [if_pos c4]
              obtain ⟨d, hd, ed⟩ := disc_ex (s 1 0 - s 50 (8 * f + p))
              obtain ⟨m, hm, em⟩ := months_nI gv2 hd
              have hb1 : fJ6_bitCount_0f7a4 (nI n1) = some (nI (popN n1)) := sz6 n1 hn2
              obtain ⟨M1, e1, R1⟩ := wr4_9 R (s 37 2 + 1)
              simp (disch := omega) only [↓(fun (g : Int32 → Prop) => oex (ed) g), ↓(fun (g : hM → Prop) => oex e1 g), ↓rd4e R1, sU_ne, sU_nj, ↓(fun (g : Int32 → Prop) => oex (hb1) g)]
              obtain ⟨M2, e2, R2⟩ := wr4_7 R1 (s 37 0 + nI (popN n1))
              simp (disch := omega) only [↓(fun (g : hM → Prop) => oex e2 g), ↓rd0e R2 (by simp (disch := omega) only [sU_ne]; exact h112), sU_ne, em]
              obtain ⟨M3, e3, R3⟩ := wr0_11 R2 (t := 8 * f + p) (by simp (disch := omega) only [sU_ne]; exact h112) (s 31 (8 * f + p) + nI m)
              simp (disch := omega) only [↓(fun (g : hM → Prop) => oex e3 g), ↓rd4e R3, ↓rd0e R3 (by simp (disch := omega) only [sU_ne]; exact h112), sU_ne]
              refine c_ansE R3 (by simp (disch := omega) only [sU_ne]; exact h112) (by simp (disch := omega) only [sU_ne]; exact h119) (nI n1) (s 1 0) (fun M4 R4 => ?_)
              have hp1 := popN_le n1
              refine hq M4 _ f p n1 _ rfl rfl hf hp ha rfl (nI_nref hm) (nI_n9 hm) (Ends_of I ha (fun a i q1 q2 => by rw [sU_ne q2, sU_ne q1, sU_ne q1]) ⟨InvN_c (by omega) (InvN_c (by omega) (InvN_c (by omega) I.1)), ExI_c (by omega) (ExI_c (by omega) (ExI_c (by omega) E)), InvO_c (by omega) (InvO_c (by omega) (InvO_c (by omega) I.2.2.1)), ?_⟩ (fun k hk => ?_) (by simp (disch := omega) only [sU_ne, sU_nj, sU_eq]) hn2 (fun j hj q => ?_) R4)
              · refine InvT_at (t := 8 * f + p) (InvT_c (f := 37) (j := 0) (x := s 37 0 + nI (popN n1)) (by omega) (InvT_c (f := 37) (j := 2) (x := s 37 2 + 1) (by omega) I.2.2.2)) (by simp (disch := omega) only [accS_c]; exact ha) (fun t2 => by simp (disch := omega) only [accS_c]) (by simp (disch := omega) only [sU_ne]) (fun t2 g e hg => by rw [sU_nj e]) (fun t2 j e => by simp (disch := omega) only [sU_ne]) (oneT_c (by omega) (oneT_c (by omega) (oneT_c (by omega) (I.one ha))))
              · rw [sU_ne (by decide)]
                by_cases k1 : k = 0
                · subst k1
                  exact ⟨popN n1, by omega, by rw [sU_eq]⟩
                · rw [sU_nj k1]
                  exact cnt_one (s := s) (j := 2) (c := 1) (by decide) k hk
              · have k1 := andnot_b.mp c3 j (by omega) (by rw [bt_nI _ (by omega)]; exact q)
                rw [hb_bt _ (by omega)]
                exact k1
            · rw [if_neg c4]
              exact hx _ (Or.inr (Or.inr rfl))
          · rw [if_neg c3]
            exact hx _ (Or.inr (Or.inr rfl))
      · rw [if_neg c1]
        exact hx _ (Or.inr (Or.inr rfl))
  · rw [c_acc_f R E hF6 h]
    simp only [sx, ↓reduceIte]
    exact hx _ (Or.inl rfl)
theorem isin_of {f p : Nat} (hf : f < cF) (hp : p < 8) (ha : accS s cF (8 * f + p) = true) : isinP s cF (nI f) (nI p) := by
  rw [acc_fp hp, Bool.and_eq_true] at ha
  exact ⟨f, p, rfl, rfl, hf, hp, ha.2⟩
/-- a charge: refused just if that one isn't open, or the set isn't right today -/
theorem l_charge (R : Rep M A s τ) (I : Inv cO cF cI s) (p1 p2 p3 : Int32) (Q : hM → Int32 → Prop) (hx : ∀ r, refd r → (∀ f p n, p1 = nI f → p2 = nI p → f < cF → p < 8 → accS s cF (8 * f + p) = true → p3 = nI n → n < 2 ^ cO → s 22 (8 * f + p) = 0 → ¬ RT (canB s cO cI (8 * f + p) (s 1 0)) (mateB s cO) n) → Q M r) (hq : ∀ (M' : hM) (s' : hσ) (f p n : Nat) (r : Int32), p1 = nI f → p2 = nI p → f < cF → p < 8 → accS s cF (8 * f + p) = true → p3 = nI n → n < 256 → RT (canB s cO cI (8 * f + p) (s 1 0)) (mateB s cO) n → ¬ refd r → r ≠ -9 → Rep M' A s' τ → Inv cO cF cI s' → Evo cO cF cI cO cF cI s s' → (∀ i, s' 9 i = s 9 i) → (∀ t k d, whyS s' cO cI t k d = whyS s cO cI t k d) → s' 1 0 = s 1 0 → Q M' r) : wL_charge M (some (A 0 0)) p1 p2 p3 Q := by
  obtain ⟨hO, hO8, hF, hF6, hI, hI4, D, hD, hday⟩ := I.1
  have E := I.2.1
  unfold wL_charge wX4_charge
  simp only [↓rd4e R]
  by_cases h : isinP s cF p1 p2
  · obtain ⟨f, p, rfl, rfl, hf, hp, ha⟩ := isin_acc h
    have ht := acc48 I ha
    rw [c_acc_t R E hF6 hf hp ha]
    obtain ⟨o1, o2, o3, o4, o5, o6, o7, o8, o9, o10, o11⟩ := I.one ha
    have h112 := E.a ha
    have same : ∀ f' p', nI f = nI f' → nI p = nI p' → f' < cF → p' < 8 → f' = f ∧ p' = p := fun f' p' e1 e2 hf' hp' => ⟨((nI_eq (by omega) (by omega)).mp e1).symm, ((nI_eq (by omega) (by omega)).mp e2).symm⟩
    cases g3 : (decide (0 ≤ p3) && decide (p3 < bitN cO)) with
    | false =>
      simp only [g3, ↓c_checkTold R hO hO8 p3, Bool.false_eq_true, ↓reduceIte, bI_f, bI_t, i10, i20, i30, sx, snf, ↓rd4e R]
      refine hx _ (Or.inr (Or.inl rfl)) (fun f' p' n _ _ _ _ _ en hn _ _ => ?_)
      have := pw256 cO hO8
      rw [en, decide_eq_true (nI_pos' (by omega)), bitN_nI (by omega), decide_eq_true ((nI_ltI (by omega) (by omega)).mpr hn)] at g3
      cases g3
    | true =>
      obtain ⟨n1, hn1, hn2, rfl⟩ := told_n hO8 g3
      simp only [g3, ↓c_checkTold R hO hO8 (nI n1), ↓rd0e R h112, ↓reduceIte, bI_f, bI_t, i10, i20, i30, sx, snf, ↓rd4e R]
      by_cases c1 : s 22 (8 * f + p) = 0
      · rw [if_pos c1]
        have hcr : fX4_isRight M (A 0 0) (nI n1) (canS s cO cI (8 * f + p) (s 1 0)) = some (bI (rtB (canB s cO cI (8 * f + p) (s 1 0)) (mateB s cO) n1)) := c_isRight R E hn2 _
        simp only [↓(fun (g : Int32 → Prop) => oex (c_chargeable R E hO8 ha (s 1 0)) g), ↓(fun (g : Int32 → Prop) => oex (hcr) g), bI_0]
        cases c2 : rtB (canB s cO cI (8 * f + p) (s 1 0)) (mateB s cO) n1 with
        | false =>
          rw [if_pos rfl]
          refine hx _ (Or.inr (Or.inr rfl)) (fun f' p' n e1 e2 hf' hp' _ en hn _ hr => ?_)
          obtain ⟨rfl, rfl⟩ := same f' p' e1 e2 hf' hp'
          have := pw256 cO hO8
          obtain rfl := (nI_eq (by omega) (by omega)).mp en
          rw [rtB_iff.mpr hr] at c2
          cases c2
        | true =>
          rw [if_neg (by decide)]
          have hrt := rtB_iff.mp c2
          obtain ⟨M1, e1, R1⟩ := wr0_2 R h112 2
          obtain ⟨M2, e2, R2⟩ := wr0_3 R1 (t := 8 * f + p) (by simp (disch := omega) only [sU_ne]; exact h112) (nI n1)
          obtain ⟨M3, e3, R3⟩ := wr0_4 R2 (t := 8 * f + p) (by simp (disch := omega) only [sU_ne]; exact h112) (s 1 0)
          have E3 : ExI cO cF cI (sU (sU (sU s 22 (8 * f + p) 2) 23 (8 * f + p) (nI n1)) 50 (8 * f + p) (s 1 0)) := ExI_c (by omega) (ExI_c (by omega) (ExI_c (by omega) E))
          obtain ⟨gg, -, hgg⟩ := I.hG
          obtain ⟨gv1, gv2⟩ := hgg n1
          have hgv : fX4_gravityOf M3 (A 0 0) (nI n1) = some (nI (hv gg cO n1)) := by
            rw [c_gravity R3 E3, heavS_c (by omega), heavS_c (by omega), heavS_c (by omega), gv1]
          simp (disch := omega) only [↓(fun (g : hM → Prop) => oex e1 g), ↓(fun (g : hM → Prop) => oex e2 g), ↓rd4e R2, sU_ne, ↓(fun (g : hM → Prop) => oex e3 g), ↓rd4e R3, ↓(fun (g : Int32 → Prop) => oex (hgv) g)]
          have hn0 : nI n1 ≠ 0 := fun z => by
            have z2 := (nI_eq (a := n1) (b := 0) (by omega) (by decide)).mp z
            have z3 := hrt.1.1
            rw [z2] at z3
            exact absurd z3 (by decide)
          refine hq M3 _ f p n1 _ rfl rfl hf hp ha rfl hn2 hrt (nI_nref (by omega)) (nI_n9 (by omega)) R3 ⟨InvN_c (by omega) (InvN_c (by omega) (InvN_c (by omega) I.1)), E3, InvO_c (by omega) (InvO_c (by omega) (InvO_c (by omega) I.2.2.1)), ?_⟩ (Evo.quiet I (fun g i hg => by simp (disch := omega) only [sU_ne]) (cnt_same fun k => by simp (disch := omega) only [sU_ne])) (fun i => by simp (disch := omega) only [sU_ne]) (fun t k d => by rw [whyS_c (by omega), whyS_c (by omega), whyS_c (by omega)]) (by simp (disch := omega) only [sU_ne])
          refine InvT_at (t := 8 * f + p) I.2.2.2 ha (fun t2 => ?_) ?_ (fun t2 g e hg => ?_) (fun t2 j e => ?_) (oneT_of (day := s 1 0) (a22 := 2) (a23 := nI n1) (a26 := s 26 (8 * f + p)) (a27 := s 27 (8 * f + p)) (a28 := s 28 (8 * f + p)) (a30 := s 30 (8 * f + p)) (a32 := s 32 (8 * f + p)) (an := s (1001 + 2 * (8 * f + p))) ?_ ?_ ?_ ?_ ?_ ?_ ?_ ?_ (fun j => ?_) ⟨Or.inr (Or.inr rfl), ⟨fun _ => hn0, fun _ => rfl⟩, fun z => absurd rfl z, fun z => absurd z (by decide), o5, ⟨n1, hn1, rfl⟩, o7, o8, o9, o10, o11⟩)
          · simp (disch := omega) only [accS_c]
          · simp (disch := omega) only [sU_ne]
          · simp (disch := omega) only [sU_nj e, sU_ne]
          · simp (disch := omega) only [sU_ne]
          · simp (disch := omega) only [sU_ne, sU_eq]
          · simp (disch := omega) only [sU_ne, sU_eq]
          · simp (disch := omega) only [sU_ne, sU_eq]
          · simp (disch := omega) only [sU_ne, sU_eq]
          · simp (disch := omega) only [sU_ne, sU_eq]
          · simp (disch := omega) only [sU_ne, sU_eq]
          · simp (disch := omega) only [sU_ne, sU_eq]
          · simp (disch := omega) only [sU_ne, sU_eq]
          · simp (disch := omega) only [sU_ne]
      · rw [if_neg c1]
        refine hx _ (Or.inr (Or.inr rfl)) (fun f' p' n e1 e2 hf' hp' _ _ _ h22 _ => ?_)
        obtain ⟨rfl, rfl⟩ := same f' p' e1 e2 hf' hp'
        exact c1 h22
  · rw [c_acc_f R E hF6 h]
    simp only [sx, ↓reduceIte]
    refine hx _ (Or.inl rfl) (fun f p n e1 e2 hf hp ha _ _ _ _ => ?_)
    subst e1 e2
    exact h (isin_of hf hp ha)
end ENDS
