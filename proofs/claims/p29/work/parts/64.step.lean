/-! ===== one step of a run ===== -/
def INVL (n : Nat) (M : hM) (t p f d e : Nat) : Prop := ∃ (A : hAd) (s τ : hσ) (cO cF cI : Nat), (A 0 0 = t ∧ A 11 12 = p ∧ A 11 13 = f ∧ A 11 14 = d ∧ A 11 15 = e) ∧ Rep M A s τ ∧ Inv cO cF cI s ∧ LW τ s cO cF cI ∧ (∀ k, k < 6 → τ 15 k = s 37 k ∧ ∃ c, c ≤ 64 * n ∧ s 37 k = nI c) ∧ ∀ k, k < 12 → dRow τ s cO cF k
theorem lg_self (x : Int64) : lg_cmp x x = 0 := (lg_cmp_eq x x).mpr rfl
theorem drawn_t (L : Nat) (xs : Nat → Int32) {i : Nat} (hi : i < 2 ^ 31) : ∃ X, X < 2 ^ 31 ∧ fL_drawn L xs (nI i) = some (nI X) := by
  have low : ∀ x : Int32, ∃ X, X < 2 ^ 31 ∧ x &&& 2147483647 = nI X := fun x => ⟨x.toBitVec.toNat % 2 ^ 31, Nat.mod_lt _ (by decide), pk_and x 31 (by decide)⟩
  unfold fL_drawn
  by_cases c : (Int32.ofNat L : Int32) ≤ nI i
  · obtain ⟨X, h1, h2⟩ := low (14127341 * (nI i + 3) + 16871)
    rw [if_pos c]
    exact ⟨X, h1, congrArg some h2⟩
  · have hL : i < L := by
      apply Nat.lt_of_not_le
      intro z
      exact c (nI_le z hi)
    obtain ⟨X, h1, h2⟩ := low (xs (nI i).toNatClampNeg)
    rw [if_neg c, if_pos (by rw [nI_toInt hi]; exact ⟨by omega, by omega⟩)]
    exact ⟨X, h1, congrArg some h2⟩
section STEP
variable {k4 : hM → Int32 → Int32 → Prop} {k47 : hM → Int32 → Int32 → Prop} {b L : Nat} {xs : Nat → Int32} {a2 : Int32}
variable {M : hM} {A : hAd} {s τ : hσ} {cO cF cI : Nat}
/-- what was written down before holds behind a call -/
theorem held_evo {cO' cF' cI' : Nat} {s' : hσ} (I : Inv cO cF cI s) (I' : Inv cO' cF' cI' s') (E' : Evo cO cF cI cO' cF' cI' s s') {k : Nat} (hk : k < 12) (hd : dRow τ s cO cF k) (ha : accS s' cF' (atK k) = true) : held s' cO' (atK k) (τ 14 (4 * k)) (τ 14 (4 * k + 1)) (τ 14 (4 * k + 2)) (τ 14 (4 * k + 3)) := by
  have h48 := atK_lt hk
  cases q : accS s cF (atK k) with
  | true =>
    obtain ⟨d0, d1, d2, d3⟩ := hd.1 q
    obtain ⟨c1, c2, ⟨e, e', z1, z2, z3, z4⟩, c4⟩ := E'.2.2.2.2.2.1 _ h48 q
    rw [d0, d1, d2, d3]
    refine ⟨and_sub fun i hi w => ?_, and_sub fun i hi w => c2 i hi w, ?_, ?_⟩
    · unfold sptS at w ⊢
      rw [bt_orN hi (by omega), Bool.and_eq_true, Bool.and_eq_true, decide_eq_true_eq] at w
      obtain ⟨w1, w2, w3⟩ := w
      have w2 := of_decide_eq_true w2
      rw [bt_orN hi (by omega), decide_eq_true w1, Bool.true_and, decide_eq_true (Nat.lt_of_lt_of_le w2 E'.1.1), Bool.true_and]
      exact c1 i w2 w3
    · rw [z1, z2]
      exact nI_nlt z3 (by omega)
    · by_cases c : s' 22 (atK k) = 0
      · exact Or.inl c
      · by_cases c' : s 22 (atK k) = s' 22 (atK k)
        · exact Or.inr (Or.inr (c4 c'.symm (by rw [c']; exact c)))
        · exact Or.inr (Or.inl c')
  | false =>
    obtain ⟨d0, d1, d2, d3⟩ := hd.2 q
    obtain ⟨e, z1, z2⟩ := (I'.one ha).d27
    rw [d0, d1, d2, d3]
    refine ⟨Int32.zero_and, Int32.zero_and, ?_, Or.inl (E'.2.2.1 _ h48 q ha)⟩
    rw [z1]
    exact nI_pos (by omega)
theorem st_307 {n X : Nat} (hn : n < 56) (hX : X < 2 ^ 31) {M' : hM} {A' : hAd} {s' τ' : hσ} {cO' cF' cI' : Nat} (I : Inv cO cF cI s) (hcn : ∀ k, k < 6 → τ 15 k = s 37 k ∧ ∃ c, c ≤ 64 * n ∧ s 37 k = nI c) (hrow : ∀ k, k < 12 → dRow τ s cO cF k) (hA : A' 0 0 = A 0 0 ∧ ∀ k, A' 11 k = A 11 k) (R' : Rep M' A' s' τ') (I' : Inv cO' cF' cI' s') (E' : Evo cO cF cI cO' cF' cI' s s') (L' : LW τ' s' cO' cF' cI') (hτ : ∀ f i, f ≠ 12 → f ≠ 13 → τ' f i = τ f i) (hk : ∀ M', INVL (n + 1) M' (A 0 0) (A 11 12) (A 11 13) (A 11 14) (A 11 15) → k47 M' 1 (nI (n + 1))) : bL_law_307 k4 k47 b L xs M' a2 (A 0 0) (A 11 12) (A 11 13) (A 11 14) (A 11 15) (nI n) (nI X) := by
  have y : nI X - nI X / 100000 * 100000 = nI (X % 100000) := pk_rem (d := 100000) hX (by decide) (by decide)
  unfold bL_law_307
  rw [y, ← hA.1, ← hA.2 12, ← hA.2 13, ← hA.2 14, ← hA.2 15]
  have t14 : ∀ i, τ' 14 i = τ 14 i := fun i => hτ 14 i (by decide) (by decide)
  refine lawful_t R' I' (by omega) L' (fun k hk6 => ?_) (fun k hk12 ha => ?_) (fun k hk12 ha => ?_) _ (fun M2 τ2 R2 h2 hr2 hc2 => ?_)
  · obtain ⟨q1, c, hc, q2⟩ := hcn k hk6
    obtain ⟨c', hc', q3⟩ := E'.2.2.2.1 k hk6
    rw [hτ 15 k (by decide) (by decide), q1, q3, q2, nI_add]
    exact nI_nlt (by omega) (by omega)
  · rw [t14, t14, t14, t14]
    exact held_evo I I' E' hk12 (hrow k hk12) ha
  · rw [t14, t14, t14, t14]
    refine (hrow k hk12).2 ?_
    cases q : accS s cF (atK k) with
    | true =>
      rw [E'.2.1 _ q] at ha
      cases ha
    | false => rfl
  · rw [if_neg (by decide), nI_1]
    refine hk M2 ⟨A', s', τ2, cO', cF', cI', ⟨hA.1, hA.2 12, hA.2 13, hA.2 14, hA.2 15⟩, R2, I', ⟨?_, ?_, ?_, fun k hk => ?_⟩, fun k hk6 => ⟨hc2 k hk6, ?_⟩, hr2⟩
    · rw [h2 12 0 (by decide) (by decide)]
      exact L'.1
    · rw [h2 12 1 (by decide) (by decide)]
      exact L'.2.1
    · rw [h2 12 2 (by decide) (by decide)]
      exact L'.2.2.1
    · rw [h2 13 k (by decide) (by decide)]
      exact L'.2.2.2 k hk
    · obtain ⟨q1, c, hc, q2⟩ := hcn k hk6
      obtain ⟨c', hc', q3⟩ := E'.2.2.2.1 k hk6
      exact ⟨c + c', by omega, by rw [q3, q2, nI_add]⟩
/-- what was known of the day before, when it was asked -/
def knew (s : hσ) (cO cF cI at' : Nat) (k0 : Int32) (kk : Int64) : Prop := k0 = 0 ∨ s 1 0 - 1 < 0 ∨ (accS s cF at' = true ∧ kk = knV (fun k => whyS s cO cI at' k (s 1 0 - 1)) (fun e => strS s cI at' (nI e) (s 1 0 - 1)) cO)
theorem st_272 {n X at' : Nat} (hn : n < 56) (hX : X < 2 ^ 31) {k0 : Int32} {kk : Int64} (hkn : knew s cO cF cI at' k0 kk) {M' : hM} {A' : hAd} {s' τ' : hσ} {cO' cF' cI' : Nat} (I : Inv cO cF cI s) (hcn : ∀ k, k < 6 → τ 15 k = s 37 k ∧ ∃ c, c ≤ 64 * n ∧ s 37 k = nI c) (hrow : ∀ k, k < 12 → dRow τ s cO cF k) (hA : A' 0 0 = A 0 0 ∧ ∀ k, A' 11 k = A 11 k) (R' : Rep M' A' s' τ') (I' : Inv cO' cF' cI' s') (E' : Evo cO cF cI cO' cF' cI' s s') (L' : LW τ' s' cO' cF' cI') (hτ : ∀ f i, f ≠ 12 → f ≠ 13 → τ' f i = τ f i) (hk : ∀ M', INVL (n + 1) M' (A 0 0) (A 11 12) (A 11 13) (A 11 14) (A 11 15) → k47 M' 1 (nI (n + 1))) : bL_law_272 k4 k47 b L xs M' a2 (A 0 0) (A 11 12) (A 11 13) (A 11 14) (A 11 15) (nI n) (nI X) (nI at') k0 (s 1 0 - 1) (nI cO) kk := by
  have h307 : bL_law_307 k4 k47 b L xs M' a2 (A 0 0) (A 11 12) (A 11 13) (A 11 14) (A 11 15) (nI n) (nI X) := st_307 hn hX I hcn hrow hA R' I' E' L' hτ hk
  unfold bL_law_272
  by_cases c0 : k0 = 0
  · rw [if_pos c0]
    exact h307
  · by_cases c1 : s 1 0 - 1 < 0
    · rw [if_neg c0, if_pos c1]
      exact h307
    · rw [if_neg c0, if_neg c1]
      have hx : ∀ f : Int32 → Prop, (∃ x, aI M' 0 (some (A 11 12)) 0 = some x ∧ f x) = f (nI cO') := fun f => by
        rw [← hA.2 12, rp0e R', L'.1]
      rw [hx]
      by_cases c2 : nI cO' = nI cO
      · obtain ⟨ha, rfl⟩ : accS s cF at' = true ∧ kk = _ := by
          rcases hkn with q | q | q
          · exact absurd q c0
          · exact absurd q c1
          · exact q
        have hO := I.1.2.1
        have hO' := I'.1.2.1
        obtain rfl : cO' = cO := (nI_eq (by omega) (by omega)).mp c2
        obtain ⟨D, hD, eD⟩ := I.1.2.2.2.2.2.2
        obtain ⟨D', hD', eD'⟩ := I'.1.2.2.2.2.2.2
        have hle := E'.2.2.2.2.2.2
        have hDD : D ≤ D' := by
          rw [eD, eD'] at hle
          exact (nI_leI (by omega) (by omega)).mp hle
        have hD1 : 1 ≤ D := by
          rcases Nat.eq_zero_or_pos D with z | z
          · subst z
            rw [eD] at c1
            exact absurd (by decide) c1
          · exact z
        have ed : s 1 0 - 1 = nI (D - 1) := by
          rw [eD, show D = D - 1 + 1 by omega]
          exact nI_pred (D - 1)
        have hd : inR (s 1 0 - 1) 0 (s' 1 0) = true := by
          rw [eD', ed]
          exact (inR_nI (by omega)).mpr ⟨D - 1, by omega, rfl⟩
        have hlt : s 1 0 - 1 < s 1 0 := by
          rw [ed, eD]
          exact nI_lt (by omega) (by omega)
        obtain ⟨q1, q2⟩ := E'.2.2.2.2.1 at' (s 1 0 - 1) ha hlt
        have kt := known_t R' I' L' (E'.2.1 _ ha) hd
        rw [hA.1, hA.2 12] at kt
        have ek : knV (fun k => whyS s' cO' cI' at' k (s 1 0 - 1)) (fun e => strS s' cI' at' (nI e) (s 1 0 - 1)) cO' = knV (fun k => whyS s cO' cI at' k (s 1 0 - 1)) (fun e => strS s cI at' (nI e) (s 1 0 - 1)) cO' := by
          unfold knV
          rw [accF_cong (g := fun k => whyS s' cO' cI' at' k (s 1 0 - 1)) (g' := fun k => whyS s cO' cI at' k (s 1 0 - 1)) cO' 0 0 (fun j _ hj => q2 rfl j (by omega))]
          exact accF_cong 10 _ 0 (fun j _ _ => q1 (nI j))
        rw [if_pos c2, oex kt, ek, if_pos (lg_self _)]
        exact h307
      · rw [if_neg c2]
        exact h307
theorem st_229 {n X at' : Nat} (hn : n < 56) (hX : X < 2 ^ 31) {k0 : Int32} {kk v : Int64} (hkn : knew s cO cF cI at' k0 kk) (R : Rep M A s τ) (I : Inv cO cF cI s) (Lw : LW τ s cO cF cI) (hv : fL_mix M (some (A 0 0)) (some (A 11 12)) (some (A 11 13)) = some v) (hcn : ∀ k, k < 6 → τ 15 k = s 37 k ∧ ∃ c, c ≤ 64 * n ∧ s 37 k = nI c) (hrow : ∀ k, k < 12 → dRow τ s cO cF k) (hk : ∀ M', INVL (n + 1) M' (A 0 0) (A 11 12) (A 11 13) (A 11 14) (A 11 15) → k47 M' 1 (nI (n + 1))) : bL_law_229 k4 k47 b L xs M a2 (A 0 0) (A 11 12) (A 11 13) (A 11 14) (A 11 15) (nI n) (nI X) v (nI at') k0 (s 1 0 - 1) (nI cO) kk := by
  unfold bL_law_229
  refine does_t R I Lw hX _ (fun r hr => ?_) (fun M' A' s' τ' r cO' cF' cI' h1 h2 hA R' I' E' L' hτ => ?_)
  · have r9 : r ≠ -9 := by
      rcases hr with z | z | z <;> rw [z] <;> decide
    rw [if_neg r9, oex (isRef_t hr), if_neg (by decide), oex hv, if_pos (lg_self _)]
    exact st_272 hn hX hkn I hcn hrow ⟨rfl, fun _ => rfl⟩ R I (Evo.rf I) Lw (fun _ _ _ _ => rfl) hk
  · rw [if_neg h2, oex (isRef_f h1), if_pos rfl]
    exact st_272 hn hX hkn I hcn hrow hA R' I' E' L' hτ hk
theorem st_189 {n X at' : Nat} (hn : n < 56) (hX : X < 2 ^ 31) {k0 : Int32} {v : Int64} (hk0 : k0 = 0 ∨ accS s cF at' = true) (R : Rep M A s τ) (I : Inv cO cF cI s) (Lw : LW τ s cO cF cI) (hv : fL_mix M (some (A 0 0)) (some (A 11 12)) (some (A 11 13)) = some v) (hcn : ∀ k, k < 6 → τ 15 k = s 37 k ∧ ∃ c, c ≤ 64 * n ∧ s 37 k = nI c) (hrow : ∀ k, k < 12 → dRow τ s cO cF k) (hk : ∀ M', INVL (n + 1) M' (A 0 0) (A 11 12) (A 11 13) (A 11 14) (A 11 15) → k47 M' 1 (nI (n + 1))) : bL_law_189 k4 k47 b L xs M a2 (A 0 0) (A 11 12) (A 11 13) (A 11 14) (A 11 15) (nI n) (nI X) v (nI at') k0 := by
  unfold bL_law_189
  rw [oex (rd4 R).1, oex (c_day R), rp0e R, Lw.1]
  by_cases c0 : k0 = 0
  · rw [if_pos c0]
    exact st_229 hn hX (Or.inl c0) R I Lw hv hcn hrow hk
  · by_cases c1 : s 1 0 - 1 < 0
    · rw [if_neg c0, if_pos c1]
      exact st_229 hn hX (Or.inr (Or.inl c1)) R I Lw hv hcn hrow hk
    · have ha : accS s cF at' = true := by
        rcases hk0 with q | q
        · exact absurd q c0
        · exact q
      obtain ⟨D, hD, eD⟩ := I.1.2.2.2.2.2.2
      have hD1 : 1 ≤ D := by
        rcases Nat.eq_zero_or_pos D with z | z
        · subst z
          rw [eD] at c1
          exact absurd (by decide) c1
        · exact z
      have ed : s 1 0 - 1 = nI (D - 1) := by
        rw [eD, show D = D - 1 + 1 by omega]
        exact nI_pred (D - 1)
      have hd : inR (s 1 0 - 1) 0 (s 1 0) = true := by
        rw [ed, eD]
        exact (inR_nI (by omega)).mpr ⟨D - 1, by omega, rfl⟩
      rw [if_neg c0, if_neg c1, oex (known_t R I Lw ha hd)]
      exact st_229 hn hX (Or.inr (Or.inr ⟨ha, rfl⟩)) R I Lw hv hcn hrow hk
theorem st_133 {n X : Nat} (hn : n < 56) (hX : X < 2 ^ 31) {t p f d e : Nat} (J : INVL n M t p f d e) (hk : ∀ M', INVL (n + 1) M' t p f d e → k47 M' 1 (nI (n + 1))) : bL_law_133 k4 k47 b L xs M a2 t p f d e (nI n) (nI X) := by
  obtain ⟨A, s, τ, cO, cF, cI, ⟨rfl, rfl, rfl, rfl, rfl⟩, R, I, Lw, hcn, hrow⟩ := J
  obtain ⟨v, hv⟩ := mix_t R I Lw
  have y1 : nI X - nI X / 24 * 24 = nI (X % 24) := pk_rem (d := 24) hX (by decide) (by decide)
  have y2 : nI (X % 24) / 8 = nI (X % 24 / 8) := pk_div (d := 8) (by omega) (by decide) (by decide)
  have y3 : nI (X % 24) - nI (X % 24) / 8 * 8 = nI (X % 24 % 8) := pk_rem (d := 8) (by omega) (by decide) (by decide)
  have h188 : ∀ k0 : Int32, (k0 = 0 ∨ accS s cF (X % 24) = true) → bL_law_189 k4 k47 b L xs M a2 (A 0 0) (A 11 12) (A 11 13) (A 11 14) (A 11 15) (nI n) (nI X) v (nI (X % 24)) k0 := fun k0 q => st_189 hn hX q R I Lw hv hcn hrow hk
  have hF6 := I.1.2.2.2.1
  unfold bL_law_133 bL_law_188
  rw [oex hv, rp1e R, Lw.2.1, y1, y3, y2]
  by_cases c : cF ≤ X % 24 / 8
  · rw [if_pos ((nI_leI (by omega) (by omega)).mpr c)]
    exact h188 0 (Or.inl rfl)
  · rw [if_neg (fun z => c ((nI_leI (by omega) (by omega)).mp z)), oex ((rdA R).2.1 (X % 24 / 8) (by omega)), Lw.2.2.2 _ (by omega)]
    by_cases h : hb (s 9 (X % 24 / 8)) (nI (X % 24 % 8)) = true
    · rw [if_pos (by rw [bt1]; exact h)]
      exact h188 1 (Or.inr (by rw [acc_K (by omega)]; exact h))
    · rw [if_neg (by rw [bt1]; exact h)]
      exact h188 0 (Or.inl rfl)
theorem st_c {n run : Nat} (hn : n < 56) (hr : run < 3) {t p f d e : Nat} (J : INVL n M t p f d e) (hk : ∀ M', INVL (n + 1) M' t p f d e → k47 M' 1 (nI (n + 1))) : lw_c k4 k47 b L xs M 1 (nI run) t p f d e (nI n) := by
  unfold lw_c
  rw [if_neg (fun z => by have := (nI_leI (a := 56) (by decide) (by omega)).mp z; omega), if_neg (by decide)]
  have ei : 56 * nI run + nI n = nI (56 * run + n) := by
    rw [← nI_add, ← pk_mul]
    rfl
  obtain ⟨X, hX, hd⟩ := drawn_t L xs (i := 56 * run + n) (by omega)
  have y1 : nI X - nI X / 2000000000 * 2000000000 = nI (X % 2000000000) := pk_rem (d := 2000000000) hX (by decide) (by decide)
  have y2 : nI (X % 2000000000) / 26 = nI (X % 2000000000 / 26) := pk_div (d := 26) (by omega) (by decide) (by decide)
  have y3 : 26 * nI (X % 2000000000 / 26) = nI (26 * (X % 2000000000 / 26)) := pk_mul 26 _
  have y4 : ∀ a : Nat, nI a + 2 = nI (a + 2) := fun a => nI_add a 2
  rw [ei, oex hd, y1, y2, y3, nI_1, y4]
  split
  · split
    · split
      · exact st_133 hn (by omega) J hk
      · exact st_133 hn (by omega) J hk
    · exact st_133 hn (by omega) J hk
  · exact st_133 hn (by omega) J hk
end STEP
