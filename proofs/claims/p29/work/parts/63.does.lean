/-! ===== what the law does in a step: decisions, tellings, all of it ===== -/
/-- behind a step that isn't refused -/
def NP (A : hAd) (τ s : hσ) (cO cF cI : Nat) (Q : hM → Int32 → Prop) : Prop := ∀ (M' : hM) (A' : hAd) (s' τ' : hσ) (r : Int32) (cO' cF' cI' : Nat), ¬ refd r → r ≠ -9 → (A' 0 0 = A 0 0 ∧ ∀ k, A' 11 k = A 11 k) → Rep M' A' s' τ' → Inv cO' cF' cI' s' → Evo cO cF cI cO' cF' cI' s s' → LW τ' s' cO' cF' cI' → (∀ f i, f ≠ 12 → f ≠ 13 → τ' f i = τ f i) → Q M' r
theorem NX_of {A : hAd} {τ s : hσ} {cO cF cI : Nat} {Q : hM → Int32 → Prop} (L : LW τ s cO cF cI) (hq : NP A τ s cO cF cI Q) : NX A τ cO cF cI s Q := fun M' s' r h1 h2 R' I' E' h9 => hq M' A s' τ r cO cF cI h1 h2 ⟨rfl, fun _ => rfl⟩ R' I' E' ⟨L.1, L.2.1, L.2.2.1, fun k hk => (L.2.2.2 k hk).trans (h9 k).symm⟩ (fun _ _ _ _ => rfl)
theorem refd_of {r : Int32} (h : r = -2000000001) : refd r := Or.inl h
section LD
variable {M : hM} {A : hAd} {s τ : hσ} {cO cF cI : Nat}
/-! charges -/
theorem dec_110 (R : Rep M A s τ) (I : Inv cO cF cI s) {f p n : Nat} (hf : f < cF) (hp : p < 8) (ha : accS s cF (8 * f + p) = true) (hn : n < 256) (hw : ∀ k, k < 8 → n.testBit k = true → k < cO ∧ whyS s cO cI (8 * f + p) k (s 1 0) = 0) {a8 : Int32} (h8 : ¬ refd a8) (Q : hM → Int32 → Prop) (hq : Q M a8) : ∀ fu k, k ≤ 8 → 8 - k < fu → lL_decides_110 Q (some (A 0 0)) (nI f) (nI p) (nI n) a8 fu M 1 (nI k) := by
  have hd : inR (s 1 0) 0 (s 1 0) = true := by
    obtain ⟨D, hD, e⟩ := I.1.2.2.2.2.2.2
    rw [e]
    exact (inR_nI (by omega)).mpr ⟨D, Nat.le_refl _, rfl⟩
  intro fu
  induction fu with
  | zero =>
    intro k h1 h2
    omega
  | succ fu ih =>
    intro k h1 h2
    rw [lL_decides_110]
    by_cases e0 : k < 8
    · have e1 : ¬ 8 ≤ k := by omega
      have nx := ih (k + 1) (by omega) (by omega)
      rw [if_neg (by rw [l8 (by omega)]; exact e1), if_neg (by decide), oex (isRef_f h8), if_pos rfl]
      by_cases c : (nI n >>> (nI k &&& 31)) &&& 1 = 0
      · rw [if_pos c]
        unfold bL_decides_155
        rw [nI_1]
        exact nx
      · have hb' : n.testBit k = true := by
          cases w : n.testBit k with
          | true => rfl
          | false =>
            exfalso
            refine c ?_
            refine b_ext fun i hi => ?_
            rw [b_and, b_1 i hi, b_0]
            by_cases e : i = 0
            · subst e
              rw [b_sshr k (by omega) _ (by omega), if_pos (by omega), Nat.add_zero, bt_nI _ (by omega), w]
              rfl
            · rw [decide_eq_false e, Bool.and_false]
        obtain ⟨kO, hw0⟩ := hw k e0 hb'
        have q := fL_why_t R I.2.1 I.1.2.1 I.1.2.2.2.1 hf hp ha kO hd
        rw [hw0] at q
        rw [if_neg c, oex (rd4 R).1, oex (c_day R), oex q, if_pos rfl]
        unfold bL_decides_155
        rw [nI_1]
        exact nx
    · have : k = 8 := by omega
      subst this
      rw [if_pos (by decide)]
      unfold bL_decides_168
      rw [if_neg (by decide)]
      exact hq
theorem dec_100r {a1 a2 z r : Int32} (h : refd r) (Q : hM → Int32 → Prop) (hx : Q M r) : bL_decides_100 Q M (some (A 0 0)) a1 a2 z r := by
  unfold bL_decides_100
  rw [lL_decides_110, if_neg (by decide), if_neg (by decide), oex (isRef_t h), if_neg (by decide)]
  unfold bL_decides_168
  rw [if_neg (by decide)]
  exact hx
theorem dec_75 (R : Rep M A s τ) (I : Inv cO cF cI s) {f p : Nat} (hf : f < cF) (hp : p < 8) (ha : accS s cF (8 * f + p) = true) (z b : Int32) (hb1 : b ≠ 0 → s 22 (8 * f + p) = 0 ∧ ∃ n, z = nI n ∧ n < 2 ^ cO ∧ RT (canB s cO cI (8 * f + p) (s 1 0)) (mateB s cO) n) (Q : hM → Int32 → Prop) (hx : ∀ r, refd r → Q M r) (hq : NX A τ cO cF cI s Q) : bL_decides_75 Q M (some (A 0 0)) (nI f) (nI p) z b := by
  unfold bL_decides_75
  refine l_charge R I (nI f) (nI p) z _ (fun r hr hno => ?_) (fun M' s' f' p' n r e1 e2 hf' hp' ha' ez hn hrt h1 h2 R' I' E' h9 hw hday => ?_)
  · by_cases c : b = 0
    · rw [if_pos c]
      exact dec_100r hr Q (hx r hr)
    · obtain ⟨z22, n, zn, zl, zr⟩ := hb1 c
      exact absurd zr (hno f p n rfl rfl hf hp ha zn zl z22)
  · have fin : bL_decides_100 Q M' (some (A 0 0)) (nI f) (nI p) z r := by
      have hF := I.1.2.2.2.1
      obtain rfl : f = f' := (nI_eq (by omega) (by omega)).mp e1
      obtain rfl : p = p' := (nI_eq (by omega) (by omega)).mp e2
      subst ez
      have hac : accS s' cF (8 * f + p) = true := E'.2.1 _ ha
      unfold bL_decides_100
      refine dec_110 R' I' hf hp hac hn (fun k hk q => ?_) h1 Q (hq M' s' r h1 h2 R' I' E' h9) 1000 0 (by omega) (by omega)
      have c := (hrt.2 k hk q).1
      unfold canB at c
      rw [Bool.and_eq_true, decide_eq_true_eq, decide_eq_true_eq] at c
      rw [hw, hday]
      exact c
    by_cases c : b = 0
    · rw [if_pos c]
      exact fin
    · rw [if_neg c, oex (isRef_f h1), if_pos rfl]
      exact fin
theorem dec_0 (R : Rep M A s τ) (I : Inv cO cF cI s) (a1 a2 a3 : Int32) (Q : hM → Int32 → Prop) (hx : ∀ r, refd r → Q M r) (hq : NX A τ cO cF cI s Q) : wL_decides M (some (A 0 0)) a1 a2 a3 0 Q := by
  unfold wL_decides
  rw [if_pos rfl, oex (rd4 R).1, oex (c_day R)]
  by_cases h : isinP s cF a1 a2
  · obtain ⟨f, p, rfl, rfl, hf, hp, ha⟩ := isin_acc h
    obtain ⟨r, hr, hb1, hw⟩ := wL_best_t R I hf hp ha (fun M66 x65 => ∃ x67, fL_isRefused x65 = some x67 ∧ if (x67 : Int32) = 0 then (if ((a3 - a3 / 3 * 3) : Int32) = 0 then bL_decides_46 Q M66 (some (A 0 0)) (nI f) (nI p) x65 ((a3 / 3) - (a3 / 3) / 260 * 260) else bL_decides_46 Q M66 (some (A 0 0)) (nI f) (nI p) x65 x65) else Q M66 x65)
    rw [hw, oex (isRef_f (nI_nref (show r < 2 ^ 31 by omega))), if_pos rfl]
    have d74 : ∀ z, bL_decides_74 Q M (some (A 0 0)) (nI f) (nI p) z := fun z => by
      unfold bL_decides_74
      exact dec_75 R I hf hp ha z 0 (fun q => absurd rfl q) Q hx hq
    have d46 : ∀ z, bL_decides_46 Q M (some (A 0 0)) (nI f) (nI p) (nI r) z := fun z => by
      unfold bL_decides_46
      by_cases c1 : z = nI r
      · rw [if_pos c1]
        by_cases c2 : nI r = 0
        · rw [if_pos c2]
          exact d74 z
        · have hof := wL_of_t R I hf hp ha (j := 0) (by decide) (fun M88 x87 => if (x87 : Int32) = 0 then bL_decides_75 Q M88 (some (A 0 0)) (nI f) (nI p) z 1 else bL_decides_74 Q M88 (some (A 0 0)) (nI f) (nI p) z)
          rw [if_neg c2]
          refine Eq.mpr hof ?_
          show if s 22 (8 * f + p) = 0 then _ else _
          by_cases c3 : s 22 (8 * f + p) = 0
          · rw [if_pos c3]
            refine dec_75 R I hf hp ha z 1 (fun _ => ⟨c3, r, c1, ?_, ?_⟩) Q hx hq
            · rcases hb1.1 with q | q
              · exact absurd (by rw [q]; rfl) c2
              · exact RT_lt I.1.2.1 hr q
            · rcases hb1.1 with q | q
              · exact absurd (by rw [q]; rfl) c2
              · exact q
          · rw [if_neg c3]
            exact d74 z
      · rw [if_neg c1]
        exact d74 z
    split
    · exact d46 _
    · exact d46 _
  · rw [wL_best_f R I h, oex (isRef_t (Or.inl rfl)), if_neg (by decide)]
    exact hx _ (Or.inl rfl)
/-! trials and pleas: what is asked behind them -/
theorem ask_ends {M' : hM} {s' : hσ} {f p g : Nat} (hf : f < cF) (hp : p < 8) (ha : accS s cF (8 * f + p) = true) (N : Ends M' A s τ cO cF cI (8 * f + p) g s') : (∀ Q : hM → Int32 → Prop, wL_of M' (some (A 0 0)) (nI f) (nI p) 0 Q = Q M' 0) ∧ (∀ Q : hM → Int32 → Prop, wL_of M' (some (A 0 0)) (nI f) (nI p) 1 Q = Q M' 0) ∧ (∀ Q : hM → Int32 → Prop, wL_of M' (some (A 0 0)) (nI f) (nI p) 2 Q = Q M' 0) ∧ (∀ Q : hM → Int32 → Prop, wL_of M' (some (A 0 0)) (nI f) (nI p) 4 Q = Q M' 0) ∧ (∀ Q : hM → Int32 → Prop, wL_of M' (some (A 0 0)) (nI f) (nI p) 7 Q = Q M' (sptS s' cO (8 * f + p))) ∧ fL_countq M' (some (A 0 0)) 0 = some (s 37 0 + nI (popN g)) ∧ fL_bits (nI g) = some (nI (popN g)) := by
  obtain ⟨R', I', E', -, hg, -, n22, n23, n26, n28, n37, -⟩ := N
  have ha' : accS s' cF (8 * f + p) = true := E'.2.1 _ ha
  have w := fun {j : Nat} (hj : j < 8) (Q : hM → Int32 → Prop) => wL_of_t R' I' hf hp ha' hj Q
  refine ⟨fun Q => ?_, fun Q => ?_, fun Q => ?_, fun Q => ?_, fun Q => w (j := 7) (by decide) Q, ?_, bits_t g hg⟩
  · have q := w (j := 0) (by decide) Q
    rw [show ofS s' cO (8 * f + p) 0 = 0 from n22] at q
    exact q
  · have q := w (j := 1) (by decide) Q
    rw [show ofS s' cO (8 * f + p) 1 = 0 from n23] at q
    exact q
  · have q := w (j := 2) (by decide) Q
    rw [show ofS s' cO (8 * f + p) 2 = 0 from if_pos n26] at q
    exact q
  · have q := w (j := 4) (by decide) Q
    rw [show ofS s' cO (8 * f + p) 4 = 0 from n28] at q
    exact q
  · rw [← n37]
    exact fL_count_t R' (j := 0) (by decide)
theorem dec_1 (R : Rep M A s τ) (I : Inv cO cF cI s) (a1 a2 a3 : Int32) (Q : hM → Int32 → Prop) (hx : ∀ r, refd r → Q M r) (hq : NX A τ cO cF cI s Q) : wL_decides M (some (A 0 0)) a1 a2 a3 1 Q := by
  have h314 : ∀ (M' : hM) (r : Int32), Q M' r → bL_decides_314 Q M' r := fun M' r q => by
    unfold bL_decides_314 bL_decides_319
    rw [if_neg (by decide)]
    exact q
  have c0 : fL_countq M (some (A 0 0)) 0 = some (s 37 0) := fL_count_t R (j := 0) (by decide)
  unfold wL_decides
  rw [if_neg (by decide), if_pos rfl]
  by_cases h : isinP s cF a1 a2
  · obtain ⟨f, p, rfl, rfl, hf, hp, ha⟩ := isin_acc h
    rw [wL_lacks_t R I hf hp ha]
    have w1 := fun Q' : hM → Int32 → Prop => wL_of_t R I hf hp ha (j := 1) (by decide) Q'
    have w1' : ∀ Q' : hM → Int32 → Prop, wL_of M (some (A 0 0)) (nI f) (nI p) 1 Q' = Q' M (s 23 (8 * f + p)) := w1
    rw [w1', oex c0]
    refine l_trial R I (nI f) (nI p) _ (fun r hr => ?_) (fun M' s' f' p' g e1 e2 hf' hp' _ hl N => ?_)
    · rw [oex (isRef_t hr), if_neg (by decide)]
      exact h314 M r (hx r hr)
    · have hF := I.1.2.2.2.1
      obtain rfl : f = f' := (nI_eq (by omega) (by omega)).mp e1
      obtain rfl : p = p' := (nI_eq (by omega) (by omega)).mp e2
      obtain ⟨k0, k1, k2, k4, k7, kc, kb⟩ := ask_ends hf hp ha N
      have hg := N.2.2.2.2.1
      rw [oex (isRef_f (nI_nref (show g < 2 ^ 31 by omega))), if_pos rfl, if_pos hl, if_pos N.2.2.2.2.2.1, k0, if_pos rfl, k1, if_pos rfl, k2, if_pos rfl, k4, if_pos rfl, oex kc, oex kb, if_pos rfl, k7, if_pos N.2.2.2.2.2.2.2.2.2.2.2]
      exact h314 M' _ (hq M' s' _ (nI_nref (by omega)) (nI_n9 (by omega)) N.1 N.2.1 N.2.2.1 N.2.2.2.1)
  · rw [wL_lacks_f R I h, wL_of_f R I h, oex c0]
    refine l_trial R I a1 a2 _ (fun r hr => ?_) (fun M' s' f p g e1 e2 hf hp ha _ _ => ?_)
    · rw [oex (isRef_t hr), if_neg (by decide)]
      exact h314 M r (hx r hr)
    · subst e1 e2
      exact absurd (isin_of hf hp ha) h
theorem dec_2 (R : Rep M A s τ) (I : Inv cO cF cI s) (a1 a2 a3 : Int32) (Q : hM → Int32 → Prop) (hx : ∀ r, refd r → Q M r) (hq : NX A τ cO cF cI s Q) : wL_decides M (some (A 0 0)) a1 a2 a3 2 Q := by
  have h490 : ∀ (M' : hM) (r : Int32), Q M' r → bL_decides_490 Q M' r := fun M' r q => by
    unfold bL_decides_490 bL_decides_495
    rw [if_neg (by decide)]
    exact q
  have c0 : fL_countq M (some (A 0 0)) 0 = some (s 37 0) := fL_count_t R (j := 0) (by decide)
  unfold wL_decides
  rw [if_neg (by decide), if_neg (by decide)]
  by_cases h : isinP s cF a1 a2
  · obtain ⟨f, p, rfl, rfl, hf, hp, ha⟩ := isin_acc h
    have w1' : ∀ Q' : hM → Int32 → Prop, wL_of M (some (A 0 0)) (nI f) (nI p) 1 Q' = Q' M (s 23 (8 * f + p)) := fun Q' => wL_of_t R I hf hp ha (j := 1) (by decide) Q'
    rw [w1']
    obtain ⟨c, hc, ec⟩ := (I.one ha).2.2.2.2.2.1
    have hc256 : c < 256 := Nat.lt_of_lt_of_le hc (pw256 cO I.1.2.1)
    have d369 : ∀ z, bL_decides_369 Q M (some (A 0 0)) (nI f) (nI p) (s 23 (8 * f + p)) z := fun z => by
      unfold bL_decides_369
      rw [oex c0, oex (isRef_f (by rw [ec]; exact nI_nref (show c < 2 ^ 31 by omega))), if_pos rfl]
      unfold bL_decides_395
      refine l_plea R I (nI f) (nI p) z _ (fun r hr => ?_) (fun M' s' f' p' g r e1 e2 hf' hp' _ ez h1 h2 N => ?_)
      · rw [oex (isRef_t hr), if_neg (by decide)]
        exact h490 M r (hx r hr)
      · have hF := I.1.2.2.2.1
        obtain rfl : f = f' := (nI_eq (by omega) (by omega)).mp e1
        obtain rfl : p = p' := (nI_eq (by omega) (by omega)).mp e2
        subst ez
        obtain ⟨k0, k1, k2, k4, k7, kc, kb⟩ := ask_ends hf hp ha N
        rw [oex (isRef_f h1), if_pos rfl, k0, if_pos rfl, k1, if_pos rfl, k2, if_pos rfl, k4, if_pos rfl, if_pos N.2.2.2.2.2.1, oex kc, oex kb, if_pos rfl, k7, if_pos N.2.2.2.2.2.2.2.2.2.2.2]
        exact h490 M' r (hq M' s' r h1 h2 N.1 N.2.1 N.2.2.1 N.2.2.2.1)
    split
    · exact d369 _
    · exact d369 _
  · rw [wL_of_f R I h]
    have d369 : ∀ z, bL_decides_369 Q M (some (A 0 0)) a1 a2 (-2000000001) z := fun z => by
      unfold bL_decides_369
      rw [oex c0, oex (isRef_t (Or.inl rfl)), if_neg (by decide)]
      unfold bL_decides_395
      refine l_plea R I a1 a2 0 _ (fun r hr => ?_) (fun M' s' f p g r e1 e2 hf hp ha _ _ _ _ => ?_)
      · rw [oex (isRef_t hr), if_neg (by decide)]
        exact h490 M r (hx r hr)
      · subst e1 e2
        exact absurd (isin_of hf hp ha) h
    split
    · exact d369 _
    · exact d369 _
/-! tellings -/
theorem upd_id (g : Nat → Int32) (k : Nat) : upd g k (g k) = g := funext fun j => by
  by_cases e : j = k
  · subst e
    rw [pk_us]
  · rw [pk_un e]
theorem sI_same (R : Rep M A s τ) {k : Nat} (hk : k < 3) : sI M 0 (some (A 11 12)) (nI k) (τ 12 k + 0) = some M := by
  have h := at11 R (f := 12) rfl
  rw [sI_at h hk (by decide), Int32.add_zero, upd_id]
  refine congrArg some (funext fun q => ?_)
  unfold hst
  by_cases e : q = A 11 12
  · rw [if_pos e, e, h]
  · rw [if_neg e]
theorem tell_0 (R : Rep M A s τ) (I : Inv cO cF cI s) (L : LW τ s cO cF cI) (s1 s2 s3 : Int32) (Q : hM → Int32 → Prop) (hx : ∀ r, refd r → Q M r) (hq : NP A τ s cO cF cI Q) : bL_tells_61 Q M (some (A 11 12)) (some (A 0 0)) s1 s2 s3 := by
  unfold bL_tells_61
  refine l_offence R I s1 s2 s3 _ (fun r hr => ?_) (fun M' A' s' hA h8 R' I' E' h9 => ?_)
  · rw [rp0e R, oex (isRef_t hr), if_neg (by decide)]
    unfold bL_tells_83
    have q : sI M 0 (some (A 11 12)) 0 (τ 12 0 + 0) = some M := sI_same R (k := 0) (by decide)
    rw [oex q]
    exact hx r hr
  · rw [← hA.2 12, rp0e R', oex (isRef_f (nI_nref (show cO < 2 ^ 31 by omega))), if_pos rfl]
    unfold bL_tells_83
    obtain ⟨M1, e1, R1⟩ := wrA R' (f := 12) (n := 3) (k := 0) rfl (by decide) (by decide) (τ 12 0 + 1)
    have e1' : sI M' 0 (some (A' 11 12)) 0 (τ 12 0 + 1) = some M1 := e1
    rw [oex e1']
    refine hq M1 A' s' _ _ (cO + 1) cF cI (nI_nref (by omega)) (nI_n9 (by omega)) hA R1 I' E' ⟨?_, ?_, ?_, fun k hk => ?_⟩ (fun f i h1 h2 => sU_ne h1)
    · rw [sU_eq, L.1, nI_1]
    · rw [sU_nj (by decide)]
      exact L.2.1
    · rw [sU_nj (by decide)]
      exact L.2.2.1
    · rw [sU_ne (by decide), L.2.2.2 k hk, h9]
theorem tell_2 (R : Rep M A s τ) (I : Inv cO cF cI s) (L : LW τ s cO cF cI) (s1 s2 s3 s4 s5 b : Int32) (hb01 : b = 0 ∨ b = 1) (Q : hM → Int32 → Prop) (hx : ∀ r, refd r → Q M r) (hq : NP A τ s cO cF cI Q) : bL_tells_235 Q M (some (A 11 12)) (some (A 0 0)) s1 s2 s3 s4 s5 b := by
  unfold bL_tells_235
  refine l_item R I s1 s2 s3 s4 s5 b hb01 _ (fun r hr => ?_) (fun M' A' s' hA h8 R' I' E' h9 => ?_)
  · rw [rp2e R, oex (isRef_t hr), if_neg (by decide)]
    unfold bL_tells_257
    have q : sI M 0 (some (A 11 12)) 2 (τ 12 2 + 0) = some M := sI_same R (k := 2) (by decide)
    rw [oex q]
    exact hx r hr
  · rw [← hA.2 12, rp2e R', oex (isRef_f (nI_nref (show cI < 2 ^ 31 by omega))), if_pos rfl]
    unfold bL_tells_257
    obtain ⟨M1, e1, R1⟩ := wrA R' (f := 12) (n := 3) (k := 2) rfl (by decide) (by decide) (τ 12 2 + 1)
    have e1' : sI M' 0 (some (A' 11 12)) 2 (τ 12 2 + 1) = some M1 := e1
    rw [oex e1']
    refine hq M1 A' s' _ _ cO cF (cI + 1) (nI_nref (by omega)) (nI_n9 (by omega)) hA R1 I' E' ⟨?_, ?_, ?_, fun k hk => ?_⟩ (fun f i h1 h2 => sU_ne h1)
    · rw [sU_nj (by decide)]
      exact L.1
    · rw [sU_nj (by decide)]
      exact L.2.1
    · rw [sU_eq, L.2.2.1, nI_1]
    · rw [sU_ne (by decide), L.2.2.2 k hk, h9]
theorem tells_t (R : Rep M A s τ) (I : Inv cO cF cI s) (L : LW τ s cO cF cI) {Y : Nat} (hY : Y < 2 ^ 31) (what : Int32) (Q : hM → Int32 → Prop) (hx : ∀ r, refd r → Q M r) (hq : NP A τ s cO cF cI Q) : wL_tells M (some (A 0 0)) (some (A 11 12)) (some (A 11 13)) (nI Y) what Q := by
  have hF6 := I.1.2.2.2.1
  obtain ⟨D, hD, hday⟩ := I.1.2.2.2.2.2.2
  unfold wL_tells
  by_cases w0 : what = 0
  · rw [if_pos w0]
    have t30 : ∀ z, bL_tells_30 Q M (some (A 11 12)) (nI Y) (some (A 0 0)) z := fun z => by
      unfold bL_tells_30
      split
      · exact tell_0 R I L _ _ _ Q hx hq
      · exact tell_0 R I L _ _ _ Q hx hq
    split
    · exact t30 _
    · exact t30 _
  · rw [if_neg w0]
    by_cases w1 : what = 1
    · have m1 : rmI (nI Y) (s 1 0 + 2) = some (nI (Y % (D + 2))) := by
        rw [hday, show nI D + 2 = nI (D + 2) from nI_add D 2]
        exact rm_nI hY (by omega) (by omega)
      rw [if_pos w1, oex (rd4 R).1, oex (c_day R), oex m1]
      refine l_file R I _ _ _ _ (fun r hr => ?_) (fun M' A' s' hA h6 R' I' E' h9 h9c => ?_)
      · rw [oex (isRef_t hr), if_neg (by decide)]
        exact hx r hr
      · rw [oex (isRef_f (nI_nref (show cF < 2 ^ 31 by omega))), if_pos rfl, ← hA.2 12, ← hA.2 13]
        obtain ⟨M1, e1, R1⟩ := wrA R' (f := 13) (n := 6) (k := cF) rfl h6 (by decide) (nI Y / 100 - nI Y / 100 / 17 * 17)
        rw [oex e1, rp1e R1]
        obtain ⟨M2, e2, R2⟩ := wrA R1 (f := 12) (n := 3) (k := 1) rfl (by decide) (by decide) (sU τ 13 cF (nI Y / 100 - nI Y / 100 / 17 * 17) 12 1 + 1)
        have e2' : sI M1 0 (some (A' 11 12)) 1 (sU τ 13 cF (nI Y / 100 - nI Y / 100 / 17 * 17) 12 1 + 1) = some M2 := e2
        rw [oex e2']
        refine hq M2 A' s' _ _ cO (cF + 1) cI (nI_nref (by omega)) (nI_n9 (by omega)) hA R2 I' E' ⟨?_, ?_, ?_, fun k hk => ?_⟩ (fun f i h1 h2 => by rw [sU_ne h1, sU_ne h2])
        · rw [sU_nj (by decide), sU_ne (by decide)]
          exact L.1
        · rw [sU_eq, sU_ne (by decide), L.2.1, nI_1]
        · rw [sU_nj (by decide), sU_ne (by decide)]
          exact L.2.2.1
        · rw [sU_ne (by decide)]
          by_cases e : k = cF
          · rw [e, sU_eq, h9c]
          · rw [sU_nj e, L.2.2.2 k (by omega), h9 k e]
    · have m1 : rmI (nI Y) (nI cF + 1) = some (nI (Y % (cF + 1))) := by
        rw [nI_1]
        exact rm_nI hY (by omega) (by omega)
      have m2 : nI Y - nI Y / (nI cF + 1) * (nI cF + 1) = nI (Y % (cF + 1)) := by
        rw [nI_1]
        exact pk_rem hY (by omega) (by omega)
      have m3 : nI (Y % (cF + 1)) - nI (Y % (cF + 1)) / 6 * 6 = nI (Y % (cF + 1) % 6) := pk_rem (d := 6) (by have := Nat.mod_lt Y (show 0 < cF + 1 by omega); omega) (by decide) (by decide)
      rw [if_neg w1, rp1e R, L.2.1, oex m1, m2, m3]
      have t188 : ∀ a z, bL_tells_188 Q M (some (A 0 0)) (some (A 11 12)) (nI Y) a z := fun a z => by
        unfold bL_tells_188
        split
        · exact tell_2 R I L _ _ _ _ _ 1 (Or.inr rfl) Q hx hq
        · exact tell_2 R I L _ _ _ _ _ 0 (Or.inl rfl) Q hx hq
      split
      · exact t188 _ _
      · rw [oex ((rdA R).2.1 (Y % (cF + 1) % 6) (Nat.mod_lt _ (by decide)))]
        exact t188 _ _
/-! all -/
theorem does_t (R : Rep M A s τ) (I : Inv cO cF cI s) (L : LW τ s cO cF cI) {X : Nat} (hX : X < 2 ^ 31) (Q : hM → Int32 → Prop) (hx : ∀ r, refd r → Q M r) (hq : NP A τ s cO cF cI Q) : wL_does M (some (A 0 0)) (some (A 11 12)) (some (A 11 13)) (nI X) Q := by
  have hF6 := I.1.2.2.2.1
  have hI4 := I.1.2.2.2.2.2.1
  have y1 : nI X / 26 = nI (X / 26) := pk_div (d := 26) hX (by decide) (by decide)
  have m1 : rmI (nI (X / 26)) (nI cF + 1) = some (nI (X / 26 % (cF + 1))) := by
    rw [nI_1]
    exact rm_nI (by omega) (by omega) (by omega)
  have m2 : ∀ z : Int32, z = nI cI → rmI (nI (X / 26)) (z + 1) = some (nI (X / 26 % (cI + 1))) := fun z e => by
    rw [e, nI_1]
    exact rm_nI (by omega) (by omega) (by omega)
  unfold wL_does
  rw [y1, rp1e R, L.2.1, oex m1]
  generalize nI X - nI (X / 26) * 26 = w
  by_cases c0 : w = 0
  · rw [if_pos c0]
    exact tells_t R I L (by omega) _ Q hx hq
  rw [if_neg c0]
  by_cases c1 : w = 1
  · rw [if_pos c1]
    exact tells_t R I L (by omega) _ Q hx hq
  rw [if_neg c1]
  by_cases c2 : w = 2
  · rw [if_pos c2]
    exact tells_t R I L (by omega) _ Q hx hq
  rw [if_neg c2]
  by_cases c3 : w = 3
  · rw [if_pos c3]
    exact tells_t R I L (by omega) _ Q hx hq
  rw [if_neg c3]
  by_cases c4 : w = 4
  · rw [if_pos c4]
    exact tells_t R I L (by omega) _ Q hx hq
  rw [if_neg c4]
  by_cases c5 : w = 5
  · rw [if_pos c5]
    exact l_exclude R I _ _ Q hx (NX_of L hq)
  rw [if_neg c5]
  by_cases c6 : w = 6
  · rw [if_pos c6]
    rw [rp2e R, oex (m2 _ L.2.2.1)]
    exact l_admit R I _ Q hx (NX_of L hq)
  rw [if_neg c6]
  by_cases c7 : w = 7
  · rw [if_pos c7]
    unfold bL_does_206
    rw [rp2e R, oex (m2 _ L.2.2.1)]
    exact l_show R I _ _ Q hx (NX_of L hq)
  rw [if_neg c7]
  by_cases c8 : w = 8
  · rw [if_pos c8]
    unfold bL_does_206
    rw [rp2e R, oex (m2 _ L.2.2.1)]
    exact l_show R I _ _ Q hx (NX_of L hq)
  rw [if_neg c8]
  by_cases c9 : w = 9
  · rw [if_pos c9]
    unfold bL_does_206
    rw [rp2e R, oex (m2 _ L.2.2.1)]
    exact l_show R I _ _ Q hx (NX_of L hq)
  rw [if_neg c9]
  by_cases c10 : w = 10
  · rw [if_pos c10]
    rw [rp2e R, oex (m2 _ L.2.2.1)]
    exact l_withhold R I _ Q hx (NX_of L hq)
  rw [if_neg c10]
  by_cases c11 : w = 11
  · rw [if_pos c11]
    exact l_arrest R I _ _ Q hx (NX_of L hq)
  rw [if_neg c11]
  by_cases c12 : w = 12
  · rw [if_pos c12]
    exact l_extend R I _ _ _ Q hx (NX_of L hq)
  rw [if_neg c12]
  by_cases c13 : w = 13
  · rw [if_pos c13]
    split
    · exact l_release R I _ _ Q hx (NX_of L hq)
    · exact l_arrest R I _ _ Q hx (NX_of L hq)
  rw [if_neg c13]
  by_cases c14 : w = 14
  · rw [if_pos c14]
    exact l_drop R I _ _ Q hx (NX_of L hq)
  rw [if_neg c14]
  by_cases c15 : w = 15
  · rw [if_pos c15]
    exact l_review R I _ _ Q hx (NX_of L hq)
  rw [if_neg c15]
  by_cases c16 : w = 16
  · rw [if_pos c16]
    unfold bL_does_304
    exact dec_0 R I _ _ _ Q hx (NX_of L hq)
  rw [if_neg c16]
  by_cases c17 : w = 17
  · rw [if_pos c17]
    unfold bL_does_304
    exact dec_0 R I _ _ _ Q hx (NX_of L hq)
  rw [if_neg c17]
  by_cases c18 : w = 18
  · rw [if_pos c18]
    unfold bL_does_304
    exact dec_0 R I _ _ _ Q hx (NX_of L hq)
  rw [if_neg c18]
  by_cases c19 : w = 19
  · rw [if_pos c19]
    unfold bL_does_316
    exact dec_1 R I _ _ _ Q hx (NX_of L hq)
  rw [if_neg c19]
  by_cases c20 : w = 20
  · rw [if_pos c20]
    unfold bL_does_316
    exact dec_1 R I _ _ _ Q hx (NX_of L hq)
  rw [if_neg c20]
  by_cases c21 : w = 21
  · rw [if_pos c21]
    exact dec_2 R I _ _ _ Q hx (NX_of L hq)
  rw [if_neg c21]
  by_cases c22 : w = 22
  · rw [if_pos c22]
    exact l_pass R I _ Q hx (NX_of L hq)
  rw [if_neg c22]
  exact l_pass R I _ Q hx (NX_of L hq)
end LD
