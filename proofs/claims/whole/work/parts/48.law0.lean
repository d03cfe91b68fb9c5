/-! ===== what the law's cases share ===== -/
def INV (n : Nat) (M : hM) (x m out : Nat) : Prop := ∃ (A : hAd) (σ : hσ) (w : Nat → Int64) (cO cF cI cS : Nat), (A 0 0 = x ∧ A 10 0 = m ∧ A 12 0 = out) ∧ Rep M A σ σ w ∧ Inv cO cF cI cS σ ∧ cS ≤ n
theorem tch_ids {i j f k : Nat} (h : tch i j f k) : f ≠ 0 ∧ f ≠ 24 ∧ f ≠ 29 ∧ (f < 33 ∨ 36 < f) := by
  unfold tch at h
  split at h <;> first | omega | exact h.elim
theorem tcm_ids {i j f k : Nat} (h : tcm i j f k) : f ≤ 37 := by
  unfold tcm at h
  split at h
  · omega
  · obtain ⟨rfl, n⟩ := h
    unfold mA at n
    split at n <;> first | omega | exact absurd rfl n
  · exact h.elim
theorem Rep.cong2 {M : hM} {A : hAd} {s τ σ' : hσ} {w : Nat → Int64} (R : Rep M A s τ w) (h1 : ∀ f k, f ≠ 0 → f ≠ 24 → f ≠ 29 → (f < 33 ∨ 36 < f) → σ' f k = s f k) (h2 : ∀ f k, f ≤ 37 → σ' f k = τ f k) : Rep M A σ' σ' w := Rep.cong R (fun _ _ f k q => by
  obtain ⟨q1, q2, q3, q4⟩ := tch_ids q
  exact h1 f k q1 q2 q3 q4) (fun _ _ f k q => h2 f k (tcm_ids q))
theorem Rep.thr {M : hM} {A : hAd} {σ : hσ} {w : Nat → Int64} {c : Int32} (R : Rep M A σ (sU σ 0 0 c) w) : Rep M A (sU σ 0 0 c) (sU σ 0 0 c) w := R.cong2 (fun f k h _ _ _ => sU_ne h) (fun _ _ _ => rfl)
theorem lg_same (x : Int64) : lg_cmp x x = 0 := by
  unfold lg_cmp
  simp
theorem sx : (("java/lang/IllegalArgumentException" = "java/lang/IndexOutOfBoundsException") = False) ∧ (("java/lang/IllegalStateException" = "java/lang/IndexOutOfBoundsException") = False) ∧ (("java/lang/IllegalStateException" = "java/lang/IllegalArgumentException") = False) ∧ (("java/lang/IndexOutOfBoundsException" = "java/lang/IllegalArgumentException") = False) ∧ (("java/lang/IllegalArgumentException" = "java/lang/IllegalStateException") = False) ∧ (("java/lang/IndexOutOfBoundsException" = "java/lang/IllegalStateException") = False) := ⟨eq_false (by decide), eq_false (by decide), eq_false (by decide), eq_false (by decide), eq_false (by decide), eq_false (by decide)⟩
section LAW
variable {M : hM} {A : hAd} {s τ : hσ} {w : Nat → Int64} {cO cF cI : Nat}
theorem outI (R : Rep M A s τ w) (ho : s 120 0 = 1) (r : Int32) (Q : hM → Int32 → Prop) (h : ∀ M', Rep M' A s τ (wU w r.toInt64) → Q M' 0) : ∃ M4, sJ M 2 (some (A 12 0)) 0 (Int32.toInt64 r) = some M4 ∧ Q M4 0 := by
  obtain ⟨M', e, R'⟩ := wrJ R ho r.toInt64
  exact ⟨M', e, h M' R'⟩
theorem outB (R : Rep M A s τ w) (ho : s 120 0 = 1) (b : Bool) (Q : hM → Int32 → Prop) (h : ∀ M', Rep M' A s τ (wU w (bI b).toInt64) → Q M' 0) : if bI b = 0 then (∃ M5, sJ M 2 (some (A 12 0)) 0 0 = some M5 ∧ Q M5 0) else (∃ M6, sJ M 2 (some (A 12 0)) 0 1 = some M6 ∧ Q M6 0) := by
  cases b with
  | false =>
    rw [if_pos bI_f]
    obtain ⟨M', e, R'⟩ := wrJ R ho 0
    exact ⟨M', e, h M' R'⟩
  | true =>
    rw [if_neg (by decide)]
    obtain ⟨M', e, R'⟩ := wrJ R ho 1
    exact ⟨M', e, h M' R'⟩
theorem endI (R : Rep M A s τ w) (ho : s 120 0 = 1) {K : Prop} {code r : Int32} (hc : τ 0 0 = code) (hr : code = 0 → w 0 = r.toInt64) (hK : K) : ∃ y, hC M 5 (some (A 10 0)) = some y ∧ ∃ x, fX5_thrown M (A 10 0) = some x ∧ (if (x : Int32) = code then (if (code : Int32) = 0 then (∃ z, aJ M 2 (some (A 12 0)) 0 = some z ∧ (if ((lg_cmp z (Int32.toInt64 r)) : Int32) = 0 then K else False)) else K) else False) := by
  refine ⟨_, (rd5 R).1, _, m_thrown R, ?_⟩
  rw [if_pos hc]
  by_cases e : code = 0
  · rw [if_pos e]
    refine ⟨_, rdJ R ho, ?_⟩
    rw [hr e, lg_same, if_pos rfl]
    exact hK
  · rw [if_neg e]
    exact hK
theorem endB (R : Rep M A s τ w) (ho : s 120 0 = 1) {K : Prop} {code : Int32} {b : Bool} (hc : τ 0 0 = code) (hr : code = 0 → w 0 = (bI b).toInt64) (hK : K) : ∃ y, hC M 5 (some (A 10 0)) = some y ∧ ∃ x, fX5_thrown M (A 10 0) = some x ∧ (if (x : Int32) = code then (if (code : Int32) = 0 then (∃ z, aJ M 2 (some (A 12 0)) 0 = some z ∧ (if (bI b : Int32) = 0 then (if ((lg_cmp z 0) : Int32) = 0 then K else False) else (if ((lg_cmp z 1) : Int32) = 0 then K else False))) else K) else False) := by
  refine ⟨_, (rd5 R).1, _, m_thrown R, ?_⟩
  rw [if_pos hc]
  by_cases e : code = 0
  · rw [if_pos e]
    refine ⟨_, rdJ R ho, ?_⟩
    rw [hr e]
    cases b with
    | false =>
      rw [if_pos bI_f, show (bI false).toInt64 = 0 from rfl, lg_same, if_pos rfl]
      exact hK
    | true =>
      rw [if_neg (by decide), show (bI true).toInt64 = 1 from rfl, lg_same, if_pos rfl]
      exact hK
  · rw [if_neg e]
    exact hK
theorem endV (R : Rep M A s τ w) {K : Prop} {code : Int32} (hc : τ 0 0 = code) (hK : K) : ∃ y, hC M 5 (some (A 10 0)) = some y ∧ ∃ x, fX5_thrown M (A 10 0) = some x ∧ (if (x : Int32) = code then K else False) := by
  refine ⟨_, (rd5 R).1, _, m_thrown R, ?_⟩
  rw [if_pos hc]
  exact hK
theorem endI0 (R : Rep M A s τ w) (ho : s 120 0 = 1) {K : Prop} {r : Int32} (hc : τ 0 0 = 0) (hr : w 0 = r.toInt64) (hK : K) : ∃ x, fX5_thrown M (A 10 0) = some x ∧ (if (x : Int32) = 0 then (∃ z, aJ M 2 (some (A 12 0)) 0 = some z ∧ (if ((lg_cmp z (Int32.toInt64 r)) : Int32) = 0 then K else False)) else False) := by
  refine ⟨_, m_thrown R, ?_⟩
  rw [if_pos hc]
  refine ⟨_, rdJ R ho, ?_⟩
  rw [hr, lg_same, if_pos rfl]
  exact hK
theorem endB0 (R : Rep M A s τ w) (ho : s 120 0 = 1) {K : Prop} {b : Bool} (hc : τ 0 0 = 0) (hr : w 0 = (bI b).toInt64) (hK : K) : ∃ x, fX5_thrown M (A 10 0) = some x ∧ (if (x : Int32) = 0 then (∃ z, aJ M 2 (some (A 12 0)) 0 = some z ∧ (if (bI b : Int32) = 0 then (if ((lg_cmp z 0) : Int32) = 0 then K else False) else (if ((lg_cmp z 1) : Int32) = 0 then K else False))) else False) := by
  refine ⟨_, m_thrown R, ?_⟩
  rw [if_pos hc]
  refine ⟨_, rdJ R ho, ?_⟩
  rw [hr]
  cases b with
  | false =>
    rw [if_pos bI_f, show (bI false).toInt64 = 0 from rfl, lg_same, if_pos rfl]
    exact hK
  | true =>
    rw [if_neg (by decide), show (bI true).toInt64 = 1 from rfl, lg_same, if_pos rfl]
    exact hK
theorem endZ0 (R : Rep M A s τ w) (ho : s 120 0 = 1) {K : Prop} {v : Int64} (hc : τ 0 0 = 0) (hr : w 0 = v) (hK : K) : ∃ x, fX5_thrown M (A 10 0) = some x ∧ (if (x : Int32) = 0 then (∃ z, aJ M 2 (some (A 12 0)) 0 = some z ∧ (if ((lg_cmp z v) : Int32) = 0 then K else False)) else False) := by
  refine ⟨_, m_thrown R, ?_⟩
  rw [if_pos hc]
  refine ⟨_, rdJ R ho, ?_⟩
  rw [hr, lg_same, if_pos rfl]
  exact hK
theorem endF (R : Rep M A s τ w) {K : Prop} {code : Int32} (hc : τ 0 0 = code) (hK : K) : ∃ x, fX5_thrown M (A 10 0) = some x ∧ (if (x : Int32) = code then K else False) := by
  refine ⟨_, m_thrown R, ?_⟩
  rw [if_pos hc]
  exact hK
theorem i20 : ((2 : Int32) = 0) = False := eq_false (by decide)
theorem i30 : ((3 : Int32) = 0) = False := eq_false (by decide)
theorem acc_fp {f p : Nat} (hp : p < 8) : accS s cF (8 * f + p) = (decide (f < cF) && hb (s 9 f) (nI p)) := by
  unfold accS
  rw [show (8 * f + p) / 8 = f by omega, show (8 * f + p) % 8 = p by omega]
theorem isin_acc {a1 a2 : Int32} (h : isinP s cF a1 a2) : ∃ f p, a1 = nI f ∧ a2 = nI p ∧ f < cF ∧ p < 8 ∧ accS s cF (8 * f + p) = true := by
  obtain ⟨f, p, e1, e2, hf, hp, hbt⟩ := h
  refine ⟨f, p, e1, e2, hf, hp, ?_⟩
  rw [acc_fp hp, hbt, decide_eq_true hf]
  rfl
theorem c_acc_t (R : Rep M A s τ w) (E : ExI cO cF cI s) (hF : cF ≤ 6) {f p : Nat} (hf : f < cF) (hp : p < 8) (h : accS s cF (8 * f + p) = true) (Q : hM → Option Nat → Prop) (X : String → hM → Prop) : wX4_accusedAt M (A 0 0) (nI f) (nI p) Q X = Q M (some (A 7 (8 * f + p))) := by
  unfold wX4_accusedAt
  simp only [bX4_accusedAt_19]
  simp only [↓rd4e R, ↓(fun (g : Option Nat → Prop) => oex (c_fileAt_t R E (by omega) hf) g), snf, ↓reduceIte, ↓rd1e R (E.f hf), ↓(fun (g : Option Nat → Prop) => oex (c_rowOf_t R E hf hp h) g)]
theorem c_acc_f (R : Rep M A s τ w) (E : ExI cO cF cI s) (hF : cF ≤ 6) {a1 a2 : Int32} (h : ¬ isinP s cF a1 a2) (Q : hM → Option Nat → Prop) (X : String → hM → Prop) : wX4_accusedAt M (A 0 0) a1 a2 Q X = X "java/lang/IndexOutOfBoundsException" M := by
  unfold wX4_accusedAt
  simp only [bX4_accusedAt_19]
  by_cases h1 : ∃ f, f < cF ∧ a1 = nI f
  · obtain ⟨f, hf, rfl⟩ := h1
    have h2 : ¬ ∃ p, p < 8 ∧ a2 = nI p ∧ accS s cF (8 * f + p) = true := by
      rintro ⟨p, hp, rfl, q⟩
      rw [acc_fp hp, Bool.and_eq_true] at q
      exact h ⟨f, p, rfl, rfl, hf, hp, q.2⟩
    simp only [↓rd4e R, ↓(fun (g : Option Nat → Prop) => oex (c_fileAt_t R E (by omega) hf) g), snf, ↓reduceIte, ↓rd1e R (E.f hf), ↓(fun (g : Option Nat → Prop) => oex (c_rowOf_f R E hf h2) g)]
  · simp only [↓rd4e R, ↓(fun (g : Option Nat → Prop) => oex (c_fileAt_f R E h1) g), ↓reduceIte]
theorem c_checkDay (R : Rep M A s τ w) (d : Int32) (Q : hM → Prop) (X : String → hM → Prop) : wX4_checkDay M (A 0 0) d Q X = if inR d 0 (s 1 0) = true then Q M else X "java/lang/IllegalArgumentException" M := by
  unfold wX4_checkDay
  simp only [↓rd4e R, ↓(fun (g : Int32 → Prop) => oex (in4 d 0 (s 1 0)) g), bI_0]
  cases inR d 0 (s 1 0) <;> rfl
theorem told_iff {c : Nat} (hc : c ≤ 8) (a : Int32) : a &&& ((bitN c - 1) ^^^ (-1)) = 0 ↔ 0 ≤ a ∧ a < bitN c := by
  have hp : 1 ≤ 2 ^ c := Nat.one_le_two_pow
  have hp2 := pw256 c hc
  have e1 : bitN c - 1 = nI (2 ^ c - 1) := by
    rw [bitN_nI (by omega), show (1 : Int32) = nI 1 from rfl, pk_sub hp]
  rw [e1, bitN_nI (by omega), andnot]
  constructor
  · intro h
    rw [pk_and a c (by rw [pk_tn (by omega)])] at h
    have hm : a.toBitVec.toNat % 2 ^ c < 2 ^ c := Nat.mod_lt _ (by omega)
    rw [← h]
    exact ⟨nI_pos' (by omega), (nI_ltI (by omega) (by omega)).mpr hm⟩
  · rintro ⟨h1, h2⟩
    obtain ⟨j, hj, rfl⟩ := nI_of (Int32.not_lt.mpr h1)
    have h3 := (nI_ltI hj (by omega)).mp h2
    rw [pk_andN (by omega) c (by rw [pk_tn (by omega)]), Nat.mod_eq_of_lt h3]
theorem c_checkTold (R : Rep M A s τ w) (hO : s 2 0 = nI cO) (hO8 : cO ≤ 8) (a : Int32) (Q : hM → Prop) (X : String → hM → Prop) : wX4_checkToldOffences M (A 0 0) a Q X = if (decide (0 ≤ a) && decide (a < bitN cO)) = true then Q M else X "java/lang/IllegalArgumentException" M := by
  unfold wX4_checkToldOffences
  simp only [↓rd4e R, hO]
  have e := told_iff hO8 a
  by_cases h : a &&& ((bitN cO - 1) ^^^ (-1)) = 0
  · obtain ⟨h1, h2⟩ := e.mp h
    exact Eq.trans (b := Q M) (if_pos h) (if_pos (by rw [decide_eq_true h1, decide_eq_true h2]; rfl)).symm
  · exact Eq.trans (b := X "java/lang/IllegalArgumentException" M) (if_neg h) (if_neg (by
      intro q
      rw [Bool.and_eq_true, decide_eq_true_eq, decide_eq_true_eq] at q
      exact h (e.mpr q))).symm
theorem m_ref (R : Rep M A s τ w) (c : Int32) : ∃ M', (∀ Q : hM → Int32 → Prop, wX5_refused M (A 10 0) c Q = if c = 0 then Q M' 0 else Q M' 1) ∧ Rep M' A s (sU τ 0 0 c) w := by
  obtain ⟨M', e, R'⟩ := wr5_0 R c
  refine ⟨M', fun Q => ?_, R'⟩
  unfold wX5_refused
  exact oex e (fun M1 => if c = 0 then Q M1 0 else Q M1 1)
end LAW
/-- an answer that changes nothing but what was thrown -/
theorem INV.same {M : hM} {A : hAd} {σ : hσ} {w : Nat → Int64} {cO cF cI cS n : Nat} {c : Int32} (R : Rep M A σ (sU σ 0 0 c) w) (I : Inv cO cF cI cS σ) (hn : cS ≤ n) : INV (n + 1) M (A 0 0) (A 10 0) (A 12 0) := ⟨A, _, w, cO, cF, cI, cS, ⟨rfl, rfl, rfl⟩, R.thr, I.thr c, by omega⟩
