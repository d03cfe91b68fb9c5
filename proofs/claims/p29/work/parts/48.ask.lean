/-! ===== what the class's questions answer ===== -/
theorem sx : (("java/lang/IllegalArgumentException" = "java/lang/IndexOutOfBoundsException") = False) ∧ (("java/lang/IllegalStateException" = "java/lang/IndexOutOfBoundsException") = False) ∧ (("java/lang/IllegalStateException" = "java/lang/IllegalArgumentException") = False) ∧ (("java/lang/IndexOutOfBoundsException" = "java/lang/IllegalArgumentException") = False) ∧ (("java/lang/IllegalArgumentException" = "java/lang/IllegalStateException") = False) ∧ (("java/lang/IndexOutOfBoundsException" = "java/lang/IllegalStateException") = False) := ⟨eq_false (by decide), eq_false (by decide), eq_false (by decide), eq_false (by decide), eq_false (by decide), eq_false (by decide)⟩
theorem i20 : ((2 : Int32) = 0) = False := eq_false (by decide)
theorem i30 : ((3 : Int32) = 0) = False := eq_false (by decide)
/-- the codes of what throws -/
def refd (r : Int32) : Prop := r = -2000000001 ∨ r = -2000000002 ∨ r = -2000000003
theorem isRef_t {r : Int32} (h : refd r) : fL_isRefused r = some 1 := by
  rcases h with rfl | rfl | rfl <;> rfl
theorem isRef_f {r : Int32} (h : ¬ refd r) : fL_isRefused r = some 0 := by
  unfold fL_isRefused
  rw [if_neg (fun q => h (Or.inl q)), if_neg (fun q => h (Or.inr (Or.inl q))), if_neg (fun q => h (Or.inr (Or.inr q)))]
theorem nI_nref {n : Nat} (h : n < 2 ^ 31) : ¬ refd (nI n) := by
  have key : ∀ m : Int32, m < 0 → nI n ≠ m := fun m hm e => by
    have := nI_pos h
    rw [e] at this
    exact this hm
  rintro (e | e | e)
  · exact key _ (by decide) e
  · exact key _ (by decide) e
  · exact key _ (by decide) e
theorem nI_n9 {n : Nat} (h : n < 2 ^ 31) : nI n ≠ -9 := fun e => by
  have := nI_pos h
  rw [e] at this
  exact this (by decide)
section ASK
variable {M : hM} {A : hAd} {s τ : hσ} {cO cF cI : Nat}
theorem acc_fp {f p : Nat} (hp : p < 8) : accS s cF (8 * f + p) = (decide (f < cF) && hb (s 9 f) (nI p)) := by
  unfold accS
  rw [show (8 * f + p) / 8 = f by omega, show (8 * f + p) % 8 = p by omega]
theorem isin_acc {a1 a2 : Int32} (h : isinP s cF a1 a2) : ∃ f p, a1 = nI f ∧ a2 = nI p ∧ f < cF ∧ p < 8 ∧ accS s cF (8 * f + p) = true := by
  obtain ⟨f, p, e1, e2, hf, hp, hbt⟩ := h
  refine ⟨f, p, e1, e2, hf, hp, ?_⟩
  rw [acc_fp hp, hbt, decide_eq_true hf]
  rfl
theorem c_acc_t (R : Rep M A s τ) (E : ExI cO cF cI s) (hF : cF ≤ 6) {f p : Nat} (hf : f < cF) (hp : p < 8) (h : accS s cF (8 * f + p) = true) (Q : hM → Option Nat → Prop) (X : String → hM → Prop) : wX4_accusedAt M (A 0 0) (nI f) (nI p) Q X = Q M (some (A 7 (8 * f + p))) := by
  unfold wX4_accusedAt
  simp only [bX4_accusedAt_19]
  simp only [↓rd4e R, ↓(fun (g : Option Nat → Prop) => oex (c_fileAt_t R E (by omega) hf) g), snf, ↓reduceIte, ↓rd1e R (E.f hf), ↓(fun (g : Option Nat → Prop) => oex (c_rowOf_t R E hf hp h) g)]
theorem c_acc_f (R : Rep M A s τ) (E : ExI cO cF cI s) (hF : cF ≤ 6) {a1 a2 : Int32} (h : ¬ isinP s cF a1 a2) (Q : hM → Option Nat → Prop) (X : String → hM → Prop) : wX4_accusedAt M (A 0 0) a1 a2 Q X = X "java/lang/IndexOutOfBoundsException" M := by
  unfold wX4_accusedAt
  simp only [bX4_accusedAt_19]
  by_cases h1 : ∃ f, f < cF ∧ a1 = nI f
  · obtain ⟨f, hf, rfl⟩ := h1
    have h2 : ¬ ∃ p, p < 8 ∧ a2 = nI p ∧ accS s cF (8 * f + p) = true := by
      rintro ⟨p, hp, rfl, q⟩
      rw [acc_fp hp, Bool.and_eq_true] at q
      exact h ⟨f, p, rfl, rfl, hf, hp, q.2⟩
    simp only [↓rd4e R, ↓(fun (g : Option Nat → Prop) => oex (c_fileAt_t R E (by omega) hf) g), snf, ↓reduceIte, ↓rd1e R (E.f hf), ↓(fun (g : Option Nat → Prop) => oex (c_rowOf_f R E hf h2) g)]
  · simp only [↓rd4e R, ↓(fun (g : Option Nat → Prop) => oex (c_fileAt_f R E h1) g), ↓reduceIte]
theorem c_checkDay (R : Rep M A s τ) (d : Int32) (Q : hM → Prop) (X : String → hM → Prop) : wX4_checkDay M (A 0 0) d Q X = if inR d 0 (s 1 0) = true then Q M else X "java/lang/IllegalArgumentException" M := by
  unfold wX4_checkDay
  simp only [↓rd4e R, ↓(fun (g : Int32 → Prop) => oex (in4 d 0 (s 1 0)) g), bI_0]
  cases inR d 0 (s 1 0) <;> rfl
theorem told_iff {c : Nat} (hc : c ≤ 8) (a : Int32) : a &&& ((bitN c - 1) ^^^ (-1)) = 0 ↔ 0 ≤ a ∧ a < bitN c := by
  have hp : 1 ≤ 2 ^ c := Nat.one_le_two_pow
  have hp2 := pw256 c hc
  have e1 : bitN c - 1 = nI (2 ^ c - 1) := by
    rw [bitN_nI (by omega), show (1 : Int32) = nI 1 from rfl, pk_sub hp]
  rw [e1, bitN_nI (by omega), andnot]
  constructor
  · intro h
    rw [pk_and a c (by rw [pk_tn (by omega)])] at h
    have hm : a.toBitVec.toNat % 2 ^ c < 2 ^ c := Nat.mod_lt _ (by omega)
    rw [← h]
    exact ⟨nI_pos' (by omega), (nI_ltI (by omega) (by omega)).mpr hm⟩
  · rintro ⟨h1, h2⟩
    obtain ⟨j, hj, rfl⟩ := nI_of (Int32.not_lt.mpr h1)
    have h3 := (nI_ltI hj (by omega)).mp h2
    rw [pk_andN (by omega) c (by rw [pk_tn (by omega)]), Nat.mod_eq_of_lt h3]
theorem c_checkTold (R : Rep M A s τ) (hO : s 2 0 = nI cO) (hO8 : cO ≤ 8) (a : Int32) (Q : hM → Prop) (X : String → hM → Prop) : wX4_checkToldOffences M (A 0 0) a Q X = if (decide (0 ≤ a) && decide (a < bitN cO)) = true then Q M else X "java/lang/IllegalArgumentException" M := by
  unfold wX4_checkToldOffences
  simp only [↓rd4e R, hO]
  have e := told_iff hO8 a
  by_cases h : a &&& ((bitN cO - 1) ^^^ (-1)) = 0
  · obtain ⟨h1, h2⟩ := e.mp h
    exact Eq.trans (b := Q M) (if_pos h) (if_pos (by rw [decide_eq_true h1, decide_eq_true h2]; rfl)).symm
  · exact Eq.trans (b := X "java/lang/IllegalArgumentException" M) (if_neg h) (if_neg (by
      intro q
      rw [Bool.and_eq_true, decide_eq_true_eq, decide_eq_true_eq] at q
      exact h (e.mpr q))).symm
/-! the questions where they don't throw -/
theorem q_acc (R : Rep M A s τ) (E : ExI cO cF cI s) (hF : cF ≤ 6) {f p : Nat} (hf : f < cF) (hp : p < 8) (h : accS s cF (8 * f + p) = true) : fX4_accusedAtq M (A 0 0) (nI f) (nI p) = some (some (A 7 (8 * f + p))) := by
  unfold fX4_accusedAtq
  simp only [bX4_accusedAtq_19]
  simp only [↓rd4b R, ↓(fun (g : Option Nat → Option (Option Nat)) => obind (c_fileAt_t R E (by omega) hf) g), snf, ↓reduceIte, ↓rd1b R (E.f hf), ↓(fun (g : Option Nat → Option (Option Nat)) => obind (c_rowOf_t R E hf hp h) g)]
theorem q_day (R : Rep M A s τ) {d : Int32} (h : inR d 0 (s 1 0) = true) : fX4_checkDayq M (A 0 0) d = some 0 := by
  unfold fX4_checkDayq
  simp only [↓rd4b R, ↓(fun (g : Int32 → Option Int32) => obind (in4 d 0 (s 1 0)) g), h, bI_t, i10, ↓reduceIte]
theorem c_day (R : Rep M A s τ) : fX4_day M (A 0 0) = some (s 1 0) := by
  unfold fX4_day
  simp only [↓rd4b R]
/-- the number that is told of an accused -/
def ofS (s : hσ) (cO t j : Nat) : Int32 := match j with
  | 0 => s 22 t
  | 1 => s 23 t
  | 2 => if s 26 t = 0 then 0 else 1
  | 3 => s 27 t
  | 4 => s 28 t
  | 5 => s 31 t
  | 6 => s 32 t
  | _ => sptS s cO t
theorem lt8 {j : Nat} (h : j < 8) : j = 0 ∨ j = 1 ∨ j = 2 ∨ j = 3 ∨ j = 4 ∨ j = 5 ∨ j = 6 ∨ j = 7 := by omega
theorem lt6 {j : Nat} (h : j < 6) : j = 0 ∨ j = 1 ∨ j = 2 ∨ j = 3 ∨ j = 4 ∨ j = 5 := by omega
theorem jne : (((1 : Int32) = 0) = False) ∧ (((2 : Int32) = 0) = False) ∧ (((2 : Int32) = 1) = False) ∧ (((3 : Int32) = 0) = False) ∧ (((3 : Int32) = 1) = False) ∧ (((3 : Int32) = 2) = False) ∧ (((4 : Int32) = 0) = False) ∧ (((4 : Int32) = 1) = False) ∧ (((4 : Int32) = 2) = False) ∧ (((4 : Int32) = 3) = False) ∧ (((5 : Int32) = 0) = False) ∧ (((5 : Int32) = 1) = False) ∧ (((5 : Int32) = 2) = False) ∧ (((5 : Int32) = 3) = False) ∧ (((5 : Int32) = 4) = False) ∧ (((6 : Int32) = 0) = False) ∧ (((6 : Int32) = 1) = False) ∧ (((6 : Int32) = 2) = False) ∧ (((6 : Int32) = 3) = False) ∧ (((6 : Int32) = 4) = False) ∧ (((6 : Int32) = 5) = False) ∧ (((7 : Int32) = 0) = False) ∧ (((7 : Int32) = 1) = False) ∧ (((7 : Int32) = 2) = False) ∧ (((7 : Int32) = 3) = False) ∧ (((7 : Int32) = 4) = False) ∧ (((7 : Int32) = 5) = False) ∧ (((7 : Int32) = 6) = False) := by
  refine ⟨?_, ?_, ?_, ?_, ?_, ?_, ?_, ?_, ?_, ?_, ?_, ?_, ?_, ?_, ?_, ?_, ?_, ?_, ?_, ?_, ?_, ?_, ?_, ?_, ?_, ?_, ?_, ?_⟩ <;> exact eq_false (by decide)
theorem nI7 : nI 0 = 0 ∧ nI 1 = 1 ∧ nI 2 = 2 ∧ nI 3 = 3 ∧ nI 4 = 4 ∧ nI 5 = 5 ∧ nI 6 = 6 ∧ nI 7 = 7 := ⟨rfl, rfl, rfl, rfl, rfl, rfl, rfl, rfl⟩
theorem q_of (R : Rep M A s τ) (E : ExI cO cF cI s) (hO8 : cO ≤ 8) (hF : cF ≤ 6) {f p : Nat} (hf : f < cF) (hp : p < 8) (ha : accS s cF (8 * f + p) = true) {j : Nat} (hj : j < 8) : fX4_ofAccusedq M (A 0 0) (nI f) (nI p) (nI j) = some (ofS s cO (8 * f + p) j) := by
  unfold fX4_ofAccusedq
  rcases lt8 hj with rfl | rfl | rfl | rfl | rfl | rfl | rfl | rfl <;> simp only [nI7, jne, ↓reduceIte, ↓rd4b R, ↓(fun (g : Option Nat → Option Int32) => obind (q_acc R E hF hf hp ha) g), ↓rd0b R (E.a ha), ↓(fun (g : Int32 → Option Int32) => obind (c_spent R E hO8 ha) g)] <;> first | rfl | skip
  unfold ofS
  split <;> rfl
theorem fL_of_t (R : Rep M A s τ) (E : ExI cO cF cI s) (hO8 : cO ≤ 8) (hF : cF ≤ 6) {f p : Nat} (hf : f < cF) (hp : p < 8) (ha : accS s cF (8 * f + p) = true) {j : Nat} (hj : j < 8) : fL_ofq M (some (A 0 0)) (nI f) (nI p) (nI j) = some (ofS s cO (8 * f + p) j) := by
  unfold fL_ofq
  simp only [↓rd4b R, ↓(fun (g : Int32 → Option Int32) => obind (q_of R E hO8 hF hf hp ha hj) g)]
theorem fL_count_t (R : Rep M A s τ) {j : Nat} (hj : j < 6) : fL_countq M (some (A 0 0)) (nI j) = some (s 37 j) := by
  unfold fL_countq fX4_countq
  rcases lt6 hj with rfl | rfl | rfl | rfl | rfl | rfl <;> simp only [nI7, jne, ↓reduceIte, ↓rd4b R, Option.bind_some]
theorem fL_why_t (R : Rep M A s τ) (E : ExI cO cF cI s) (hO8 : cO ≤ 8) (hF : cF ≤ 6) {f p k : Nat} (hf : f < cF) (hp : p < 8) (ha : accS s cF (8 * f + p) = true) (hk : k < cO) {d : Int32} (hd : inR d 0 (s 1 0) = true) : fL_whyNotq M (some (A 0 0)) (nI f) (nI p) (nI k) d = some (whyS s cO cI (8 * f + p) k d) := by
  unfold fL_whyNotq fX4_whyNotq
  simp only [↓rd4b R, ↓(fun (g : Option Nat → Option Int32) => obind (q_acc R E hF hf hp ha) g), ↓(fun (g : Option Nat → Option Int32) => obind (c_offenceAt_t R E (by omega) hk) g), snf, ↓reduceIte, ↓(fun (g : Int32 → Option Int32) => obind (q_day R hd) g), ↓(fun (g : Int32 → Option Int32) => obind (c_hindrance R E hO8 ha hk d) g), Option.bind_some]
theorem fL_str_t (R : Rep M A s τ) (E : ExI cO cF cI s) (hF : cF ≤ 6) {f p e : Nat} (hf : f < cF) (hp : p < 8) (ha : accS s cF (8 * f + p) = true) (he : e < 10) {d : Int32} (hd : inR d 0 (s 1 0) = true) : fL_strengthq M (some (A 0 0)) (nI f) (nI p) (nI e) d = some (strS s cI (8 * f + p) (nI e) d) := by
  have h9 : inR (nI e) 0 9 = true := (inR_nI (b := 9) (by decide)).mpr ⟨e, by omega, rfl⟩
  unfold fL_strengthq fX4_strengthq
  simp only [↓rd4b R, ↓(fun (g : Option Nat → Option Int32) => obind (q_acc R E hF hf hp ha) g), ↓(fun (g : Int32 → Option Int32) => obind (in4 (nI e) 0 9) g), h9, bI_t, i10, ↓reduceIte, ↓(fun (g : Int32 → Option Int32) => obind (q_day R hd) g), ↓(fun (g : Int32 → Option Int32) => obind (c_strength R E ha (nI e) d) g), Option.bind_some]
theorem fL_nests_t (R : Rep M A s τ) (E : ExI cO cF cI s) (hO8 : cO ≤ 8) {a b : Nat} (ha : a < cO) (hb' : b < cO) : fL_nestsq M (some (A 0 0)) (nI a) (nI b) = some (bI (nestS s a b)) := by
  unfold fL_nestsq fX4_nestsq
  simp only [↓rd4b R, ↓(fun (g : Option Nat → Option Int32) => obind (c_offenceAt_t R E (by omega) ha) g), ↓(fun (g : Option Nat → Option Int32) => obind (c_offenceAt_t R E (by omega) hb') g), snf, ↓reduceIte, ↓rd3b R (E.o ha), ↓(fun (g : Int32 → Option Int32) => obind (c_nestsIn R (E.o ha) (E.o hb')) g), hbz_bI, Option.bind_some, bI_0]
  cases nestS s a b <;> rfl
theorem fL_item_t (R : Rep M A s τ) (E : ExI cO cF cI s) (hI4 : cI ≤ 40) {k j : Nat} (hk : k < cI) (hj : j < 8) : ∃ v, fL_ofItemq M (some (A 0 0)) (nI k) (nI j) = some v := by
  unfold fL_ofItemq fX4_ofItemq
  rcases lt8 hj with rfl | rfl | rfl | rfl | rfl | rfl | rfl | rfl <;> simp only [nI7, jne, ↓reduceIte, ↓rd4b R, ↓(fun (g : Option Nat → Option Int32) => obind (c_itemAt_t R E (by omega) hk) g), snf, ↓rd2b R (E.i hk), Option.bind_some] <;> first | exact ⟨_, rfl⟩ | skip
  by_cases h : s 21 k = 0
  · rw [if_pos h]
    exact ⟨_, rfl⟩
  · rw [if_neg h]
    exact ⟨_, rfl⟩
/-- the best set, both ways -/
def bestP (s : hσ) (cO cI t : Nat) (d : Int32) (r : Nat) : Prop := (r = 0 ∨ RT (canB s cO cI t d) (mateB s cO) r) ∧ (r = 0 → ∀ k, k < 8 → canB s cO cI t d k = false)
theorem hvN_ge {g : Nat → Nat} {c n k : Nat} (hk : k < c) (hb' : n.testBit k = true) : ∀ m, k < m → g k ≤ hvN g c n m := by
  intro m
  induction m with
  | zero =>
    intro h
    omega
  | succ m ih =>
    intro h
    rw [hvN]
    by_cases e : k = m
    · subst e
      rw [if_pos (by rw [hb', decide_eq_true hk]; rfl)]
      omega
    · have := ih (by omega)
      omega
theorem hvN_0 {g : Nat → Nat} {c : Nat} : ∀ m, hvN g c 0 m = 0 := by
  intro m
  induction m with
  | zero => rfl
  | succ m ih =>
    rw [hvN, ih, if_neg (by rw [Nat.zero_testBit, Bool.and_false]; decide)]
theorem best_ex (R : Rep M A s τ) (I : Inv cO cF cI s) (t : Nat) (d : Int32) : ∃ r, r < 256 ∧ fX4_bestByGrowing M (A 0 0) (canS s cO cI t d) = some (nI r) ∧ fX4_bestOfAllSets M (A 0 0) (canS s cO cI t d) = some (nI r) ∧ bestP s cO cI t d r := by
  obtain ⟨g, hg1, hg2⟩ := I.hG
  obtain ⟨r, r1, r2, r3⟩ := c_growing R I.2.1 (h := hv g cO) hg2 (canB s cO cI t d)
  obtain ⟨r', r1', r2', r3'⟩ := c_allsets R I.2.1 (h := hv g cO) hg2 (canB s cO cI t d)
  have u := r3.iff (S' := fun n => n < 256 ∧ RT (canB s cO cI t d) (mateB s cO) n) (fun n => (grow_iff (mateB_sym I.hS) n).symm)
  have e := Up.uniq u r3' r1 r1'
  subst e
  refine ⟨r, r1, r2, r2', u.1.imp_right (fun q => q.2), fun e k hk => ?_⟩
  subst e
  cases q : canB s cO cI t d k with
  | false => rfl
  | true =>
    have hkO : k < cO := by
      unfold canB at q
      rw [Bool.and_eq_true] at q
      exact of_decide_eq_true q.1
    have hn := pop1 k hk
    have hrt : RT (canB s cO cI t d) (mateB s cO) (2 ^ k) := ⟨by omega, fun j hj hj2 => by
      obtain rfl := tb1.mp hj2
      exact ⟨q, fun i hi hi2 ne => absurd (tb1.mp hi2) ne⟩⟩
    have hK := u.2.2 (2 ^ k) ⟨hn.2, hrt⟩
    have h0 : hv g cO 0 = 0 := hvN_0 8
    have h1 : g k ≤ hv g cO (2 ^ k) := hvN_ge hkO (tb1.mpr rfl) 8 hk
    have h2 := (hg1 k hkO).1
    unfold Ky at hK
    rw [h0, hn.1, show popN 0 = 0 by decide] at hK
    omega
theorem fL_best_t (R : Rep M A s τ) (I : Inv cO cF cI s) {f p : Nat} (hf : f < cF) (hp : p < 8) (ha : accS s cF (8 * f + p) = true) {d : Int32} (hd : inR d 0 (s 1 0) = true) : ∃ r, r < 256 ∧ fL_bestq M (some (A 0 0)) (nI f) (nI p) d = some (nI r) ∧ fL_anewq M (some (A 0 0)) (nI f) (nI p) d = some (nI r) ∧ bestP s cO cI (8 * f + p) d r := by
  have hF := I.1.2.2.2.1
  obtain ⟨r, r1, r2, r3, r4⟩ := best_ex R I (8 * f + p) d
  refine ⟨r, r1, ?_, ?_, r4⟩
  · unfold fL_bestq fX4_bestq
    simp only [↓rd4b R, ↓(fun (g : Option Nat → Option Int32) => obind (q_acc R I.2.1 hF hf hp ha) g), ↓(fun (g : Int32 → Option Int32) => obind (q_day R hd) g), ↓(fun (g : Int32 → Option Int32) => obind (c_chargeable R I.2.1 I.1.2.1 ha d) g), ↓(fun (g : Int32 → Option Int32) => obind r2 g), Option.bind_some]
  · unfold fL_anewq fX4_bestAnewq
    simp only [↓rd4b R, ↓(fun (g : Option Nat → Option Int32) => obind (q_acc R I.2.1 hF hf hp ha) g), ↓(fun (g : Int32 → Option Int32) => obind (q_day R hd) g), ↓(fun (g : Int32 → Option Int32) => obind (c_chargeable R I.2.1 I.1.2.1 ha d) g), ↓(fun (g : Int32 → Option Int32) => obind r3 g), Option.bind_some]
/-! the questions where they may throw -/
theorem wL_best_t (R : Rep M A s τ) (I : Inv cO cF cI s) {f p : Nat} (hf : f < cF) (hp : p < 8) (ha : accS s cF (8 * f + p) = true) (Q : hM → Int32 → Prop) : ∃ r, r < 256 ∧ bestP s cO cI (8 * f + p) (s 1 0) r ∧ wL_best M (some (A 0 0)) (nI f) (nI p) (s 1 0) Q = Q M (nI r) := by
  have hF := I.1.2.2.2.1
  obtain ⟨r, r1, r2, r3, r4⟩ := best_ex R I (8 * f + p) (s 1 0)
  have hd : inR (s 1 0) 0 (s 1 0) = true := by
    obtain ⟨D, hD, e⟩ := I.1.2.2.2.2.2.2
    rw [e]
    exact (inR_nI (by omega)).mpr ⟨D, Nat.le_refl _, rfl⟩
  refine ⟨r, r1, r4, ?_⟩
  unfold wL_best wX4_best
  simp only [↓rd4e R]
  rw [c_acc_t R I.2.1 hF hf hp ha]
  simp only [↓rd4e R]
  rw [c_checkDay R, if_pos hd]
  simp only [↓rd4e R, ↓(fun (g : Int32 → Prop) => oex (c_chargeable R I.2.1 I.1.2.1 ha (s 1 0)) g), ↓(fun (g : Int32 → Prop) => oex r2 g)]
theorem wL_best_f (R : Rep M A s τ) (I : Inv cO cF cI s) {a1 a2 d : Int32} (h : ¬ isinP s cF a1 a2) (Q : hM → Int32 → Prop) : wL_best M (some (A 0 0)) a1 a2 d Q = Q M (-2000000001) := by
  unfold wL_best wX4_best
  simp only [↓rd4e R]
  rw [c_acc_f R I.2.1 I.1.2.2.2.1 h]
  exact if_pos rfl
theorem wL_of_t (R : Rep M A s τ) (I : Inv cO cF cI s) {f p : Nat} (hf : f < cF) (hp : p < 8) (ha : accS s cF (8 * f + p) = true) {j : Nat} (hj : j < 8) (Q : hM → Int32 → Prop) : wL_of M (some (A 0 0)) (nI f) (nI p) (nI j) Q = Q M (ofS s cO (8 * f + p) j) := by
  unfold wL_of wX4_ofAccused
  simp only [↓rd4e R]
  rw [c_acc_t R I.2.1 I.1.2.2.2.1 hf hp ha]
  rcases lt8 hj with rfl | rfl | rfl | rfl | rfl | rfl | rfl | rfl <;> simp only [nI7, jne, ↓reduceIte, ↓rd4e R, ↓rd0e R (I.2.1.a ha), ↓(fun (g : Int32 → Prop) => oex (c_spent R I.2.1 I.1.2.1 ha) g)] <;> first | rfl | skip
  unfold ofS
  by_cases h : s 26 (8 * f + p) = 0
  · rw [if_pos h, if_pos h]
    rfl
  · rw [if_neg h, if_neg h]
    rfl
theorem wL_of_f (R : Rep M A s τ) (I : Inv cO cF cI s) {a1 a2 d : Int32} (h : ¬ isinP s cF a1 a2) (Q : hM → Int32 → Prop) : wL_of M (some (A 0 0)) a1 a2 d Q = Q M (-2000000001) := by
  unfold wL_of wX4_ofAccused
  simp only [↓rd4e R]
  rw [c_acc_f R I.2.1 I.1.2.2.2.1 h]
  exact if_pos rfl
theorem wL_lacks_t (R : Rep M A s τ) (I : Inv cO cF cI s) {f p : Nat} (hf : f < cF) (hp : p < 8) (ha : accS s cF (8 * f + p) = true) (Q : hM → Int32 → Prop) : wL_lacks M (some (A 0 0)) (nI f) (nI p) Q = Q M (lackS s cI (nI f) (nI p)) := by
  unfold wL_lacks wX4_lacks
  simp only [↓rd4e R]
  rw [c_acc_t R I.2.1 I.1.2.2.2.1 hf hp ha]
  simp only [↓rd4e R, ↓rd0e R (I.2.1.a ha), ↓rd1e R (I.2.1.f (accS_f ha)), show (8 * f + p) / 8 = f by omega, show (8 * f + p) % 8 = p by omega, ↓(fun (a b : Int32) (g : Int32 → Prop) => oex (c_lackedBy R I.2.1 a b) g)]
theorem wL_lacks_f (R : Rep M A s τ) (I : Inv cO cF cI s) {a1 a2 : Int32} (h : ¬ isinP s cF a1 a2) (Q : hM → Int32 → Prop) : wL_lacks M (some (A 0 0)) a1 a2 Q = Q M (-2000000001) := by
  unfold wL_lacks wX4_lacks
  simp only [↓rd4e R]
  rw [c_acc_f R I.2.1 I.1.2.2.2.1 h]
  exact if_pos rfl
end ASK
