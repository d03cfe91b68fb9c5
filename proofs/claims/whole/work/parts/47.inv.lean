/-! ===== what stays true between two calls ===== -/
def InvN (cO cF cI cS : Nat) (σ : hσ) : Prop := σ 2 0 = nI cO ∧ cO ≤ 8 ∧ σ 7 0 = nI cF ∧ cF ≤ 6 ∧ σ 11 0 = nI cI ∧ cI ≤ 40 ∧ σ 33 0 = nI cS ∧ cS ≤ 600 ∧ ∃ D, D ≤ 5000 ∧ σ 1 0 = nI D
def InvO (cO : Nat) (σ : hσ) : Prop := (∀ k, k < cO → ∃ g, g ≤ 9 ∧ σ 4 k = nI g) ∧ (∀ a b, a < 8 → b < 8 → hb (σ 6 a) (nI b) = hb (σ 6 b) (nI a)) ∧ (∀ k, cO ≤ k → σ 6 k = 0)
def InvI (cI : Nat) (σ : hσ) : Prop := ∀ k, cI ≤ k → σ 20 k = 0 ∧ σ 21 k = 0
def InvF (cF : Nat) (σ : hσ) : Prop := ∀ f, f < cF → ∃ a, a < 256 ∧ σ 9 f = nI a
def leftM (σ : hσ) (t : Nat) : Int32 := if σ 22 t = 2 then 60 - σ 28 t else σ 29 t - σ 27 t
def unb (σ : hσ) (t : Nat) : Prop := σ 22 t = 0 ∧ σ 23 t = 0 ∧ σ 25 t = 0 ∧ σ 26 t = 0 ∧ σ 27 t = 0 ∧ σ 28 t = 0 ∧ σ 30 t = 0 ∧ σ 31 t = 0 ∧ σ 32 t = 0 ∧ σ 50 t = 0 ∧ σ 51 t = 0
def oneT (cO : Nat) (σ : hσ) (t : Nat) : Prop := (σ 22 t = 0 ∨ σ 22 t = 1 ∨ σ 22 t = 2) ∧ (σ 22 t ≠ 2 → σ 23 t = 0 ∧ σ 28 t = 0) ∧ (σ 22 t = 2 → σ 24 t = σ 50 t) ∧ (σ 22 t = 1 → σ 24 t = σ 51 t) ∧ (∃ c, c < 2 ^ cO ∧ σ 23 t = nI c) ∧ (∃ r, (r = 0 ∨ r = 2 ∨ r = 4 ∨ r = 6) ∧ σ 30 t = nI r) ∧ σ 29 t = ceilS σ t ∧ (∃ e l, e ≤ 10 ∧ l ≤ 60 ∧ σ 27 t = nI e ∧ σ 28 t = nI l) ∧ (σ 26 t = 0 ∨ σ 26 t = 1) ∧ (σ 26 t = 1 → σ 22 t ≠ 1 ∧ 0 < leftM σ t)
def InvT (cO cF : Nat) (σ : hσ) : Prop := ∀ t, t < 48 → (accS σ cF t = false → unb σ t) ∧ oneT cO σ t
def ansG (σ : hσ) (t j : Nat) (d : Int32) (k : Nat) : Bool := decide (σ 34 k = nI t) && (decide (σ 35 k ≤ d) && hb (σ 36 k) (nI j))
def InvS (cO cF cS : Nat) (σ : hσ) : Prop := (∀ t, t < 48 → accS σ cF t = true → ∀ j, j < 8 → ∀ d, hadS σ t j d = exN (ansG σ t j d) cS) ∧ (∀ k, k < cS → ∃ t, t < 48 ∧ accS σ cF t = true ∧ σ 34 k = nI t) ∧ (∀ k, k < cS → σ 35 k ≤ σ 1 0) ∧ (∀ k, k < cS → ∃ c, c < 2 ^ cO ∧ σ 36 k = nI c)
def Inv (cO cF cI cS : Nat) (σ : hσ) : Prop := InvN cO cF cI cS σ ∧ ExI cO cF cI σ ∧ InvO cO σ ∧ InvI cI σ ∧ InvF cF σ ∧ InvT cO cF σ ∧ InvS cO cF cS σ
/-! what the answers look at -/
section CONG
variable {s : hσ} {f j : Nat} {x : Int32}
theorem lackS_c {c : Nat} {p q : Int32} (hf : f < 12 ∨ 21 < f) : lackS (sU s f j x) c p q = lackS s c p q := by
  unfold lackS lkG
  simp (disch := omega) only [sU_ne]
theorem strS_c {c t : Nat} {e d : Int32} (hf : f < 12 ∨ 19 < f) : strS (sU s f j x) c t e d = strS s c t e d := by
  unfold strS stG
  simp (disch := omega) only [sU_ne]
theorem strgS_c {c t k : Nat} {l d : Int32} (hf : f < 3 ∨ 19 < f) : strgS (sU s f j x) c t k l d = strgS s c t k l d := by
  unfold strgS
  simp (disch := omega) only [sU_ne, strS_c]
theorem ovS_c {a b : Nat} (hf : f < 3 ∨ 3 < f) : ovS (sU s f j x) a b = ovS s a b := by
  unfold ovS
  simp (disch := omega) only [sU_ne]
theorem hadS_c {t k : Nat} {d : Int32} (hf : f < 1000) : hadS (sU s f j x) t k d = hadS s t k d := by
  unfold hadS
  simp (disch := omega) only [sU_ne]
theorem spS_c {c t k : Nat} {d : Int32} (hf : f < 3 ∨ (3 < f ∧ f < 1000)) : spS (sU s f j x) c t k d = spS s c t k d := by
  unfold spS
  simp (disch := omega) only [ovS_c, hadS_c]
theorem whyS_c {c i t k : Nat} {d : Int32} (hf : f < 3 ∨ (19 < f ∧ f < 1000)) : whyS (sU s f j x) c i t k d = whyS s c i t k d := by
  unfold whyS
  simp (disch := omega) only [sU_ne, spS_c, strgS_c]
theorem heavS_c {c : Nat} {z : Int32} (hf : f < 4 ∨ 4 < f) : heavS (sU s f j x) c z = heavS s c z := by
  unfold heavS
  simp (disch := omega) only [sU_ne]
theorem canS_c {c i t : Nat} {d : Int32} (hf : f < 3 ∨ (19 < f ∧ f < 1000)) : canS (sU s f j x) c i t d = canS s c i t d := by
  unfold canS
  simp (disch := omega) only [whyS_c]
theorem prvS_c {c i t : Nat} (hf : f = 0 ∨ (23 < f ∧ f < 1000)) : prvS (sU s f j x) c i t = prvS s c i t := by
  unfold prvS
  simp (disch := omega) only [sU_ne, strgS_c]
theorem sptS_c {c t : Nat} (hf : f = 0 ∨ (3 < f ∧ f < 1000)) : sptS (sU s f j x) c t = sptS s c t := by
  unfold sptS
  simp (disch := omega) only [sU_ne, spS_c]
theorem accS_c {c t : Nat} (hf : f < 9 ∨ 9 < f) : accS (sU s f j x) c t = accS s c t := by
  unfold accS
  simp (disch := omega) only [sU_ne]
theorem ceilS_c {t : Nat} (hf : f < 30 ∨ 30 < f) : ceilS (sU s f j x) t = ceilS s t := by
  unfold ceilS
  simp (disch := omega) only [sU_ne]
theorem leftM_c {t : Nat} (hf : f < 22 ∨ 29 < f) : leftM (sU s f j x) t = leftM s t := by
  unfold leftM
  simp (disch := omega) only [sU_ne]
theorem ansG_c {t k : Nat} {d : Int32} {n : Nat} (hf : f < 34 ∨ 36 < f) : ansG (sU s f j x) t k d n = ansG s t k d n := by
  unfold ansG
  simp (disch := omega) only [sU_ne]
theorem canB_c {c i t : Nat} {d : Int32} (hf : f < 3 ∨ (19 < f ∧ f < 1000)) : canB (sU s f j x) c i t d = canB s c i t d := by
  funext k
  unfold canB
  simp (disch := omega) only [whyS_c]
theorem mateB_c {c : Nat} (hf : f < 3 ∨ 6 < f) : mateB (sU s f j x) c = mateB s c := by
  funext k
  funext i
  unfold mateB
  simp (disch := omega) only [sU_ne, ovS_c]
theorem InvN_c {cO cF cI cS : Nat} (hf : f ≠ 1 ∧ f ≠ 2 ∧ f ≠ 7 ∧ f ≠ 11 ∧ f ≠ 33) (h : InvN cO cF cI cS s) : InvN cO cF cI cS (sU s f j x) := by
  unfold InvN at *
  simp (disch := omega) only [sU_ne]
  exact h
theorem ExI_c {cO cF cI : Nat} (hf : f ≠ 9 ∧ f < 110) (h : ExI cO cF cI s) : ExI cO cF cI (sU s f j x) := by
  unfold ExI at *
  simp (disch := omega) only [sU_ne, accS_c]
  exact h
theorem InvO_c {cO : Nat} (hf : f ≠ 4 ∧ f ≠ 6) (h : InvO cO s) : InvO cO (sU s f j x) := by
  unfold InvO at *
  simp (disch := omega) only [sU_ne]
  exact h
theorem InvI_c {cI : Nat} (hf : f ≠ 20 ∧ f ≠ 21) (h : InvI cI s) : InvI cI (sU s f j x) := by
  unfold InvI at *
  simp (disch := omega) only [sU_ne]
  exact h
theorem InvF_c {cF : Nat} (hf : f ≠ 9) (h : InvF cF s) : InvF cF (sU s f j x) := by
  unfold InvF at *
  simp (disch := omega) only [sU_ne]
  exact h
theorem InvT_c {cO cF : Nat} (hf : f ≠ 9 ∧ (f < 22 ∨ (32 < f ∧ f ≠ 50 ∧ f ≠ 51))) (h : InvT cO cF s) : InvT cO cF (sU s f j x) := by
  unfold InvT unb oneT at *
  simp (disch := omega) only [sU_ne, accS_c, ceilS_c, leftM_c]
  exact h
theorem InvS_c {cO cF cS : Nat} (hf : f ≠ 1 ∧ f ≠ 9 ∧ (f < 34 ∨ (36 < f ∧ f < 1000))) (h : InvS cO cF cS s) : InvS cO cF cS (sU s f j x) := by
  unfold InvS at *
  have e : ∀ t k d, ansG (sU s f j x) t k d = ansG s t k d := fun t k d => funext fun n => ansG_c (by omega)
  simp (disch := omega) only [sU_ne, accS_c, hadS_c, e]
  exact h
theorem Inv_c {cO cF cI cS : Nat} (hf : f = 0 ∨ f = 31 ∨ f = 32 ∨ f = 37) (hj : accS s cF j = true ∨ f = 0 ∨ f = 37) (h : Inv cO cF cI cS s) : Inv cO cF cI cS (sU s f j x) := by
  obtain ⟨h1, h2, h3, h4, h5, h6, h7⟩ := h
  refine ⟨InvN_c (by omega) h1, ExI_c (by omega) h2, InvO_c (by omega) h3, InvI_c (by omega) h4, InvF_c (by omega) h5, ?_, InvS_c (by omega) h7⟩
  by_cases e : f = 0 ∨ f = 37
  · exact InvT_c (by omega) h6
  · intro t ht
    obtain ⟨q1, q2⟩ := h6 t ht
    rw [accS_c (by omega)]
    constructor
    · intro z
      have q := q1 z
      have ne : t ≠ j := by
        rintro rfl
        rcases hj with hj | hj
        · rw [hj] at z
          cases z
        · exact e hj
      unfold unb at *
      simp only [sU_nj ne]
      exact q
    · unfold oneT at *
      have e2 : f = 31 ∨ f = 32 := by omega
      simp (disch := omega) only [sU_ne, ceilS_c, leftM_c]
      exact q2
end CONG
theorem Inv.thr {cO cF cI cS : Nat} {σ : hσ} (c : Int32) (h : Inv cO cF cI cS σ) : Inv cO cF cI cS (sU σ 0 0 c) := Inv_c (Or.inl rfl) (Or.inr (Or.inl rfl)) h
section INV
variable {M : hM} {A : hAd} {s σ : hσ} {w : Nat → Int64} {cO cF cI cS : Nat}
theorem Inv.hS (I : Inv cO cF cI cS σ) : ∀ a b, a < cO → b < cO → hb (σ 6 a) (nI b) = hb (σ 6 b) (nI a) := fun a b ha hb' => I.2.2.1.2.1 a b (Nat.lt_of_lt_of_le ha I.1.2.1) (Nat.lt_of_lt_of_le hb' I.1.2.1)
theorem Inv.hG (I : Inv cO cF cI cS σ) : ∃ h : Nat → Nat, ∀ n, heavS σ cO (nI n) = nI (h n) ∧ h n < 1000 := by
  have hx : ∀ k, ∃ g, k < cO → g ≤ 9 ∧ σ 4 k = nI g := fun k => by
    by_cases hk : k < cO
    · obtain ⟨g, hg⟩ := I.2.2.1.1 k hk
      exact ⟨g, fun _ => hg⟩
    · exact ⟨0, fun q => absurd q hk⟩
  obtain ⟨g, hg⟩ := Classical.axiomOfChoice hx
  exact ⟨hv g cO, fun n => ⟨hv_eq (fun k hk => (hg k hk).2) n, hv_lt (fun k hk => (hg k hk).1) n⟩⟩
theorem acc48 (I : Inv cO cF cI cS σ) {t : Nat} (h : accS σ cF t = true) : t < 48 := by
  have h1 := accS_f h
  have h2 := I.1.2.2.2.1
  omega
theorem i_isSpent (R : Rep M A s σ w) (I : Inv cO cF cI cS σ) {t k : Nat} (ha : accS σ cF t = true) (hk : k < cO) (d : Int32) : fX5_isSpent M (A 10 0) (nI t) (nI k) d = some (bI (spS σ cO t k d)) := by
  have hO8 := I.1.2.1
  have ht := acc48 I ha
  rw [m_isSpent0 R I.1.1 hO8 I.1.2.2.2.2.2.2.1 I.1.2.2.2.2.2.2.2.1 (by omega) d]
  refine congrArg (fun b => some (bI b)) ?_
  rw [Bool.eq_iff_iff]
  unfold spS
  rw [exN_iff, exN_iff]
  have hh := I.2.2.2.2.2.2.1 t ht ha
  constructor
  · rintro ⟨n, hn, q⟩
    obtain ⟨j, hj, q⟩ := exN_iff.mp q
    unfold mspG at q
    simp only [Bool.and_eq_true] at q
    refine ⟨j, hj, ?_⟩
    rw [hh j (by omega) d, q.2, Bool.true_and, exN_iff]
    refine ⟨n, hn, ?_⟩
    unfold ansG
    simp only [Bool.and_eq_true]
    exact ⟨q.1.1.1, q.1.1.2, q.1.2⟩
  · rintro ⟨j, hj, q⟩
    rw [hh j (by omega) d, Bool.and_eq_true, exN_iff] at q
    obtain ⟨q1, n, hn, q2⟩ := q
    refine ⟨n, hn, exN_iff.mpr ⟨j, hj, ?_⟩⟩
    unfold ansG at q2
    unfold mspG
    simp only [Bool.and_eq_true] at q2 ⊢
    exact ⟨⟨⟨q2.1, q2.2.1⟩, q2.2.2⟩, q1⟩
theorem i_why (R : Rep M A s σ w) (I : Inv cO cF cI cS σ) {t k : Nat} (ha : accS σ cF t = true) (hk : k < cO) (d : Int32) : fX5_why M (A 10 0) (nI t) (nI k) d = some (whyS σ cO cI t k d) := by
  have hO8 := I.1.2.1
  exact m_why R I.1.2.2.2.2.1 I.1.2.2.2.2.2.1 (acc48 I ha) (by omega) d (i_isSpent R I ha hk d)
end INV
