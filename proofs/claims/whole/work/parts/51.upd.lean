/-! ===== two families of numbers after the same call ===== -/
def AM (a b : hσ) : Prop := ∀ f i, f ≠ 0 → f ≠ 24 → f ≠ 29 → (f < 33 ∨ 36 < f) → a f i = b f i
def BM (a b : hσ) : Prop := ∀ f i, f ≤ 37 → a f i = b f i
def AO (a b : hσ) : Prop := ∀ f i, f ≠ 0 → a f i = b f i
theorem AM.rf (a : hσ) : AM a a := fun _ _ _ _ _ _ => rfl
theorem BM.rf (a : hσ) : BM a a := fun _ _ _ => rfl
theorem AO.rf (a : hσ) : AO a a := fun _ _ _ => rfl
theorem AM.u {a b : hσ} (h : AM a b) (g j : Nat) (x : Int32) : AM (sU a g j x) (sU b g j x) := fun f i h1 h2 h3 h4 => by
  unfold sU
  rw [h f i h1 h2 h3 h4]
theorem BM.u {a b : hσ} (h : BM a b) (g j : Nat) (x : Int32) : BM (sU a g j x) (sU b g j x) := fun f i h1 => by
  unfold sU
  rw [h f i h1]
theorem AO.u {a b : hσ} (h : AO a b) (g j : Nat) (x : Int32) : AO (sU a g j x) (sU b g j x) := fun f i h1 => by
  unfold sU
  rw [h f i h1]
theorem AM.m {a b : hσ} (h : AM a b) {g j : Nat} {x : Int32} (hg : g = 0 ∨ g = 24 ∨ g = 29 ∨ (33 ≤ g ∧ g ≤ 36)) : AM (sU a g j x) b := fun f i h1 h2 h3 h4 => by
  rw [sU_ne (by omega)]
  exact h f i h1 h2 h3 h4
theorem BM.m {a b : hσ} (h : BM a b) {g j : Nat} {x : Int32} (hg : 37 < g) : BM (sU a g j x) b := fun f i h1 => by
  rw [sU_ne (by omega)]
  exact h f i h1
theorem BM.v {a b : hσ} (h : BM a b) {g : Nat} {y : Nat → Int32} (hg : 37 < g) : BM (sV a g y) b := fun f i h1 => by
  rw [sV_ne (by omega)]
  exact h f i h1
theorem AM.v {a b : hσ} (h : AM a b) (g : Nat) (y : Nat → Int32) : AM (sV a g y) (sV b g y) := fun f i h1 h2 h3 h4 => by
  unfold sV
  rw [h f i h1 h2 h3 h4]
theorem AM.o {a b : hσ} (h : AM a b) {g j : Nat} {x : Int32} (hx : b g j = x) : AM (sU a g j x) b := fun f i h1 h2 h3 h4 => by
  by_cases e : f = g ∧ i = j
  · obtain ⟨rfl, rfl⟩ := e
    rw [sU_eq, hx]
  · rw [sU_off e]
    exact h f i h1 h2 h3 h4
theorem AO.thr (σ : hσ) (c : Int32) : AO (sU σ 0 0 c) σ := fun _ _ h => sU_ne h
theorem sU_comm {s : hσ} {f j f' j' : Nat} {x y : Int32} (h : f ≠ f' ∨ j ≠ j') : sU (sU s f j x) f' j' y = sU (sU s f' j' y) f j x := by
  funext g i
  unfold sU
  by_cases e1 : g = f ∧ i = j
  · by_cases e2 : g = f' ∧ i = j'
    · omega
    · rw [if_neg e2, if_pos e1, if_pos e1]
  · by_cases e2 : g = f' ∧ i = j'
    · rw [if_pos e2, if_neg e1, if_pos e2]
    · rw [if_neg e2, if_neg e1, if_neg e1, if_neg e2]
theorem Rep.fin {M : hM} {A : hAd} {s τ σ' : hσ} {w : Nat → Int64} (R : Rep M A s τ w) (h1 : AM σ' s) (h2 : BM σ' τ) : Rep M A σ' σ' w := R.cong2 h1 h2
theorem lackS_ao {a b : hσ} (h : AO a b) (c : Nat) (p q : Int32) : lackS a c p q = lackS b c p q := by
  unfold lackS lkG
  simp only [h 12 _ (by decide), h 14 _ (by decide), h 15 _ (by decide), h 20 _ (by decide), h 21 _ (by decide)]
theorem heavS_ao {a b : hσ} (h : AO a b) (c : Nat) (z : Int32) : heavS a c z = heavS b c z := by
  unfold heavS
  simp only [h 4 _ (by decide)]
theorem oneT_cong {cO : Nat} {a b : hσ} {t : Nat} (h : ∀ f, (22 ≤ f ∧ f ≤ 32) ∨ f = 50 ∨ f = 51 → a f t = b f t) (q : oneT cO b t) : oneT cO a t := by
  unfold oneT ceilS leftM at *
  rw [h 22 (by omega), h 23 (by omega), h 24 (by omega), h 26 (by omega), h 27 (by omega), h 28 (by omega), h 29 (by omega), h 30 (by omega), h 50 (by omega), h 51 (by omega)]
  exact q
theorem unb_cong {a b : hσ} {t : Nat} (h : ∀ f, (22 ≤ f ∧ f ≤ 32) ∨ f = 50 ∨ f = 51 → a f t = b f t) (q : unb b t) : unb a t := by
  unfold unb at *
  rw [h 22 (by omega), h 23 (by omega), h 25 (by omega), h 26 (by omega), h 27 (by omega), h 28 (by omega), h 30 (by omega), h 31 (by omega), h 32 (by omega), h 50 (by omega), h 51 (by omega)]
  exact q
theorem InvT_at {cO cF : Nat} {σ σ' : hσ} {t : Nat} (h : InvT cO cF σ) (ha : accS σ cF t = true) (hacc : ∀ t', accS σ' cF t' = accS σ cF t') (hoff : ∀ t' f, t' ≠ t → (22 ≤ f ∧ f ≤ 32) ∨ f = 50 ∨ f = 51 → σ' f t' = σ f t') (hone : oneT cO σ' t) : InvT cO cF σ' := by
  intro t' ht'
  by_cases e : t' = t
  · subst e
    refine ⟨fun q => ?_, hone⟩
    rw [hacc, ha] at q
    cases q
  · obtain ⟨q1, q2⟩ := h t' ht'
    exact ⟨fun q => unb_cong (fun f hf => hoff t' f e hf) (q1 (by rw [← hacc]; exact q)), oneT_cong (fun f hf => hoff t' f e hf) q2⟩
theorem lt60 : ∀ l, l ≤ 60 → (0 < (60 : Int32) - nI l ↔ l < 60) := by decide +kernel
theorem nI_sub_pos {a b : Nat} (ha : a < 1000) (hb' : b < 1000) : 0 < nI a - nI b ↔ b < a := by
  rw [Int32.lt_iff_toInt_lt, pk_sub_toInt (by omega) (by omega), show (0 : Int32).toInt = 0 by decide]
  omega
/-! the counts by their places -/
section CNT
variable {M : hM} {A : hAd} {s τ : hσ} {w : Nat → Int64}
theorem rdCe (R : Rep M A s τ w) : (∀ Q : Int32 → Prop, (∃ x, aI M 0 (some (A 11 37)) 0 = some x ∧ Q x) = Q (τ 37 0)) ∧ (∀ Q : Int32 → Prop, (∃ x, aI M 0 (some (A 11 37)) 1 = some x ∧ Q x) = Q (τ 37 1)) ∧ (∀ Q : Int32 → Prop, (∃ x, aI M 0 (some (A 11 37)) 2 = some x ∧ Q x) = Q (τ 37 2)) ∧ (∀ Q : Int32 → Prop, (∃ x, aI M 0 (some (A 11 37)) 3 = some x ∧ Q x) = Q (τ 37 3)) ∧ (∀ Q : Int32 → Prop, (∃ x, aI M 0 (some (A 11 37)) 4 = some x ∧ Q x) = Q (τ 37 4)) ∧ (∀ Q : Int32 → Prop, (∃ x, aI M 0 (some (A 11 37)) 5 = some x ∧ Q x) = Q (τ 37 5)) :=
  ⟨fun g => oex (aI_at (k := 0) (at11 R (f := 37) rfl) (by decide) (by decide)) g, fun g => oex (aI_at (k := 1) (at11 R (f := 37) rfl) (by decide) (by decide)) g, fun g => oex (aI_at (k := 2) (at11 R (f := 37) rfl) (by decide) (by decide)) g, fun g => oex (aI_at (k := 3) (at11 R (f := 37) rfl) (by decide) (by decide)) g, fun g => oex (aI_at (k := 4) (at11 R (f := 37) rfl) (by decide) (by decide)) g, fun g => oex (aI_at (k := 5) (at11 R (f := 37) rfl) (by decide) (by decide)) g⟩
theorem wrC0 (R : Rep M A s τ w) (x : Int32) : ∃ M', sI M 0 (some (A 11 37)) 0 x = some M' ∧ Rep M' A s (sU τ 37 0 x) w := wrA R (f := 37) (n := 6) (k := 0) rfl (by decide) (by decide) x
theorem wrC1 (R : Rep M A s τ w) (x : Int32) : ∃ M', sI M 0 (some (A 11 37)) 1 x = some M' ∧ Rep M' A s (sU τ 37 1 x) w := wrA R (f := 37) (n := 6) (k := 1) rfl (by decide) (by decide) x
theorem wrC2 (R : Rep M A s τ w) (x : Int32) : ∃ M', sI M 0 (some (A 11 37)) 2 x = some M' ∧ Rep M' A s (sU τ 37 2 x) w := wrA R (f := 37) (n := 6) (k := 2) rfl (by decide) (by decide) x
theorem wrC3 (R : Rep M A s τ w) (x : Int32) : ∃ M', sI M 0 (some (A 11 37)) 3 x = some M' ∧ Rep M' A s (sU τ 37 3 x) w := wrA R (f := 37) (n := 6) (k := 3) rfl (by decide) (by decide) x
theorem wrC4 (R : Rep M A s τ w) (x : Int32) : ∃ M', sI M 0 (some (A 11 37)) 4 x = some M' ∧ Rep M' A s (sU τ 37 4 x) w := wrA R (f := 37) (n := 6) (k := 4) rfl (by decide) (by decide) x
theorem wrC5 (R : Rep M A s τ w) (x : Int32) : ∃ M', sI M 0 (some (A 11 37)) 5 x = some M' ∧ Rep M' A s (sU τ 37 5 x) w := wrA R (f := 37) (n := 6) (k := 5) rfl (by decide) (by decide) x
end CNT
/-! one accused by the values -/
def ceilV (v : Int32) : Int32 := 4 + (if hb v 1 = true then 2 else 0) + (if hb v 2 = true then 4 else 0)
def oneV (cO : Nat) (a22 a23 a24 a26 a27 a28 a29 a30 a50 a51 : Int32) : Prop := (a22 = 0 ∨ a22 = 1 ∨ a22 = 2) ∧ (a22 ≠ 2 → a23 = 0 ∧ a28 = 0) ∧ (a22 = 2 → a24 = a50) ∧ (a22 = 1 → a24 = a51) ∧ (∃ c, c < 2 ^ cO ∧ a23 = nI c) ∧ (∃ r, (r = 0 ∨ r = 2 ∨ r = 4 ∨ r = 6) ∧ a30 = nI r) ∧ a29 = ceilV a30 ∧ (∃ e l, e ≤ 10 ∧ l ≤ 60 ∧ a27 = nI e ∧ a28 = nI l) ∧ (a26 = 0 ∨ a26 = 1) ∧ (a26 = 1 → a22 ≠ 1 ∧ 0 < (if a22 = 2 then 60 - a28 else a29 - a27))
theorem oneT_of {cO t : Nat} {s : hσ} {a22 a23 a24 a26 a27 a28 a29 a30 a50 a51 : Int32} (e22 : s 22 t = a22) (e23 : s 23 t = a23) (e24 : s 24 t = a24) (e26 : s 26 t = a26) (e27 : s 27 t = a27) (e28 : s 28 t = a28) (e29 : s 29 t = a29) (e30 : s 30 t = a30) (e50 : s 50 t = a50) (e51 : s 51 t = a51) (q : oneV cO a22 a23 a24 a26 a27 a28 a29 a30 a50 a51) : oneT cO s t := by
  subst e22 e23 e24 e26 e27 e28 e29 e30 e50 e51
  exact q
theorem orN_0 {p : Nat → Bool} : orN p 8 = 0 ↔ ∀ k, k < 8 → p k = false := by
  constructor
  · intro h k hk
    have := congrArg (fun z => bt z k) h
    simp only [b_0] at this
    rw [bt_orN (by omega) (by omega)] at this
    simpa [hk] using this
  · intro h
    refine b_ext fun i hi => ?_
    rw [b_0, bt_orN hi (by omega)]
    by_cases e : i < 8
    · rw [h i e, Bool.and_false]
    · simp [e]
theorem extV : ∀ r, (r = 0 ∨ r = 2 ∨ r = 4 ∨ r = 6) → ∀ q, (q = 1 ∨ q = 2) → hb (nI r) (nI q) = false → (ceilV (nI r ||| (1 <<< (nI q &&& 31))) = ceilV (nI r) + 2 * nI q) ∧ (∃ r', (r' = 0 ∨ r' = 2 ∨ r' = 4 ∨ r' = 6) ∧ nI r ||| (1 <<< (nI q &&& 31)) = nI r') ∧ ∀ e, e ≤ 10 → 0 < ceilV (nI r) - nI e → 0 < ceilV (nI r) + 2 * nI q - nI e := by
  rintro r (rfl | rfl | rfl | rfl) q (rfl | rfl) h
  · exact ⟨by decide, ⟨2, by decide, by decide⟩, by decide⟩
  · exact ⟨by decide, ⟨4, by decide, by decide⟩, by decide⟩
  · exact absurd h (by decide)
  · exact ⟨by decide, ⟨6, by decide, by decide⟩, by decide⟩
  · exact ⟨by decide, ⟨6, by decide, by decide⟩, by decide⟩
  · exact absurd h (by decide)
  · exact absurd h (by decide)
  · exact absurd h (by decide)
/-- the model's loop over the offences in a review -/
theorem l_review {M : hM} {A : hAd} {s τ : hσ} {w : Nat → Int64} (R : Rep M A s τ w) {cO t : Nat} (hO : τ 2 0 = nI cO) (hO8 : cO ≤ 8) (ht : t < 48) {v : Nat → Int32} (hw : ∀ k, k < cO → fX5_why M (A 10 0) (nI t) (nI k) (τ 24 t) = some (v k)) (Q : hM → Int32 → Prop) : ∀ n k, k ≤ cO → cO - k < n → lX5_review_105 (A 10 0) Q (nI t) n M (bI (exN (fun k => decide (v k = 0)) k)) (nI k) = (if exN (fun k => decide (v k = 0)) cO = false then bX5_review_166 (A 10 0) Q M (bI (exN (fun k => decide (v k = 0)) cO)) (some (A 11 22)) (nI t) 1 else bX5_review_166 (A 10 0) Q M (bI (exN (fun k => decide (v k = 0)) cO)) (some (A 11 22)) (nI t) 0) := by
  intro n
  induction n with
  | zero =>
    intro k h1 h2
    omega
  | succ n ih =>
    intro k h1 h2
    rw [lX5_review_105]
    by_cases e0 : k < cO
    · have e1 : ¬ cO ≤ k := by omega
      have q := ih (k + 1) (by omega) (by omega)
      rw [exN] at q
      simp (disch := omega) only [↓rd5e R, hO, nI_leI, e1, ↓reduceIte, bX5_review_137, ↓rdAe R, nI_1, ↓(fun (g : Int32 → Prop) => oex (hw k e0) g), bI_0]
      cases h3 : exN (fun k => decide (v k = 0)) k with
      | true =>
        rw [h3, Bool.true_or] at q
        rw [if_neg (by decide)]
        exact q
      | false =>
        rw [h3, Bool.false_or] at q
        rw [if_pos rfl]
        by_cases h4 : v k = 0
        · rw [if_pos h4]
          rw [decide_eq_true h4] at q
          exact q
        · rw [if_neg h4]
          rw [decide_eq_false h4] at q
          exact q
    · have e1 : k = cO := by omega
      subst e1
      simp (disch := omega) only [↓rd5e R, hO, nI_leI, Nat.le_refl, ↓reduceIte, bI_0]
