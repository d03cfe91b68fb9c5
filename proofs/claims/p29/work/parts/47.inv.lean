/-! ===== what stays true between two calls ===== -/
def InvN (cO cF cI : Nat) (σ : hσ) : Prop := σ 2 0 = nI cO ∧ cO ≤ 8 ∧ σ 7 0 = nI cF ∧ cF ≤ 6 ∧ σ 11 0 = nI cI ∧ cI ≤ 40 ∧ ∃ D, D ≤ 5000 ∧ σ 1 0 = nI D
def InvO (cO : Nat) (σ : hσ) : Prop := (∀ k, k < cO → ∃ g, 1 ≤ g ∧ g ≤ 9 ∧ σ 4 k = nI g) ∧ (∀ a b, a < cO → b < cO → hb (σ 6 a) (nI b) = hb (σ 6 b) (nI a)) ∧ (∀ a b, a < cO → cO ≤ b → b < 8 → hb (σ 6 a) (nI b) = false)
def unb (σ : hσ) (t : Nat) : Prop := σ 22 t = 0 ∧ σ 23 t = 0 ∧ σ 25 t = 0 ∧ σ 26 t = 0 ∧ σ 27 t = 0 ∧ σ 28 t = 0 ∧ σ 30 t = 0 ∧ σ 31 t = 0 ∧ σ 32 t = 0 ∧ σ 50 t = 0 ∧ σ 51 t = 0
def ceilV (v : Int32) : Int32 := 4 + (if hb v 1 = true then 2 else 0) + (if hb v 2 = true then 4 else 0)
/-- one accused, by the values; 'an' tells on which day each offence was answered first -/
def oneV (cO : Nat) (day a22 a23 a26 a27 a28 a30 a32 : Int32) (an : Nat → Int32) : Prop := (a22 = 0 ∨ a22 = 1 ∨ a22 = 2) ∧ (a22 = 2 ↔ a23 ≠ 0) ∧ (a22 ≠ 2 → a28 = 0) ∧ (a22 = 1 → a26 = 0) ∧ (a26 = 0 ∨ a26 = 1) ∧ (∃ c, c < 2 ^ cO ∧ a23 = nI c) ∧ (∃ r, (r = 0 ∨ r = 2 ∨ r = 4 ∨ r = 6) ∧ a30 = nI r) ∧ (∃ e m, a27 = nI e ∧ ceilV a30 = nI m ∧ e ≤ m ∧ m ≤ 10) ∧ (∃ l, l ≤ 60 ∧ a28 = nI l) ∧ (∃ c, c < 256 ∧ a32 = nI c ∧ ∀ j, j < 8 → c.testBit j = true → j < cO ∧ an j ≠ -1) ∧ ∀ j, j < 8 → an j = -1 ∨ an j ≤ day
def oneT (cO : Nat) (σ : hσ) (t : Nat) : Prop := oneV cO (σ 1 0) (σ 22 t) (σ 23 t) (σ 26 t) (σ 27 t) (σ 28 t) (σ 30 t) (σ 32 t) (σ (1001 + 2 * t))
def InvT (cO cF : Nat) (σ : hσ) : Prop := ∀ t, t < 48 → (accS σ cF t = false → unb σ t) ∧ (accS σ cF t = true → oneT cO σ t)
def Inv (cO cF cI : Nat) (σ : hσ) : Prop := InvN cO cF cI σ ∧ ExI cO cF cI σ ∧ InvO cO σ ∧ InvT cO cF σ
theorem ceilS_V (σ : hσ) (t : Nat) : ceilS σ t = ceilV (σ 30 t) := rfl
theorem oneT_of {cO t : Nat} {s : hσ} {day a22 a23 a26 a27 a28 a30 a32 : Int32} {an : Nat → Int32} (e1 : s 1 0 = day) (e22 : s 22 t = a22) (e23 : s 23 t = a23) (e26 : s 26 t = a26) (e27 : s 27 t = a27) (e28 : s 28 t = a28) (e30 : s 30 t = a30) (e32 : s 32 t = a32) (ean : ∀ j, s (1001 + 2 * t) j = an j) (q : oneV cO day a22 a23 a26 a27 a28 a30 a32 an) : oneT cO s t := by
  subst e1 e22 e23 e26 e27 e28 e30 e32
  unfold oneT
  rw [show s (1001 + 2 * t) = an from funext ean]
  exact q
/-! what the answers look at -/
section CONG
variable {s : hσ} {f j : Nat} {x : Int32}
theorem lackS_c {c : Nat} {p q : Int32} (hf : f < 12 ∨ 21 < f) : lackS (sU s f j x) c p q = lackS s c p q := by
  unfold lackS lkG
  simp (disch := omega) only [sU_ne]
theorem strS_c {c t : Nat} {e d : Int32} (hf : f < 12 ∨ 19 < f) : strS (sU s f j x) c t e d = strS s c t e d := by
  unfold strS stG
  simp (disch := omega) only [sU_ne]
theorem strgS_c {c t k : Nat} {l d : Int32} (hf : f < 3 ∨ 19 < f) : strgS (sU s f j x) c t k l d = strgS s c t k l d := by
  unfold strgS
  simp (disch := omega) only [sU_ne, strS_c]
theorem ovS_c {a b : Nat} (hf : f < 3 ∨ 3 < f) : ovS (sU s f j x) a b = ovS s a b := by
  unfold ovS
  simp (disch := omega) only [sU_ne]
theorem hadS_c {t k : Nat} {d : Int32} (hf : f < 1000) : hadS (sU s f j x) t k d = hadS s t k d := by
  unfold hadS
  simp (disch := omega) only [sU_ne]
theorem spS_c {c t k : Nat} {d : Int32} (hf : f < 3 ∨ (3 < f ∧ f < 1000)) : spS (sU s f j x) c t k d = spS s c t k d := by
  unfold spS
  simp (disch := omega) only [ovS_c, hadS_c]
theorem whyS_c {c i t k : Nat} {d : Int32} (hf : f < 3 ∨ (19 < f ∧ f < 1000)) : whyS (sU s f j x) c i t k d = whyS s c i t k d := by
  unfold whyS
  simp (disch := omega) only [sU_ne, spS_c, strgS_c]
theorem heavS_c {c : Nat} {z : Int32} (hf : f < 4 ∨ 4 < f) : heavS (sU s f j x) c z = heavS s c z := by
  unfold heavS
  simp (disch := omega) only [sU_ne]
theorem canS_c {c i t : Nat} {d : Int32} (hf : f < 3 ∨ (19 < f ∧ f < 1000)) : canS (sU s f j x) c i t d = canS s c i t d := by
  unfold canS
  simp (disch := omega) only [whyS_c]
theorem prvS_c {c i t : Nat} (hf : f = 0 ∨ (23 < f ∧ f < 1000)) : prvS (sU s f j x) c i t = prvS s c i t := by
  unfold prvS
  simp (disch := omega) only [sU_ne, strgS_c]
theorem sptS_c {c t : Nat} (hf : f = 0 ∨ (3 < f ∧ f < 1000)) : sptS (sU s f j x) c t = sptS s c t := by
  unfold sptS
  simp (disch := omega) only [sU_ne, spS_c]
theorem accS_c {c t : Nat} (hf : f < 9 ∨ 9 < f) : accS (sU s f j x) c t = accS s c t := by
  unfold accS
  simp (disch := omega) only [sU_ne]
theorem ceilS_c {t : Nat} (hf : f < 30 ∨ 30 < f) : ceilS (sU s f j x) t = ceilS s t := by
  unfold ceilS
  simp (disch := omega) only [sU_ne]
theorem canB_c {c i t : Nat} {d : Int32} (hf : f < 3 ∨ (19 < f ∧ f < 1000)) : canB (sU s f j x) c i t d = canB s c i t d := by
  funext k
  unfold canB
  simp (disch := omega) only [whyS_c]
theorem mateB_c {c : Nat} (hf : f < 3 ∨ 6 < f) : mateB (sU s f j x) c = mateB s c := by
  funext k
  funext i
  unfold mateB
  simp (disch := omega) only [sU_ne, ovS_c]
theorem InvN_c {cO cF cI : Nat} (hf : f ≠ 1 ∧ f ≠ 2 ∧ f ≠ 7 ∧ f ≠ 11) (h : InvN cO cF cI s) : InvN cO cF cI (sU s f j x) := by
  unfold InvN at *
  simp (disch := omega) only [sU_ne]
  exact h
theorem ExI_c {cO cF cI : Nat} (hf : f ≠ 9 ∧ f < 110) (h : ExI cO cF cI s) : ExI cO cF cI (sU s f j x) := by
  unfold ExI at *
  simp (disch := omega) only [sU_ne, accS_c]
  exact h
theorem InvO_c {cO : Nat} (hf : f ≠ 4 ∧ f ≠ 6) (h : InvO cO s) : InvO cO (sU s f j x) := by
  unfold InvO at *
  simp (disch := omega) only [sU_ne]
  exact h
theorem unb_c {t : Nat} (hf : f < 22 ∨ (32 < f ∧ f ≠ 50 ∧ f ≠ 51)) (h : unb s t) : unb (sU s f j x) t := by
  unfold unb at *
  simp (disch := omega) only [sU_ne]
  exact h
theorem oneT_c {cO t : Nat} (hf : f ≠ 1 ∧ (f < 22 ∨ f = 25 ∨ f = 31 ∨ (32 < f ∧ f < 1000))) (h : oneT cO s t) : oneT cO (sU s f j x) t := oneT_of (by rw [sU_ne (by omega)]) (by rw [sU_ne (by omega)]) (by rw [sU_ne (by omega)]) (by rw [sU_ne (by omega)]) (by rw [sU_ne (by omega)]) (by rw [sU_ne (by omega)]) (by rw [sU_ne (by omega)]) (by rw [sU_ne (by omega)]) (fun i => by rw [sU_ne (by omega)]) h
theorem InvT_c {cO cF : Nat} (hf : f ≠ 1 ∧ f ≠ 9 ∧ (f < 22 ∨ (32 < f ∧ f ≠ 50 ∧ f ≠ 51 ∧ f < 1000))) (h : InvT cO cF s) : InvT cO cF (sU s f j x) := fun t ht => by
  rw [accS_c (by omega)]
  exact ⟨fun q => unb_c (by omega) ((h t ht).1 q), fun q => oneT_c (by omega) ((h t ht).2 q)⟩
end CONG
theorem oneT_cong {cO : Nat} {a b : hσ} {t : Nat} (h1 : a 1 0 = b 1 0) (h : ∀ f, 22 ≤ f ∧ f ≤ 32 → a f t = b f t) (h2 : ∀ j, a (1001 + 2 * t) j = b (1001 + 2 * t) j) (q : oneT cO b t) : oneT cO a t := oneT_of h1 (h 22 (by omega)) (h 23 (by omega)) (h 26 (by omega)) (h 27 (by omega)) (h 28 (by omega)) (h 30 (by omega)) (h 32 (by omega)) h2 q
theorem unb_cong {a b : hσ} {t : Nat} (h : ∀ f, (22 ≤ f ∧ f ≤ 32) ∨ f = 50 ∨ f = 51 → a f t = b f t) (q : unb b t) : unb a t := by
  unfold unb at *
  rw [h 22 (by omega), h 23 (by omega), h 25 (by omega), h 26 (by omega), h 27 (by omega), h 28 (by omega), h 30 (by omega), h 31 (by omega), h 32 (by omega), h 50 (by omega), h 51 (by omega)]
  exact q
/-- one accused alone is touched -/
theorem InvT_at {cO cF : Nat} {σ σ' : hσ} {t : Nat} (h : InvT cO cF σ) (ha : accS σ cF t = true) (hacc : ∀ t', accS σ' cF t' = accS σ cF t') (hday : σ' 1 0 = σ 1 0) (hoff : ∀ t' f, t' ≠ t → (22 ≤ f ∧ f ≤ 32) ∨ f = 50 ∨ f = 51 → σ' f t' = σ f t') (han : ∀ t' j, t' ≠ t → σ' (1001 + 2 * t') j = σ (1001 + 2 * t') j) (hone : oneT cO σ' t) : InvT cO cF σ' := by
  intro t' ht'
  by_cases e : t' = t
  · subst e
    refine ⟨fun q => ?_, fun _ => hone⟩
    rw [hacc, ha] at q
    cases q
  · obtain ⟨q1, q2⟩ := h t' ht'
    rw [hacc]
    exact ⟨fun q => unb_cong (fun f hf => hoff t' f e hf) (q1 q), fun q => oneT_cong hday (fun f hf => hoff t' f e (Or.inl hf)) (fun j => han t' j e) (q2 q)⟩
section INV
variable {σ : hσ} {cO cF cI : Nat}
theorem Inv.hS (I : Inv cO cF cI σ) : ∀ a b, a < cO → b < cO → hb (σ 6 a) (nI b) = hb (σ 6 b) (nI a) := I.2.2.1.2.1
theorem Inv.hG (I : Inv cO cF cI σ) : ∃ g : Nat → Nat, (∀ k, k < cO → 1 ≤ g k ∧ g k ≤ 9 ∧ σ 4 k = nI (g k)) ∧ ∀ n, heavS σ cO (nI n) = nI (hv g cO n) ∧ hv g cO n < 1000 := by
  have hx : ∀ k, ∃ g, k < cO → 1 ≤ g ∧ g ≤ 9 ∧ σ 4 k = nI g := fun k => by
    by_cases hk : k < cO
    · obtain ⟨g, hg⟩ := I.2.2.1.1 k hk
      exact ⟨g, fun _ => hg⟩
    · exact ⟨0, fun q => absurd q hk⟩
  obtain ⟨g, hg⟩ := Classical.axiomOfChoice hx
  exact ⟨g, hg, fun n => ⟨hv_eq (fun k hk => (hg k hk).2.2) n, hv_lt (fun k hk => (hg k hk).2.1) n⟩⟩
theorem acc48 (I : Inv cO cF cI σ) {t : Nat} (h : accS σ cF t = true) : t < 48 := by
  have h1 := accS_f h
  have h2 := I.1.2.2.2.1
  omega
theorem Inv.one (I : Inv cO cF cI σ) {t : Nat} (h : accS σ cF t = true) : oneT cO σ t := (I.2.2.2 t (acc48 I h)).2 h
end INV
/-! what a call leaves behind, as later calls show it -/
def Evo (cO cF cI cO' cF' cI' : Nat) (s s' : hσ) : Prop :=
  (cO ≤ cO' ∧ cF ≤ cF' ∧ cI ≤ cI') ∧
  (∀ t, accS s cF t = true → accS s' cF' t = true) ∧
  (∀ t, t < 48 → accS s cF t = false → accS s' cF' t = true → s' 22 t = 0) ∧
  (∀ k, k < 6 → ∃ c, c ≤ 64 ∧ s' 37 k = s 37 k + nI c) ∧
  (∀ t d, accS s cF t = true → d < s 1 0 → (∀ e, strS s' cI' t e d = strS s cI t e d) ∧ (cO' = cO → ∀ k, k < cO → whyS s' cO' cI' t k d = whyS s cO cI t k d)) ∧
  (∀ t, t < 48 → accS s cF t = true → (∀ k, k < cO → spS s cO t k (s 1 0) = true → spS s' cO' t k (s' 1 0) = true) ∧ (∀ j, j < 32 → bt (s 32 t) j = true → bt (s' 32 t) j = true) ∧ (∃ e e', s 27 t = nI e ∧ s' 27 t = nI e' ∧ e ≤ e' ∧ e' ≤ 10) ∧ (s' 22 t = s 22 t → s 22 t ≠ 0 → s' 27 t = s 27 t)) ∧
  s 1 0 ≤ s' 1 0
theorem oneT.d27 {cO t : Nat} {s : hσ} (h : oneT cO s t) : ∃ e, s 27 t = nI e ∧ e ≤ 10 := by
  obtain ⟨-, -, -, -, -, -, -, ⟨e, m, h1, h2, h3, h4⟩, -⟩ := h
  exact ⟨e, h1, by omega⟩
theorem Evo.rf {cO cF cI : Nat} {s : hσ} (I : Inv cO cF cI s) : Evo cO cF cI cO cF cI s s := by
  refine ⟨⟨Nat.le_refl _, Nat.le_refl _, Nat.le_refl _⟩, fun t h => h, fun t _ h1 h2 => ?_, fun k _ => ⟨0, by omega, by rw [nI_0, Int32.add_zero]⟩, fun t d _ _ => ⟨fun _ => rfl, fun _ _ _ => rfl⟩, fun t ht ha => ⟨fun _ _ h => h, fun _ _ h => h, ?_, fun _ _ => rfl⟩, Int32.le_refl _⟩
  · rw [h1] at h2
    cases h2
  · obtain ⟨e, h1, h2⟩ := (I.one ha).d27
    exact ⟨e, e, h1, h1, Nat.le_refl _, h2⟩
/-- what is known of days that are over by what it is made of -/
theorem Evo.mk' {cO cF cI cI' : Nat} {s s' : hσ} (hcI : cI ≤ cI') (hdy : s 1 0 ≤ s' 1 0) (h : ∀ f i, f = 3 ∨ f = 4 ∨ f = 5 ∨ f = 8 ∨ f = 9 ∨ f = 10 → s' f i = s f i) (hc : ∀ k, k < 6 → ∃ c, c ≤ 64 ∧ s' 37 k = s 37 k + nI c) (hstr : ∀ t e d, d < s 1 0 → strS s' cI' t e d = strS s cI t e d) (hsp : ∀ t k d, d < s 1 0 → spS s' cO t k d = spS s cO t k d) (hspg : ∀ t k, t < 48 → accS s cF t = true → spS s cO t k (s 1 0) = true → spS s' cO t k (s' 1 0) = true) (h32 : ∀ t, t < 48 → accS s cF t = true → ∀ j, j < 32 → bt (s 32 t) j = true → bt (s' 32 t) j = true) (h27 : ∀ t, t < 48 → accS s cF t = true → (∃ e e', s 27 t = nI e ∧ s' 27 t = nI e' ∧ e ≤ e' ∧ e' ≤ 10) ∧ (s' 22 t = s 22 t → s 22 t ≠ 0 → s' 27 t = s 27 t)) : Evo cO cF cI cO cF cI' s s' := by
  have e9 : s' 9 = s 9 := funext fun i => h 9 i (by omega)
  have acc : ∀ t, accS s' cF t = accS s cF t := fun t => by
    unfold accS
    rw [e9]
  refine ⟨⟨Nat.le_refl _, Nat.le_refl _, hcI⟩, fun t q => by rw [acc]; exact q, fun t _ h1 h2 => ?_, hc, fun t d _ hd => ⟨fun e => hstr t e d hd, fun _ k _ => ?_⟩, fun t ht ha => ⟨fun k _ q => hspg t k ht ha q, h32 t ht ha, (h27 t ht ha).1, (h27 t ht ha).2⟩, hdy⟩
  · rw [acc, h1] at h2
    cases h2
  · unfold whyS strgS
    rw [hsp t k d hd, h 8 _ (by omega), h 5 _ (by omega), h 4 _ (by omega), h 10 _ (by omega), h 3 k (by omega)]
    have e : (fun e => !hb (s 3 k) (nI e) || decide (5 ≤ strS s' cI' t (nI e) d)) = fun e => !hb (s 3 k) (nI e) || decide (5 ≤ strS s cI t (nI e) d) := funext fun e => by rw [hstr t (nI e) d hd]
    rw [e]
/-- nothing that is known of days that are over, of what is spent, of days in custody is touched -/
theorem Evo.quiet {cO cF cI : Nat} {s s' : hσ} (I : Inv cO cF cI s) (h : ∀ f i, f ≤ 5 ∨ (7 ≤ f ∧ f ≤ 19) ∨ f = 27 ∨ f = 32 ∨ 1000 ≤ f → s' f i = s f i) (hc : ∀ k, k < 6 → ∃ c, c ≤ 64 ∧ s' 37 k = s 37 k + nI c) : Evo cO cF cI cO cF cI s s' := by
  have sp : ∀ t k d, spS s' cO t k d = spS s cO t k d := fun t k d => by
    unfold spS ovS hadS
    rw [show s' 3 = s 3 from funext fun i => h 3 i (by omega), show s' (1001 + 2 * t) = s (1001 + 2 * t) from funext fun i => h (1001 + 2 * t) i (by omega)]
  refine Evo.mk' (Nat.le_refl _) (by rw [h 1 0 (by omega)]; exact Int32.le_refl _) (fun f i hf => h f i (by omega)) hc (fun t e d _ => ?_) (fun t k d _ => sp t k d) (fun t k _ _ q => by rw [sp, h 1 0 (by omega)]; exact q) (fun t _ _ j _ q => by rw [h 32 t (by omega)]; exact q) (fun t ht ha => ⟨?_, fun _ _ => h 27 t (by omega)⟩)
  · unfold strS stG
    rw [show s' 12 = s 12 from funext fun i => h 12 i (by omega), show s' 13 = s 13 from funext fun i => h 13 i (by omega), show s' 14 = s 14 from funext fun i => h 14 i (by omega), show s' 15 = s 15 from funext fun i => h 15 i (by omega), show s' 16 = s 16 from funext fun i => h 16 i (by omega), show s' 18 = s 18 from funext fun i => h 18 i (by omega), show s' 19 = s 19 from funext fun i => h 19 i (by omega)]
  · obtain ⟨e, h1, h2⟩ := (I.one ha).d27
    exact ⟨e, e, h1, by rw [h 27 t (by omega)]; exact h1, Nat.le_refl _, h2⟩
theorem cnt_same {s s' : hσ} (h : ∀ k, s' 37 k = s 37 k) : ∀ k, k < 6 → ∃ c, c ≤ 64 ∧ s' 37 k = s 37 k + nI c := fun k _ => ⟨0, by omega, by rw [h k, nI_0, Int32.add_zero]⟩
theorem cnt_one {s : hσ} {j c : Nat} (hc : c ≤ 64) : ∀ k, k < 6 → ∃ c', c' ≤ 64 ∧ sU s 37 j (s 37 j + nI c) 37 k = s 37 k + nI c' := fun k _ => by
  by_cases e : k = j
  · subst e
    exact ⟨c, hc, sU_eq _ _ _ _⟩
  · exact ⟨0, by omega, by rw [sU_nj e, nI_0, Int32.add_zero]⟩
