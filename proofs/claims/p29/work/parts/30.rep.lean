/-! ===== the heap by tags ===== -/
abbrev hσ : Type := Nat → Nat → Int32
abbrev hAd : Type := Nat → Nat → Nat
def sU (s : hσ) (f j : Nat) (x : Int32) : hσ := fun f' j' => if f' = f ∧ j' = j then x else s f' j'
theorem sU_eq (s : hσ) (f j : Nat) (x : Int32) : sU s f j x f j = x := if_pos ⟨rfl, rfl⟩
theorem sU_ne {s : hσ} {f j f' j' : Nat} {x : Int32} (h : f' ≠ f) : sU s f j x f' j' = s f' j' := if_neg fun q => h q.1
theorem sU_nj {s : hσ} {f j f' j' : Nat} {x : Int32} (h : j' ≠ j) : sU s f j x f' j' = s f' j' := if_neg fun q => h q.2
theorem sU_off {s : hσ} {f j f' j' : Nat} {x : Int32} (h : ¬ (f' = f ∧ j' = j)) : sU s f j x f' j' = s f' j' := if_neg h
def aU (A : hAd) (i j q : Nat) : hAd := fun i' j' => if i' = i ∧ j' = j then q else A i' j'
theorem aU_eq (A : hAd) (i j q : Nat) : aU A i j q i j = q := if_pos ⟨rfl, rfl⟩
theorem aU_off {A : hAd} {i j q i' j' : Nat} (h : ¬ (i' = i ∧ j' = j)) : aU A i j q i' j' = A i' j' := if_neg h
def RepC (M : hM) (A : hAd) (C : Nat → Nat → Option hE) : Prop := (∀ (i j : Nat) (x : hE), C i j = some x → M (A i j) = some x) ∧ ∀ i j i' j' : Nat, C i j ≠ none → C i' j' ≠ none → A i j = A i' j' → i = i' ∧ j = j'
theorem RepC.put {M : hM} {A : hAd} {C C' : Nat → Nat → Option hE} {i j : Nat} {x y : hE} (h : RepC M A C) (hc : C i j = some x) (h1 : C' i j = some y) (h2 : ∀ i' j', ¬ (i' = i ∧ j' = j) → C' i' j' = C i' j') : RepC (hst M (A i j) y) A C' := by
  have k : ∀ a b, C' a b ≠ none → C a b ≠ none := fun a b n => by
    by_cases e : a = i ∧ b = j
    · obtain ⟨rfl, rfl⟩ := e
      rw [hc]
      exact fun q => by cases q
    · rwa [← h2 _ _ e]
  refine ⟨fun i' j' z hz => ?_, fun a b a' b' n n' e => h.2 _ _ _ _ (k _ _ n) (k _ _ n') e⟩
  by_cases e : i' = i ∧ j' = j
  · obtain ⟨rfl, rfl⟩ := e
    rw [h1] at hz
    cases hz
    exact hst_s _ _ _
  · rw [h2 _ _ e] at hz
    have hne : A i' j' ≠ A i j := fun q => e (h.2 _ _ _ _ (by rw [hz]; exact fun q => by cases q) (by rw [hc]; exact fun q => by cases q) q)
    rw [hst_n _ _ hne]
    exact h.1 _ _ _ hz
theorem RepC.new {M : hM} {A : hAd} {C C' : Nat → Nat → Option hE} {i j q : Nat} {y : hE} (h : RepC M A C) (hq : M q = none) (h1 : C' i j = some y) (h2 : ∀ i' j', ¬ (i' = i ∧ j' = j) → C' i' j' = C i' j') : RepC (hst M q y) (aU A i j q) C' := by
  have k : ∀ a b, ¬ (a = i ∧ b = j) → C' a b ≠ none → A a b ≠ q := fun a b e n z => by
    rw [h2 _ _ e] at n
    cases hc : C a b with
    | none => exact n hc
    | some x =>
      have := h.1 _ _ _ hc
      rw [z, hq] at this
      cases this
  refine ⟨fun i' j' z hz => ?_, fun a b a' b' n n' e => ?_⟩
  · by_cases e : i' = i ∧ j' = j
    · obtain ⟨rfl, rfl⟩ := e
      rw [h1] at hz
      cases hz
      rw [aU_eq]
      exact hst_s _ _ _
    · have hne := k _ _ e (by rw [hz]; exact fun q => by cases q)
      rw [h2 _ _ e] at hz
      rw [aU_off e, hst_n _ _ hne]
      exact h.1 _ _ _ hz
  · by_cases e1 : a = i ∧ b = j
    · by_cases e2 : a' = i ∧ b' = j
      · exact ⟨e1.1.trans e2.1.symm, e1.2.trans e2.2.symm⟩
      · rw [aU_off e2] at e
        obtain ⟨rfl, rfl⟩ := e1
        rw [aU_eq] at e
        exact absurd e.symm (k _ _ e2 n')
    · by_cases e2 : a' = i ∧ b' = j
      · rw [aU_off e1] at e
        obtain ⟨rfl, rfl⟩ := e2
        rw [aU_eq] at e
        exact absurd e (k _ _ e1 n)
      · rw [aU_off e1, aU_off e2] at e
        rw [h2 _ _ e1] at n
        rw [h2 _ _ e2] at n'
        exact h.2 _ _ _ _ n n' e
theorem RepC.cong {M : hM} {A : hAd} {C C' : Nat → Nat → Option hE} (h : RepC M A C) (e : ∀ i j, C' i j = C i j) : RepC M A C' := ⟨fun i j x hx => h.1 i j x (by rw [← e]; exact hx), fun i j i' j' n n' => h.2 i j i' j' (by rw [← e]; exact n) (by rw [← e]; exact n')⟩
def c0 (A : hAd) (s : hσ) : hE := .inr (4, [.ref (A 1 0), .ref (A 2 0), .ref (A 3 0), .int (s 2 0), .int (s 7 0), .int (s 11 0), .int (s 1 0), .int (s 37 0), .int (s 37 1), .int (s 37 2), .int (s 37 3), .int (s 37 4), .int (s 37 5)])
def c1 (A : hAd) (s : hσ) : hE := .inl (3, 8, .inr (.inr (.inr (.inr (fun k => if s 114 k = 1 then some (A 4 k) else none)))))
def c2 (A : hAd) (s : hσ) : hE := .inl (4, 6, .inr (.inr (.inr (.inr (fun k => if s 115 k = 1 then some (A 5 k) else none)))))
def c3 (A : hAd) (s : hσ) : hE := .inl (5, 40, .inr (.inr (.inr (.inr (fun k => if s 116 k = 1 then some (A 9 k) else none)))))
def c4 (s : hσ) (j : Nat) : hE := .inr (3, [.int (s 3 j), .int (s 4 j), .int (s 5 j), .int (s 6 j)])
def c5 (A : hAd) (s : hσ) (j : Nat) : hE := .inr (1, [.int (nI j), .int (s 8 j), .int (s 9 j), .int (s 10 j), .ref (A 6 j)])
def c6 (A : hAd) (s : hσ) (j : Nat) : hE := .inl (6, 8, .inr (.inr (.inr (.inr (fun k => if s (1000 + 2 * j) k = 1 then some (A 7 (8 * j + k)) else none)))))
def c7 (A : hAd) (s : hσ) (j : Nat) : hE := .inr (0, [.ref (A 5 (j / 8)), .int (nI (j % 8)), .int (s 22 j), .int (s 23 j), .int (s 50 j), .int (s 51 j), .int (s 25 j), .int (s 26 j), .int (s 27 j), .int (s 28 j), .int (s 30 j), .int (s 31 j), .int (s 32 j), .ref (A 8 j)])
def c8 (s : hσ) (j : Nat) : hE := .inl (0, 8, .inl (s (1001 + 2 * j)))
def c9 (s : hσ) (j : Nat) : hE := .inr (2, [.int (s 12 j), .int (s 13 j), .int (s 14 j), .int (s 15 j), .int (s 16 j), .int (s 17 j), .int (s 18 j), .int (s 19 j), .int (s 20 j), .int (s 21 j)])
def mA (f : Nat) : Option (Nat × Nat) := match f with
  | 12 => some (0, 3)
  | 13 => some (0, 6)
  | 14 => some (0, 48)
  | 15 => some (0, 6)
  | _ => none
def cc (A : hAd) (s τ : hσ) (i j : Nat) : Option hE := match i with
  | 0 => if j = 0 then some (c0 A s) else none
  | 1 => if j = 0 then some (c1 A s) else none
  | 2 => if j = 0 then some (c2 A s) else none
  | 3 => if j = 0 then some (c3 A s) else none
  | 4 => if s 110 j = 1 then some (c4 s j) else none
  | 5 => if s 111 j = 1 then some (c5 A s j) else none
  | 6 => if s 118 j = 1 then some (c6 A s j) else none
  | 7 => if s 112 j = 1 then some (c7 A s j) else none
  | 8 => if s 119 j = 1 then some (c8 s j) else none
  | 9 => if s 113 j = 1 then some (c9 s j) else none
  | 11 => (mA j).map fun p => .inl (p.1, p.2, .inl (τ j))
  | _ => none
abbrev Rep (M : hM) (A : hAd) (s τ : hσ) : Prop := RepC M A (cc A s τ)
def tch (i j f k : Nat) : Prop := match i with
  | 0 => j = 0 ∧ (f = 1 ∨ f = 2 ∨ f = 7 ∨ f = 11 ∨ f = 37)
  | 1 => j = 0 ∧ f = 114
  | 2 => j = 0 ∧ f = 115
  | 3 => j = 0 ∧ f = 116
  | 4 => k = j ∧ (f = 3 ∨ f = 4 ∨ f = 5 ∨ f = 6 ∨ f = 110)
  | 5 => k = j ∧ (f = 8 ∨ f = 9 ∨ f = 10 ∨ f = 111)
  | 6 => (k = j ∧ f = 118) ∨ f = 1000 + 2 * j
  | 7 => k = j ∧ (f = 22 ∨ f = 23 ∨ f = 50 ∨ f = 51 ∨ f = 25 ∨ f = 26 ∨ f = 27 ∨ f = 28 ∨ f = 30 ∨ f = 31 ∨ f = 32 ∨ f = 112)
  | 8 => (k = j ∧ f = 119) ∨ f = 1001 + 2 * j
  | 9 => k = j ∧ (f = 12 ∨ f = 13 ∨ f = 14 ∨ f = 15 ∨ f = 16 ∨ f = 17 ∨ f = 18 ∨ f = 19 ∨ f = 20 ∨ f = 21 ∨ f = 113)
  | _ => False
def tcm (i j f k : Nat) : Prop := match i with
  | 11 => f = j ∧ mA j ≠ none
  | _ => False
def rfs (s : hσ) (i j a b : Nat) : Prop := match i with
  | 0 => (a = 1 ∨ a = 2 ∨ a = 3) ∧ b = 0
  | 1 => a = 4 ∧ s 114 b = 1
  | 2 => a = 5 ∧ s 115 b = 1
  | 3 => a = 9 ∧ s 116 b = 1
  | 5 => a = 6 ∧ b = j
  | 6 => a = 7 ∧ ∃ p, b = 8 * j + p ∧ s (1000 + 2 * j) p = 1
  | 7 => (a = 5 ∧ b = j / 8) ∨ (a = 8 ∧ b = j)
  | _ => False
theorem cc_loc {A A' : hAd} {s s' τ τ' : hσ} (i j : Nat) (h : ∀ f k, tch i j f k → s' f k = s f k) (h2 : ∀ f k, tcm i j f k → τ' f k = τ f k) (hA : cc A s τ i j ≠ none → ∀ a b, rfs s i j a b → A' a b = A a b) : cc A' s' τ' i j = cc A s τ i j :=
  match i, h, h2, hA with
  | 0, h, h2, hA => by
    show (if j = 0 then some (c0 A' s') else none) = if j = 0 then some (c0 A s) else none
    by_cases e : j = 0
    · have n : cc A s τ 0 j ≠ none := by
        show (if j = 0 then some (c0 A s) else none) ≠ none
        rw [if_pos e]
        exact fun q => by cases q
      rw [if_pos e, if_pos e]
      unfold c0
      rw [hA n 1 0 ⟨Or.inl rfl, rfl⟩, hA n 2 0 ⟨Or.inr (Or.inl rfl), rfl⟩, hA n 3 0 ⟨Or.inr (Or.inr rfl), rfl⟩, h 2 0 ⟨e, (Or.inr (Or.inl rfl))⟩, h 7 0 ⟨e, (Or.inr (Or.inr (Or.inl rfl)))⟩, h 11 0 ⟨e, (Or.inr (Or.inr (Or.inr (Or.inl rfl))))⟩, h 1 0 ⟨e, (Or.inl rfl)⟩, h 37 0 ⟨e, (Or.inr (Or.inr (Or.inr (Or.inr (rfl)))))⟩, h 37 1 ⟨e, (Or.inr (Or.inr (Or.inr (Or.inr (rfl)))))⟩, h 37 2 ⟨e, (Or.inr (Or.inr (Or.inr (Or.inr (rfl)))))⟩, h 37 3 ⟨e, (Or.inr (Or.inr (Or.inr (Or.inr (rfl)))))⟩, h 37 4 ⟨e, (Or.inr (Or.inr (Or.inr (Or.inr (rfl)))))⟩, h 37 5 ⟨e, (Or.inr (Or.inr (Or.inr (Or.inr (rfl)))))⟩]
    · rw [if_neg e, if_neg e]
  | 1, h, h2, hA => by
    show (if j = 0 then some (c1 A' s') else none) = if j = 0 then some (c1 A s) else none
    by_cases e : j = 0
    · have n : cc A s τ 1 j ≠ none := by
        show (if j = 0 then some (c1 A s) else none) ≠ none
        rw [if_pos e]
        exact fun q => by cases q
      have g : (fun k => if s' 114 k = 1 then some (A' 4 k) else none) = fun k => if s 114 k = 1 then some (A 4 k) else none := funext fun k => by
        rw [h 114 k ⟨e, rfl⟩]
        by_cases z : s 114 k = 1
        · rw [if_pos z, if_pos z, hA n 4 k ⟨rfl, z⟩]
        · rw [if_neg z, if_neg z]
      rw [if_pos e, if_pos e]
      unfold c1
      rw [g]
    · rw [if_neg e, if_neg e]
  | 2, h, h2, hA => by
    show (if j = 0 then some (c2 A' s') else none) = if j = 0 then some (c2 A s) else none
    by_cases e : j = 0
    · have n : cc A s τ 2 j ≠ none := by
        show (if j = 0 then some (c2 A s) else none) ≠ none
        rw [if_pos e]
        exact fun q => by cases q
      have g : (fun k => if s' 115 k = 1 then some (A' 5 k) else none) = fun k => if s 115 k = 1 then some (A 5 k) else none := funext fun k => by
        rw [h 115 k ⟨e, rfl⟩]
        by_cases z : s 115 k = 1
        · rw [if_pos z, if_pos z, hA n 5 k ⟨rfl, z⟩]
        · rw [if_neg z, if_neg z]
      rw [if_pos e, if_pos e]
      unfold c2
      rw [g]
    · rw [if_neg e, if_neg e]
  | 3, h, h2, hA => by
    show (if j = 0 then some (c3 A' s') else none) = if j = 0 then some (c3 A s) else none
    by_cases e : j = 0
    · have n : cc A s τ 3 j ≠ none := by
        show (if j = 0 then some (c3 A s) else none) ≠ none
        rw [if_pos e]
        exact fun q => by cases q
      have g : (fun k => if s' 116 k = 1 then some (A' 9 k) else none) = fun k => if s 116 k = 1 then some (A 9 k) else none := funext fun k => by
        rw [h 116 k ⟨e, rfl⟩]
        by_cases z : s 116 k = 1
        · rw [if_pos z, if_pos z, hA n 9 k ⟨rfl, z⟩]
        · rw [if_neg z, if_neg z]
      rw [if_pos e, if_pos e]
      unfold c3
      rw [g]
    · rw [if_neg e, if_neg e]
  | 4, h, h2, hA => by
    show (if s' 110 j = 1 then some (c4 s' j) else none) = if s 110 j = 1 then some (c4 s j) else none
    rw [h 110 j ⟨rfl, (Or.inr (Or.inr (Or.inr (Or.inr (rfl)))))⟩]
    by_cases e : s 110 j = 1
    · have n : cc A s τ 4 j ≠ none := by
        show (if s 110 j = 1 then some (c4 s j) else none) ≠ none
        rw [if_pos e]
        exact fun q => by cases q
      rw [if_pos e, if_pos e]
      unfold c4
      rw [h 3 j ⟨rfl, (Or.inl rfl)⟩, h 4 j ⟨rfl, (Or.inr (Or.inl rfl))⟩, h 5 j ⟨rfl, (Or.inr (Or.inr (Or.inl rfl)))⟩, h 6 j ⟨rfl, (Or.inr (Or.inr (Or.inr (Or.inl rfl))))⟩]
    · rw [if_neg e, if_neg e]
  | 5, h, h2, hA => by
    show (if s' 111 j = 1 then some (c5 A' s' j) else none) = if s 111 j = 1 then some (c5 A s j) else none
    rw [h 111 j ⟨rfl, (Or.inr (Or.inr (Or.inr (rfl))))⟩]
    by_cases e : s 111 j = 1
    · have n : cc A s τ 5 j ≠ none := by
        show (if s 111 j = 1 then some (c5 A s j) else none) ≠ none
        rw [if_pos e]
        exact fun q => by cases q
      rw [if_pos e, if_pos e]
      unfold c5
      rw [h 8 j ⟨rfl, (Or.inl rfl)⟩, h 9 j ⟨rfl, (Or.inr (Or.inl rfl))⟩, h 10 j ⟨rfl, (Or.inr (Or.inr (Or.inl rfl)))⟩, hA n 6 j ⟨rfl, rfl⟩]
    · rw [if_neg e, if_neg e]
  | 6, h, h2, hA => by
    show (if s' 118 j = 1 then some (c6 A' s' j) else none) = if s 118 j = 1 then some (c6 A s j) else none
    rw [h 118 j (Or.inl ⟨rfl, rfl⟩)]
    by_cases e : s 118 j = 1
    · have n : cc A s τ 6 j ≠ none := by
        show (if s 118 j = 1 then some (c6 A s j) else none) ≠ none
        rw [if_pos e]
        exact fun q => by cases q
      rw [if_pos e, if_pos e]
      unfold c6
      have g : (fun k => if s' (1000 + 2 * j) k = 1 then some (A' 7 (8 * j + k)) else none) = fun k => if s (1000 + 2 * j) k = 1 then some (A 7 (8 * j + k)) else none := funext fun k => by
        rw [h (1000 + 2 * j) k (Or.inr rfl)]
        by_cases z : s (1000 + 2 * j) k = 1
        · rw [if_pos z, if_pos z, hA n 7 (8 * j + k) ⟨rfl, k, rfl, z⟩]
        · rw [if_neg z, if_neg z]
      rw [g]
    · rw [if_neg e, if_neg e]
  | 7, h, h2, hA => by
    show (if s' 112 j = 1 then some (c7 A' s' j) else none) = if s 112 j = 1 then some (c7 A s j) else none
    rw [h 112 j ⟨rfl, (Or.inr (Or.inr (Or.inr (Or.inr (Or.inr (Or.inr (Or.inr (Or.inr (Or.inr (Or.inr (Or.inr (rfl))))))))))))⟩]
    by_cases e : s 112 j = 1
    · have n : cc A s τ 7 j ≠ none := by
        show (if s 112 j = 1 then some (c7 A s j) else none) ≠ none
        rw [if_pos e]
        exact fun q => by cases q
      rw [if_pos e, if_pos e]
      unfold c7
      rw [hA n 5 (j / 8) (Or.inl ⟨rfl, rfl⟩), hA n 8 j (Or.inr ⟨rfl, rfl⟩), h 22 j ⟨rfl, (Or.inl rfl)⟩, h 23 j ⟨rfl, (Or.inr (Or.inl rfl))⟩, h 50 j ⟨rfl, (Or.inr (Or.inr (Or.inl rfl)))⟩, h 51 j ⟨rfl, (Or.inr (Or.inr (Or.inr (Or.inl rfl))))⟩, h 25 j ⟨rfl, (Or.inr (Or.inr (Or.inr (Or.inr (Or.inl rfl)))))⟩, h 26 j ⟨rfl, (Or.inr (Or.inr (Or.inr (Or.inr (Or.inr (Or.inl rfl))))))⟩, h 27 j ⟨rfl, (Or.inr (Or.inr (Or.inr (Or.inr (Or.inr (Or.inr (Or.inl rfl)))))))⟩, h 28 j ⟨rfl, (Or.inr (Or.inr (Or.inr (Or.inr (Or.inr (Or.inr (Or.inr (Or.inl rfl))))))))⟩, h 30 j ⟨rfl, (Or.inr (Or.inr (Or.inr (Or.inr (Or.inr (Or.inr (Or.inr (Or.inr (Or.inl rfl)))))))))⟩, h 31 j ⟨rfl, (Or.inr (Or.inr (Or.inr (Or.inr (Or.inr (Or.inr (Or.inr (Or.inr (Or.inr (Or.inl rfl))))))))))⟩, h 32 j ⟨rfl, (Or.inr (Or.inr (Or.inr (Or.inr (Or.inr (Or.inr (Or.inr (Or.inr (Or.inr (Or.inr (Or.inl rfl)))))))))))⟩]
    · rw [if_neg e, if_neg e]
  | 8, h, h2, hA => by
    show (if s' 119 j = 1 then some (c8 s' j) else none) = if s 119 j = 1 then some (c8 s j) else none
    rw [h 119 j (Or.inl ⟨rfl, rfl⟩)]
    by_cases e : s 119 j = 1
    · have n : cc A s τ 8 j ≠ none := by
        show (if s 119 j = 1 then some (c8 s j) else none) ≠ none
        rw [if_pos e]
        exact fun q => by cases q
      rw [if_pos e, if_pos e]
      unfold c8
      have g : s' (1001 + 2 * j) = s (1001 + 2 * j) := funext fun k => h (1001 + 2 * j) k (Or.inr rfl)
      rw [g]
    · rw [if_neg e, if_neg e]
  | 9, h, h2, hA => by
    show (if s' 113 j = 1 then some (c9 s' j) else none) = if s 113 j = 1 then some (c9 s j) else none
    rw [h 113 j ⟨rfl, (Or.inr (Or.inr (Or.inr (Or.inr (Or.inr (Or.inr (Or.inr (Or.inr (Or.inr (Or.inr (rfl)))))))))))⟩]
    by_cases e : s 113 j = 1
    · have n : cc A s τ 9 j ≠ none := by
        show (if s 113 j = 1 then some (c9 s j) else none) ≠ none
        rw [if_pos e]
        exact fun q => by cases q
      rw [if_pos e, if_pos e]
      unfold c9
      rw [h 12 j ⟨rfl, (Or.inl rfl)⟩, h 13 j ⟨rfl, (Or.inr (Or.inl rfl))⟩, h 14 j ⟨rfl, (Or.inr (Or.inr (Or.inl rfl)))⟩, h 15 j ⟨rfl, (Or.inr (Or.inr (Or.inr (Or.inl rfl))))⟩, h 16 j ⟨rfl, (Or.inr (Or.inr (Or.inr (Or.inr (Or.inl rfl)))))⟩, h 17 j ⟨rfl, (Or.inr (Or.inr (Or.inr (Or.inr (Or.inr (Or.inl rfl))))))⟩, h 18 j ⟨rfl, (Or.inr (Or.inr (Or.inr (Or.inr (Or.inr (Or.inr (Or.inl rfl)))))))⟩, h 19 j ⟨rfl, (Or.inr (Or.inr (Or.inr (Or.inr (Or.inr (Or.inr (Or.inr (Or.inl rfl))))))))⟩, h 20 j ⟨rfl, (Or.inr (Or.inr (Or.inr (Or.inr (Or.inr (Or.inr (Or.inr (Or.inr (Or.inl rfl)))))))))⟩, h 21 j ⟨rfl, (Or.inr (Or.inr (Or.inr (Or.inr (Or.inr (Or.inr (Or.inr (Or.inr (Or.inr (Or.inl rfl))))))))))⟩]
    · rw [if_neg e, if_neg e]
  | 10, h, h2, hA => rfl
  | 11, h, h2, hA => by
    show (mA j).map (fun p => (.inl (p.1, p.2, .inl (τ' j)) : hE)) = (mA j).map fun p => .inl (p.1, p.2, .inl (τ j))
    cases hm : mA j with
    | none => rfl
    | some p => rw [show τ' j = τ j from funext fun k => h2 j k ⟨rfl, by rw [hm]; exact fun q => by cases q⟩]
  | n + 12, h, h2, hA => rfl
theorem cc0p (A : hAd) (s τ : hσ) : cc A s τ 0 0 = some (c0 A s) := (if_pos rfl : (if 0 = 0 then some (c0 A s) else none) = some (c0 A s))
theorem cc1p (A : hAd) (s τ : hσ) : cc A s τ 1 0 = some (c1 A s) := (if_pos rfl : (if 0 = 0 then some (c1 A s) else none) = some (c1 A s))
theorem cc2p (A : hAd) (s τ : hσ) : cc A s τ 2 0 = some (c2 A s) := (if_pos rfl : (if 0 = 0 then some (c2 A s) else none) = some (c2 A s))
theorem cc3p (A : hAd) (s τ : hσ) : cc A s τ 3 0 = some (c3 A s) := (if_pos rfl : (if 0 = 0 then some (c3 A s) else none) = some (c3 A s))
theorem cc4p {A : hAd} {s τ : hσ} {t : Nat} (h : s 110 t = 1) : cc A s τ 4 t = some (c4 s t) := (if_pos h : (if s 110 t = 1 then some (c4 s t) else none) = some (c4 s t))
theorem cc4n {A : hAd} {s τ : hσ} {t : Nat} (h : ¬ s 110 t = 1) : cc A s τ 4 t = none := (if_neg h : (if s 110 t = 1 then some (c4 s t) else none) = none)
theorem cc5p {A : hAd} {s τ : hσ} {t : Nat} (h : s 111 t = 1) : cc A s τ 5 t = some (c5 A s t) := (if_pos h : (if s 111 t = 1 then some (c5 A s t) else none) = some (c5 A s t))
theorem cc5n {A : hAd} {s τ : hσ} {t : Nat} (h : ¬ s 111 t = 1) : cc A s τ 5 t = none := (if_neg h : (if s 111 t = 1 then some (c5 A s t) else none) = none)
theorem cc6p {A : hAd} {s τ : hσ} {t : Nat} (h : s 118 t = 1) : cc A s τ 6 t = some (c6 A s t) := (if_pos h : (if s 118 t = 1 then some (c6 A s t) else none) = some (c6 A s t))
theorem cc6n {A : hAd} {s τ : hσ} {t : Nat} (h : ¬ s 118 t = 1) : cc A s τ 6 t = none := (if_neg h : (if s 118 t = 1 then some (c6 A s t) else none) = none)
theorem cc7p {A : hAd} {s τ : hσ} {t : Nat} (h : s 112 t = 1) : cc A s τ 7 t = some (c7 A s t) := (if_pos h : (if s 112 t = 1 then some (c7 A s t) else none) = some (c7 A s t))
theorem cc7n {A : hAd} {s τ : hσ} {t : Nat} (h : ¬ s 112 t = 1) : cc A s τ 7 t = none := (if_neg h : (if s 112 t = 1 then some (c7 A s t) else none) = none)
theorem cc8p {A : hAd} {s τ : hσ} {t : Nat} (h : s 119 t = 1) : cc A s τ 8 t = some (c8 s t) := (if_pos h : (if s 119 t = 1 then some (c8 s t) else none) = some (c8 s t))
theorem cc8n {A : hAd} {s τ : hσ} {t : Nat} (h : ¬ s 119 t = 1) : cc A s τ 8 t = none := (if_neg h : (if s 119 t = 1 then some (c8 s t) else none) = none)
theorem cc9p {A : hAd} {s τ : hσ} {t : Nat} (h : s 113 t = 1) : cc A s τ 9 t = some (c9 s t) := (if_pos h : (if s 113 t = 1 then some (c9 s t) else none) = some (c9 s t))
theorem cc9n {A : hAd} {s τ : hσ} {t : Nat} (h : ¬ s 113 t = 1) : cc A s τ 9 t = none := (if_neg h : (if s 113 t = 1 then some (c9 s t) else none) = none)
theorem Rep.cong {M : hM} {A : hAd} {s s' τ τ' : hσ} (h : Rep M A s τ) (h1 : ∀ i j f k, tch i j f k → s' f k = s f k) (h2 : ∀ i j f k, tcm i j f k → τ' f k = τ f k) : Rep M A s' τ' := RepC.cong h fun i j => cc_loc i j (h1 i j) (h2 i j) fun _ _ _ _ => rfl
theorem hO_at {M : hM} {a c : Nat} {fs : List Value} (e : M a = some (.inr (c, fs))) : hO M c (some a) = some (a, fs) := by
  unfold hO
  rw [Option.bind_some, e]
  exact if_pos rfl
theorem hC_at {M : hM} {a c : Nat} {fs : List Value} (e : M a = some (.inr (c, fs))) : hC M c (some a) = some a := by
  unfold hC
  rw [hO_at e]
  rfl
theorem gI_at {M : hM} {a c k : Nat} {fs : List Value} {x : Int32} (e : M a = some (.inr (c, fs))) (h : fs[k]? = some (.int x)) : gI M c k (some a) = some x := by
  unfold gI
  rw [hO_at e, Option.bind_some]
  show (fs[k]?).bind hvI = some x
  rw [h]
  rfl
theorem gR_at {M : hM} {a c k q : Nat} {fs : List Value} (e : M a = some (.inr (c, fs))) (h : fs[k]? = some (.ref q)) : gR M c k (some a) = some (some q) := by
  unfold gR
  rw [hO_at e, Option.bind_some]
  show (fs[k]?).bind hvR = some (some q)
  rw [h]
  rfl
theorem pV_at {M : hM} {a c k : Nat} {fs : List Value} {v : Value} (e : M a = some (.inr (c, fs))) (h : k < fs.length) : pV M c k (some a) v = some (hst M a (.inr (c, fs.set k v))) := by
  unfold pV
  rw [hO_at e, Option.bind_some]
  exact if_pos h
theorem pZ_at {M : hM} {a c k : Nat} {fs : List Value} {x : Int32} (e : M a = some (.inr (c, fs))) (hx : x = 0 ∨ x = 1) (h : k < fs.length) : pZ M c k (some a) x = some (hst M a (.inr (c, fs.set k (.int x)))) := by
  unfold pZ
  rw [if_pos hx]
  exact pV_at e h
theorem hA_at {M : hM} {a kd : Nat} {x : vp_A} (e : M a = some (.inl (kd, x))) : hA M kd (some a) = some (a, x) := by
  unfold hA
  rw [Option.bind_some, e]
  exact if_pos rfl
theorem aL_at {M : hM} {a kd n : Nat} {d} (e : M a = some (.inl (kd, n, d))) : aL M kd (some a) = some (Int32.ofNat n) := by
  unfold aL
  rw [hA_at e]
  rfl
theorem ix_ok {k n : Nat} (hk : k < n) (hn : n < 2147483648) : (0 ≤ (nI k).toInt ∧ (nI k).toInt < (n : Int)) := by
  rw [nI_toInt (by omega)]
  omega
theorem ix_cl {k : Nat} (hk : k < 2147483648) : (nI k).toNatClampNeg = k := nI_clamp hk
theorem aI_at {M : hM} {a kd n k : Nat} {f : Nat → Int32} (e : M a = some (.inl (kd, n, .inl f))) (hk : k < n) (hn : n < 2147483648) : aI M kd (some a) (nI k) = some (f k) := by
  unfold aI
  rw [hA_at e, Option.bind_some]
  show (if 0 ≤ (nI k).toInt ∧ (nI k).toInt < (n : Int) then some (f (nI k).toNatClampNeg) else none) = _
  rw [if_pos (ix_ok hk hn), ix_cl (by omega)]
theorem aR_at {M : hM} {a kd n k : Nat} {f : Nat → Option Nat} (e : M a = some (.inl (kd, n, .inr (.inr (.inr (.inr f)))))) (hk : k < n) (hn : n < 2147483648) : aR M kd (some a) (nI k) = some (f k) := by
  unfold aR
  rw [hA_at e, Option.bind_some]
  show (if 0 ≤ (nI k).toInt ∧ (nI k).toInt < (n : Int) then some (f (nI k).toNatClampNeg) else none) = _
  rw [if_pos (ix_ok hk hn), ix_cl (by omega)]
theorem aJ_at {M : hM} {a kd n k : Nat} {f : Nat → Int64} (e : M a = some (.inl (kd, n, .inr (.inl f)))) (hk : k < n) (hn : n < 2147483648) : aJ M kd (some a) (nI k) = some (f k) := by
  unfold aJ
  rw [hA_at e, Option.bind_some]
  show (if 0 ≤ (nI k).toInt ∧ (nI k).toInt < (n : Int) then some (f (nI k).toNatClampNeg) else none) = _
  rw [if_pos (ix_ok hk hn), ix_cl (by omega)]
theorem sI_at {M : hM} {a kd n k : Nat} {f : Nat → Int32} {x : Int32} (e : M a = some (.inl (kd, n, .inl f))) (hk : k < n) (hn : n < 2147483648) : sI M kd (some a) (nI k) x = some (hst M a (.inl (kd, n, .inl (upd f k x)))) := by
  unfold sI
  rw [hA_at e, Option.bind_some]
  show (if 0 ≤ (nI k).toInt ∧ (nI k).toInt < (n : Int) then some (hst M a (.inl (kd, n, .inl (upd f (nI k).toNatClampNeg x)))) else none) = _
  rw [if_pos (ix_ok hk hn), ix_cl (by omega)]
theorem sZ_at {M : hM} {a kd n k : Nat} {f : Nat → Int32} {x : Int32} (e : M a = some (.inl (kd, n, .inl f))) (hk : k < n) (hn : n < 2147483648) (hx : x = 0 ∨ x = 1) : sZ M kd (some a) (nI k) x = some (hst M a (.inl (kd, n, .inl (upd f k x)))) := by
  unfold sZ
  rw [if_pos hx]
  exact sI_at e hk hn
theorem sJ_at {M : hM} {a kd n k : Nat} {f : Nat → Int64} {x : Int64} (e : M a = some (.inl (kd, n, .inr (.inl f)))) (hk : k < n) (hn : n < 2147483648) : sJ M kd (some a) (nI k) x = some (hst M a (.inl (kd, n, .inr (.inl (vp_updL f k x))))) := by
  unfold sJ
  rw [hA_at e, Option.bind_some]
  show (if 0 ≤ (nI k).toInt ∧ (nI k).toInt < (n : Int) then some (hst M a (.inl (kd, n, .inr (.inl (vp_updL f (nI k).toNatClampNeg x))))) else none) = _
  rw [if_pos (ix_ok hk hn), ix_cl (by omega)]
theorem sR_at {M : hM} {a kd n k c b : Nat} {f : Nat → Option Nat} {fs : List Value} (e : M a = some (.inl (kd, n, .inr (.inr (.inr (.inr f)))))) (hk : k < n) (hn : n < 2147483648) (hb : M b = some (.inr (c, fs))) : sR M kd (some a) (nI k) c (some b) = some (hst M a (.inl (kd, n, .inr (.inr (.inr (.inr (va_up f k (some b)))))))) := by
  unfold sR
  rw [hA_at e, Option.bind_some]
  show (if 0 ≤ (nI k).toInt ∧ (nI k).toInt < (n : Int) then (hC M c (some b)).map (fun b => hst M a (.inl (kd, n, .inr (.inr (.inr (.inr (va_up f (nI k).toNatClampNeg (some b)))))))) else none) = _
  rw [if_pos (ix_ok hk hn), ix_cl (by omega), hC_at hb]
  rfl
section HREP
variable {M : hM} {A : hAd} {s τ : hσ}
theorem at0 (R : Rep M A s τ) : M (A 0 0) = some (c0 A s) := R.1 0 0 _ (cc0p A s τ)
theorem at1 (R : Rep M A s τ) : M (A 1 0) = some (c1 A s) := R.1 1 0 _ (cc1p A s τ)
theorem at2 (R : Rep M A s τ) : M (A 2 0) = some (c2 A s) := R.1 2 0 _ (cc2p A s τ)
theorem at3 (R : Rep M A s τ) : M (A 3 0) = some (c3 A s) := R.1 3 0 _ (cc3p A s τ)
theorem at4 (R : Rep M A s τ) {t : Nat} (ht : s 110 t = 1) : M (A 4 t) = some (c4 s t) := R.1 4 t _ (cc4p ht)
theorem at5 (R : Rep M A s τ) {t : Nat} (ht : s 111 t = 1) : M (A 5 t) = some (c5 A s t) := R.1 5 t _ (cc5p ht)
theorem at6 (R : Rep M A s τ) {t : Nat} (ht : s 118 t = 1) : M (A 6 t) = some (c6 A s t) := R.1 6 t _ (cc6p ht)
theorem at7 (R : Rep M A s τ) {t : Nat} (ht : s 112 t = 1) : M (A 7 t) = some (c7 A s t) := R.1 7 t _ (cc7p ht)
theorem at8 (R : Rep M A s τ) {t : Nat} (ht : s 119 t = 1) : M (A 8 t) = some (c8 s t) := R.1 8 t _ (cc8p ht)
theorem at9 (R : Rep M A s τ) {t : Nat} (ht : s 113 t = 1) : M (A 9 t) = some (c9 s t) := R.1 9 t _ (cc9p ht)
theorem at11 (R : Rep M A s τ) {f kd n : Nat} (hf : mA f = some (kd, n)) : M (A 11 f) = some (.inl (kd, n, .inl (τ f))) := R.1 11 f _ (by
  show (mA f).map (fun p => (.inl (p.1, p.2, .inl (τ f)) : hE)) = _
  rw [hf]
  rfl)
theorem obind {α β : Type} {e : Option α} {v : α} (h : e = some v) (f : α → Option β) : e.bind f = f v := by
  rw [h]
  rfl
theorem oex {α : Type} {e : Option α} {v : α} (h : e = some v) (Q : α → Prop) : (∃ x, e = some x ∧ Q x) = Q v := by
  apply propext
  constructor
  · rintro ⟨x, hx, q⟩
    rw [h] at hx
    cases hx
    exact q
  · intro q
    exact ⟨v, h, q⟩
theorem rd4 (R : Rep M A s τ) : hC M 4 (some (A 0 0)) = some (A 0 0) ∧ gR M 4 0 (some (A 0 0)) = some (some (A 1 0)) ∧ gR M 4 1 (some (A 0 0)) = some (some (A 2 0)) ∧ gR M 4 2 (some (A 0 0)) = some (some (A 3 0)) ∧ gI M 4 3 (some (A 0 0)) = some (s 2 0) ∧ gI M 4 4 (some (A 0 0)) = some (s 7 0) ∧ gI M 4 5 (some (A 0 0)) = some (s 11 0) ∧ gI M 4 6 (some (A 0 0)) = some (s 1 0) ∧ gI M 4 7 (some (A 0 0)) = some (s 37 0) ∧ gI M 4 8 (some (A 0 0)) = some (s 37 1) ∧ gI M 4 9 (some (A 0 0)) = some (s 37 2) ∧ gI M 4 10 (some (A 0 0)) = some (s 37 3) ∧ gI M 4 11 (some (A 0 0)) = some (s 37 4) ∧ gI M 4 12 (some (A 0 0)) = some (s 37 5) := ⟨hC_at (at0 R), gR_at (at0 R) rfl, gR_at (at0 R) rfl, gR_at (at0 R) rfl, gI_at (at0 R) rfl, gI_at (at0 R) rfl, gI_at (at0 R) rfl, gI_at (at0 R) rfl, gI_at (at0 R) rfl, gI_at (at0 R) rfl, gI_at (at0 R) rfl, gI_at (at0 R) rfl, gI_at (at0 R) rfl, gI_at (at0 R) rfl⟩
theorem rd4b (R : Rep M A s τ) : (∀ (β : Type) (f : Nat → Option β), (hC M 4 (some (A 0 0))).bind f = f (A 0 0)) ∧ (∀ (β : Type) (f : Option Nat → Option β), (gR M 4 0 (some (A 0 0))).bind f = f (some (A 1 0))) ∧ (∀ (β : Type) (f : Option Nat → Option β), (gR M 4 1 (some (A 0 0))).bind f = f (some (A 2 0))) ∧ (∀ (β : Type) (f : Option Nat → Option β), (gR M 4 2 (some (A 0 0))).bind f = f (some (A 3 0))) ∧ (∀ (β : Type) (f : Int32 → Option β), (gI M 4 3 (some (A 0 0))).bind f = f (s 2 0)) ∧ (∀ (β : Type) (f : Int32 → Option β), (gI M 4 4 (some (A 0 0))).bind f = f (s 7 0)) ∧ (∀ (β : Type) (f : Int32 → Option β), (gI M 4 5 (some (A 0 0))).bind f = f (s 11 0)) ∧ (∀ (β : Type) (f : Int32 → Option β), (gI M 4 6 (some (A 0 0))).bind f = f (s 1 0)) ∧ (∀ (β : Type) (f : Int32 → Option β), (gI M 4 7 (some (A 0 0))).bind f = f (s 37 0)) ∧ (∀ (β : Type) (f : Int32 → Option β), (gI M 4 8 (some (A 0 0))).bind f = f (s 37 1)) ∧ (∀ (β : Type) (f : Int32 → Option β), (gI M 4 9 (some (A 0 0))).bind f = f (s 37 2)) ∧ (∀ (β : Type) (f : Int32 → Option β), (gI M 4 10 (some (A 0 0))).bind f = f (s 37 3)) ∧ (∀ (β : Type) (f : Int32 → Option β), (gI M 4 11 (some (A 0 0))).bind f = f (s 37 4)) ∧ (∀ (β : Type) (f : Int32 → Option β), (gI M 4 12 (some (A 0 0))).bind f = f (s 37 5)) := ⟨fun _ f => obind (hC_at (at0 R)) f, fun _ f => obind (gR_at (at0 R) rfl) f, fun _ f => obind (gR_at (at0 R) rfl) f, fun _ f => obind (gR_at (at0 R) rfl) f, fun _ f => obind (gI_at (at0 R) rfl) f, fun _ f => obind (gI_at (at0 R) rfl) f, fun _ f => obind (gI_at (at0 R) rfl) f, fun _ f => obind (gI_at (at0 R) rfl) f, fun _ f => obind (gI_at (at0 R) rfl) f, fun _ f => obind (gI_at (at0 R) rfl) f, fun _ f => obind (gI_at (at0 R) rfl) f, fun _ f => obind (gI_at (at0 R) rfl) f, fun _ f => obind (gI_at (at0 R) rfl) f, fun _ f => obind (gI_at (at0 R) rfl) f⟩
theorem rd4e (R : Rep M A s τ) : (∀ Q : Nat → Prop, (∃ x, hC M 4 (some (A 0 0)) = some x ∧ Q x) = Q (A 0 0)) ∧ (∀ Q : Option Nat → Prop, (∃ x, gR M 4 0 (some (A 0 0)) = some x ∧ Q x) = Q (some (A 1 0))) ∧ (∀ Q : Option Nat → Prop, (∃ x, gR M 4 1 (some (A 0 0)) = some x ∧ Q x) = Q (some (A 2 0))) ∧ (∀ Q : Option Nat → Prop, (∃ x, gR M 4 2 (some (A 0 0)) = some x ∧ Q x) = Q (some (A 3 0))) ∧ (∀ Q : Int32 → Prop, (∃ x, gI M 4 3 (some (A 0 0)) = some x ∧ Q x) = Q (s 2 0)) ∧ (∀ Q : Int32 → Prop, (∃ x, gI M 4 4 (some (A 0 0)) = some x ∧ Q x) = Q (s 7 0)) ∧ (∀ Q : Int32 → Prop, (∃ x, gI M 4 5 (some (A 0 0)) = some x ∧ Q x) = Q (s 11 0)) ∧ (∀ Q : Int32 → Prop, (∃ x, gI M 4 6 (some (A 0 0)) = some x ∧ Q x) = Q (s 1 0)) ∧ (∀ Q : Int32 → Prop, (∃ x, gI M 4 7 (some (A 0 0)) = some x ∧ Q x) = Q (s 37 0)) ∧ (∀ Q : Int32 → Prop, (∃ x, gI M 4 8 (some (A 0 0)) = some x ∧ Q x) = Q (s 37 1)) ∧ (∀ Q : Int32 → Prop, (∃ x, gI M 4 9 (some (A 0 0)) = some x ∧ Q x) = Q (s 37 2)) ∧ (∀ Q : Int32 → Prop, (∃ x, gI M 4 10 (some (A 0 0)) = some x ∧ Q x) = Q (s 37 3)) ∧ (∀ Q : Int32 → Prop, (∃ x, gI M 4 11 (some (A 0 0)) = some x ∧ Q x) = Q (s 37 4)) ∧ (∀ Q : Int32 → Prop, (∃ x, gI M 4 12 (some (A 0 0)) = some x ∧ Q x) = Q (s 37 5)) := ⟨fun f => oex (hC_at (at0 R)) f, fun f => oex (gR_at (at0 R) rfl) f, fun f => oex (gR_at (at0 R) rfl) f, fun f => oex (gR_at (at0 R) rfl) f, fun f => oex (gI_at (at0 R) rfl) f, fun f => oex (gI_at (at0 R) rfl) f, fun f => oex (gI_at (at0 R) rfl) f, fun f => oex (gI_at (at0 R) rfl) f, fun f => oex (gI_at (at0 R) rfl) f, fun f => oex (gI_at (at0 R) rfl) f, fun f => oex (gI_at (at0 R) rfl) f, fun f => oex (gI_at (at0 R) rfl) f, fun f => oex (gI_at (at0 R) rfl) f, fun f => oex (gI_at (at0 R) rfl) f⟩
theorem rd3 (R : Rep M A s τ) {t : Nat} (ht : s 110 t = 1) : hC M 3 (some (A 4 t)) = some (A 4 t) ∧ gI M 3 0 (some (A 4 t)) = some (s 3 t) ∧ gI M 3 1 (some (A 4 t)) = some (s 4 t) ∧ gI M 3 2 (some (A 4 t)) = some (s 5 t) ∧ gI M 3 3 (some (A 4 t)) = some (s 6 t) := ⟨hC_at (at4 R ht), gI_at (at4 R ht) rfl, gI_at (at4 R ht) rfl, gI_at (at4 R ht) rfl, gI_at (at4 R ht) rfl⟩
theorem rd3b (R : Rep M A s τ) {t : Nat} (ht : s 110 t = 1) : (∀ (β : Type) (f : Nat → Option β), (hC M 3 (some (A 4 t))).bind f = f (A 4 t)) ∧ (∀ (β : Type) (f : Int32 → Option β), (gI M 3 0 (some (A 4 t))).bind f = f (s 3 t)) ∧ (∀ (β : Type) (f : Int32 → Option β), (gI M 3 1 (some (A 4 t))).bind f = f (s 4 t)) ∧ (∀ (β : Type) (f : Int32 → Option β), (gI M 3 2 (some (A 4 t))).bind f = f (s 5 t)) ∧ (∀ (β : Type) (f : Int32 → Option β), (gI M 3 3 (some (A 4 t))).bind f = f (s 6 t)) := ⟨fun _ f => obind (hC_at (at4 R ht)) f, fun _ f => obind (gI_at (at4 R ht) rfl) f, fun _ f => obind (gI_at (at4 R ht) rfl) f, fun _ f => obind (gI_at (at4 R ht) rfl) f, fun _ f => obind (gI_at (at4 R ht) rfl) f⟩
theorem rd3e (R : Rep M A s τ) {t : Nat} (ht : s 110 t = 1) : (∀ Q : Nat → Prop, (∃ x, hC M 3 (some (A 4 t)) = some x ∧ Q x) = Q (A 4 t)) ∧ (∀ Q : Int32 → Prop, (∃ x, gI M 3 0 (some (A 4 t)) = some x ∧ Q x) = Q (s 3 t)) ∧ (∀ Q : Int32 → Prop, (∃ x, gI M 3 1 (some (A 4 t)) = some x ∧ Q x) = Q (s 4 t)) ∧ (∀ Q : Int32 → Prop, (∃ x, gI M 3 2 (some (A 4 t)) = some x ∧ Q x) = Q (s 5 t)) ∧ (∀ Q : Int32 → Prop, (∃ x, gI M 3 3 (some (A 4 t)) = some x ∧ Q x) = Q (s 6 t)) := ⟨fun f => oex (hC_at (at4 R ht)) f, fun f => oex (gI_at (at4 R ht) rfl) f, fun f => oex (gI_at (at4 R ht) rfl) f, fun f => oex (gI_at (at4 R ht) rfl) f, fun f => oex (gI_at (at4 R ht) rfl) f⟩
theorem rd1 (R : Rep M A s τ) {t : Nat} (ht : s 111 t = 1) : hC M 1 (some (A 5 t)) = some (A 5 t) ∧ gI M 1 0 (some (A 5 t)) = some (nI t) ∧ gI M 1 1 (some (A 5 t)) = some (s 8 t) ∧ gI M 1 2 (some (A 5 t)) = some (s 9 t) ∧ gI M 1 3 (some (A 5 t)) = some (s 10 t) ∧ gR M 1 4 (some (A 5 t)) = some (some (A 6 t)) := ⟨hC_at (at5 R ht), gI_at (at5 R ht) rfl, gI_at (at5 R ht) rfl, gI_at (at5 R ht) rfl, gI_at (at5 R ht) rfl, gR_at (at5 R ht) rfl⟩
theorem rd1b (R : Rep M A s τ) {t : Nat} (ht : s 111 t = 1) : (∀ (β : Type) (f : Nat → Option β), (hC M 1 (some (A 5 t))).bind f = f (A 5 t)) ∧ (∀ (β : Type) (f : Int32 → Option β), (gI M 1 0 (some (A 5 t))).bind f = f (nI t)) ∧ (∀ (β : Type) (f : Int32 → Option β), (gI M 1 1 (some (A 5 t))).bind f = f (s 8 t)) ∧ (∀ (β : Type) (f : Int32 → Option β), (gI M 1 2 (some (A 5 t))).bind f = f (s 9 t)) ∧ (∀ (β : Type) (f : Int32 → Option β), (gI M 1 3 (some (A 5 t))).bind f = f (s 10 t)) ∧ (∀ (β : Type) (f : Option Nat → Option β), (gR M 1 4 (some (A 5 t))).bind f = f (some (A 6 t))) := ⟨fun _ f => obind (hC_at (at5 R ht)) f, fun _ f => obind (gI_at (at5 R ht) rfl) f, fun _ f => obind (gI_at (at5 R ht) rfl) f, fun _ f => obind (gI_at (at5 R ht) rfl) f, fun _ f => obind (gI_at (at5 R ht) rfl) f, fun _ f => obind (gR_at (at5 R ht) rfl) f⟩
theorem rd1e (R : Rep M A s τ) {t : Nat} (ht : s 111 t = 1) : (∀ Q : Nat → Prop, (∃ x, hC M 1 (some (A 5 t)) = some x ∧ Q x) = Q (A 5 t)) ∧ (∀ Q : Int32 → Prop, (∃ x, gI M 1 0 (some (A 5 t)) = some x ∧ Q x) = Q (nI t)) ∧ (∀ Q : Int32 → Prop, (∃ x, gI M 1 1 (some (A 5 t)) = some x ∧ Q x) = Q (s 8 t)) ∧ (∀ Q : Int32 → Prop, (∃ x, gI M 1 2 (some (A 5 t)) = some x ∧ Q x) = Q (s 9 t)) ∧ (∀ Q : Int32 → Prop, (∃ x, gI M 1 3 (some (A 5 t)) = some x ∧ Q x) = Q (s 10 t)) ∧ (∀ Q : Option Nat → Prop, (∃ x, gR M 1 4 (some (A 5 t)) = some x ∧ Q x) = Q (some (A 6 t))) := ⟨fun f => oex (hC_at (at5 R ht)) f, fun f => oex (gI_at (at5 R ht) rfl) f, fun f => oex (gI_at (at5 R ht) rfl) f, fun f => oex (gI_at (at5 R ht) rfl) f, fun f => oex (gI_at (at5 R ht) rfl) f, fun f => oex (gR_at (at5 R ht) rfl) f⟩
theorem rd0 (R : Rep M A s τ) {t : Nat} (ht : s 112 t = 1) : hC M 0 (some (A 7 t)) = some (A 7 t) ∧ gR M 0 0 (some (A 7 t)) = some (some (A 5 (t / 8))) ∧ gI M 0 1 (some (A 7 t)) = some (nI (t % 8)) ∧ gI M 0 2 (some (A 7 t)) = some (s 22 t) ∧ gI M 0 3 (some (A 7 t)) = some (s 23 t) ∧ gI M 0 4 (some (A 7 t)) = some (s 50 t) ∧ gI M 0 5 (some (A 7 t)) = some (s 51 t) ∧ gI M 0 6 (some (A 7 t)) = some (s 25 t) ∧ gI M 0 7 (some (A 7 t)) = some (s 26 t) ∧ gI M 0 8 (some (A 7 t)) = some (s 27 t) ∧ gI M 0 9 (some (A 7 t)) = some (s 28 t) ∧ gI M 0 10 (some (A 7 t)) = some (s 30 t) ∧ gI M 0 11 (some (A 7 t)) = some (s 31 t) ∧ gI M 0 12 (some (A 7 t)) = some (s 32 t) ∧ gR M 0 13 (some (A 7 t)) = some (some (A 8 t)) := ⟨hC_at (at7 R ht), gR_at (at7 R ht) rfl, gI_at (at7 R ht) rfl, gI_at (at7 R ht) rfl, gI_at (at7 R ht) rfl, gI_at (at7 R ht) rfl, gI_at (at7 R ht) rfl, gI_at (at7 R ht) rfl, gI_at (at7 R ht) rfl, gI_at (at7 R ht) rfl, gI_at (at7 R ht) rfl, gI_at (at7 R ht) rfl, gI_at (at7 R ht) rfl, gI_at (at7 R ht) rfl, gR_at (at7 R ht) rfl⟩
theorem rd0b (R : Rep M A s τ) {t : Nat} (ht : s 112 t = 1) : (∀ (β : Type) (f : Nat → Option β), (hC M 0 (some (A 7 t))).bind f = f (A 7 t)) ∧ (∀ (β : Type) (f : Option Nat → Option β), (gR M 0 0 (some (A 7 t))).bind f = f (some (A 5 (t / 8)))) ∧ (∀ (β : Type) (f : Int32 → Option β), (gI M 0 1 (some (A 7 t))).bind f = f (nI (t % 8))) ∧ (∀ (β : Type) (f : Int32 → Option β), (gI M 0 2 (some (A 7 t))).bind f = f (s 22 t)) ∧ (∀ (β : Type) (f : Int32 → Option β), (gI M 0 3 (some (A 7 t))).bind f = f (s 23 t)) ∧ (∀ (β : Type) (f : Int32 → Option β), (gI M 0 4 (some (A 7 t))).bind f = f (s 50 t)) ∧ (∀ (β : Type) (f : Int32 → Option β), (gI M 0 5 (some (A 7 t))).bind f = f (s 51 t)) ∧ (∀ (β : Type) (f : Int32 → Option β), (gI M 0 6 (some (A 7 t))).bind f = f (s 25 t)) ∧ (∀ (β : Type) (f : Int32 → Option β), (gI M 0 7 (some (A 7 t))).bind f = f (s 26 t)) ∧ (∀ (β : Type) (f : Int32 → Option β), (gI M 0 8 (some (A 7 t))).bind f = f (s 27 t)) ∧ (∀ (β : Type) (f : Int32 → Option β), (gI M 0 9 (some (A 7 t))).bind f = f (s 28 t)) ∧ (∀ (β : Type) (f : Int32 → Option β), (gI M 0 10 (some (A 7 t))).bind f = f (s 30 t)) ∧ (∀ (β : Type) (f : Int32 → Option β), (gI M 0 11 (some (A 7 t))).bind f = f (s 31 t)) ∧ (∀ (β : Type) (f : Int32 → Option β), (gI M 0 12 (some (A 7 t))).bind f = f (s 32 t)) ∧ (∀ (β : Type) (f : Option Nat → Option β), (gR M 0 13 (some (A 7 t))).bind f = f (some (A 8 t))) := ⟨fun _ f => obind (hC_at (at7 R ht)) f, fun _ f => obind (gR_at (at7 R ht) rfl) f, fun _ f => obind (gI_at (at7 R ht) rfl) f, fun _ f => obind (gI_at (at7 R ht) rfl) f, fun _ f => obind (gI_at (at7 R ht) rfl) f, fun _ f => obind (gI_at (at7 R ht) rfl) f, fun _ f => obind (gI_at (at7 R ht) rfl) f, fun _ f => obind (gI_at (at7 R ht) rfl) f, fun _ f => obind (gI_at (at7 R ht) rfl) f, fun _ f => obind (gI_at (at7 R ht) rfl) f, fun _ f => obind (gI_at (at7 R ht) rfl) f, fun _ f => obind (gI_at (at7 R ht) rfl) f, fun _ f => obind (gI_at (at7 R ht) rfl) f, fun _ f => obind (gI_at (at7 R ht) rfl) f, fun _ f => obind (gR_at (at7 R ht) rfl) f⟩
theorem rd0e (R : Rep M A s τ) {t : Nat} (ht : s 112 t = 1) : (∀ Q : Nat → Prop, (∃ x, hC M 0 (some (A 7 t)) = some x ∧ Q x) = Q (A 7 t)) ∧ (∀ Q : Option Nat → Prop, (∃ x, gR M 0 0 (some (A 7 t)) = some x ∧ Q x) = Q (some (A 5 (t / 8)))) ∧ (∀ Q : Int32 → Prop, (∃ x, gI M 0 1 (some (A 7 t)) = some x ∧ Q x) = Q (nI (t % 8))) ∧ (∀ Q : Int32 → Prop, (∃ x, gI M 0 2 (some (A 7 t)) = some x ∧ Q x) = Q (s 22 t)) ∧ (∀ Q : Int32 → Prop, (∃ x, gI M 0 3 (some (A 7 t)) = some x ∧ Q x) = Q (s 23 t)) ∧ (∀ Q : Int32 → Prop, (∃ x, gI M 0 4 (some (A 7 t)) = some x ∧ Q x) = Q (s 50 t)) ∧ (∀ Q : Int32 → Prop, (∃ x, gI M 0 5 (some (A 7 t)) = some x ∧ Q x) = Q (s 51 t)) ∧ (∀ Q : Int32 → Prop, (∃ x, gI M 0 6 (some (A 7 t)) = some x ∧ Q x) = Q (s 25 t)) ∧ (∀ Q : Int32 → Prop, (∃ x, gI M 0 7 (some (A 7 t)) = some x ∧ Q x) = Q (s 26 t)) ∧ (∀ Q : Int32 → Prop, (∃ x, gI M 0 8 (some (A 7 t)) = some x ∧ Q x) = Q (s 27 t)) ∧ (∀ Q : Int32 → Prop, (∃ x, gI M 0 9 (some (A 7 t)) = some x ∧ Q x) = Q (s 28 t)) ∧ (∀ Q : Int32 → Prop, (∃ x, gI M 0 10 (some (A 7 t)) = some x ∧ Q x) = Q (s 30 t)) ∧ (∀ Q : Int32 → Prop, (∃ x, gI M 0 11 (some (A 7 t)) = some x ∧ Q x) = Q (s 31 t)) ∧ (∀ Q : Int32 → Prop, (∃ x, gI M 0 12 (some (A 7 t)) = some x ∧ Q x) = Q (s 32 t)) ∧ (∀ Q : Option Nat → Prop, (∃ x, gR M 0 13 (some (A 7 t)) = some x ∧ Q x) = Q (some (A 8 t))) := ⟨fun f => oex (hC_at (at7 R ht)) f, fun f => oex (gR_at (at7 R ht) rfl) f, fun f => oex (gI_at (at7 R ht) rfl) f, fun f => oex (gI_at (at7 R ht) rfl) f, fun f => oex (gI_at (at7 R ht) rfl) f, fun f => oex (gI_at (at7 R ht) rfl) f, fun f => oex (gI_at (at7 R ht) rfl) f, fun f => oex (gI_at (at7 R ht) rfl) f, fun f => oex (gI_at (at7 R ht) rfl) f, fun f => oex (gI_at (at7 R ht) rfl) f, fun f => oex (gI_at (at7 R ht) rfl) f, fun f => oex (gI_at (at7 R ht) rfl) f, fun f => oex (gI_at (at7 R ht) rfl) f, fun f => oex (gI_at (at7 R ht) rfl) f, fun f => oex (gR_at (at7 R ht) rfl) f⟩
theorem rd2 (R : Rep M A s τ) {t : Nat} (ht : s 113 t = 1) : hC M 2 (some (A 9 t)) = some (A 9 t) ∧ gI M 2 0 (some (A 9 t)) = some (s 12 t) ∧ gI M 2 1 (some (A 9 t)) = some (s 13 t) ∧ gI M 2 2 (some (A 9 t)) = some (s 14 t) ∧ gI M 2 3 (some (A 9 t)) = some (s 15 t) ∧ gI M 2 4 (some (A 9 t)) = some (s 16 t) ∧ gI M 2 5 (some (A 9 t)) = some (s 17 t) ∧ gI M 2 6 (some (A 9 t)) = some (s 18 t) ∧ gI M 2 7 (some (A 9 t)) = some (s 19 t) ∧ gI M 2 8 (some (A 9 t)) = some (s 20 t) ∧ gI M 2 9 (some (A 9 t)) = some (s 21 t) := ⟨hC_at (at9 R ht), gI_at (at9 R ht) rfl, gI_at (at9 R ht) rfl, gI_at (at9 R ht) rfl, gI_at (at9 R ht) rfl, gI_at (at9 R ht) rfl, gI_at (at9 R ht) rfl, gI_at (at9 R ht) rfl, gI_at (at9 R ht) rfl, gI_at (at9 R ht) rfl, gI_at (at9 R ht) rfl⟩
theorem rd2b (R : Rep M A s τ) {t : Nat} (ht : s 113 t = 1) : (∀ (β : Type) (f : Nat → Option β), (hC M 2 (some (A 9 t))).bind f = f (A 9 t)) ∧ (∀ (β : Type) (f : Int32 → Option β), (gI M 2 0 (some (A 9 t))).bind f = f (s 12 t)) ∧ (∀ (β : Type) (f : Int32 → Option β), (gI M 2 1 (some (A 9 t))).bind f = f (s 13 t)) ∧ (∀ (β : Type) (f : Int32 → Option β), (gI M 2 2 (some (A 9 t))).bind f = f (s 14 t)) ∧ (∀ (β : Type) (f : Int32 → Option β), (gI M 2 3 (some (A 9 t))).bind f = f (s 15 t)) ∧ (∀ (β : Type) (f : Int32 → Option β), (gI M 2 4 (some (A 9 t))).bind f = f (s 16 t)) ∧ (∀ (β : Type) (f : Int32 → Option β), (gI M 2 5 (some (A 9 t))).bind f = f (s 17 t)) ∧ (∀ (β : Type) (f : Int32 → Option β), (gI M 2 6 (some (A 9 t))).bind f = f (s 18 t)) ∧ (∀ (β : Type) (f : Int32 → Option β), (gI M 2 7 (some (A 9 t))).bind f = f (s 19 t)) ∧ (∀ (β : Type) (f : Int32 → Option β), (gI M 2 8 (some (A 9 t))).bind f = f (s 20 t)) ∧ (∀ (β : Type) (f : Int32 → Option β), (gI M 2 9 (some (A 9 t))).bind f = f (s 21 t)) := ⟨fun _ f => obind (hC_at (at9 R ht)) f, fun _ f => obind (gI_at (at9 R ht) rfl) f, fun _ f => obind (gI_at (at9 R ht) rfl) f, fun _ f => obind (gI_at (at9 R ht) rfl) f, fun _ f => obind (gI_at (at9 R ht) rfl) f, fun _ f => obind (gI_at (at9 R ht) rfl) f, fun _ f => obind (gI_at (at9 R ht) rfl) f, fun _ f => obind (gI_at (at9 R ht) rfl) f, fun _ f => obind (gI_at (at9 R ht) rfl) f, fun _ f => obind (gI_at (at9 R ht) rfl) f, fun _ f => obind (gI_at (at9 R ht) rfl) f⟩
theorem rd2e (R : Rep M A s τ) {t : Nat} (ht : s 113 t = 1) : (∀ Q : Nat → Prop, (∃ x, hC M 2 (some (A 9 t)) = some x ∧ Q x) = Q (A 9 t)) ∧ (∀ Q : Int32 → Prop, (∃ x, gI M 2 0 (some (A 9 t)) = some x ∧ Q x) = Q (s 12 t)) ∧ (∀ Q : Int32 → Prop, (∃ x, gI M 2 1 (some (A 9 t)) = some x ∧ Q x) = Q (s 13 t)) ∧ (∀ Q : Int32 → Prop, (∃ x, gI M 2 2 (some (A 9 t)) = some x ∧ Q x) = Q (s 14 t)) ∧ (∀ Q : Int32 → Prop, (∃ x, gI M 2 3 (some (A 9 t)) = some x ∧ Q x) = Q (s 15 t)) ∧ (∀ Q : Int32 → Prop, (∃ x, gI M 2 4 (some (A 9 t)) = some x ∧ Q x) = Q (s 16 t)) ∧ (∀ Q : Int32 → Prop, (∃ x, gI M 2 5 (some (A 9 t)) = some x ∧ Q x) = Q (s 17 t)) ∧ (∀ Q : Int32 → Prop, (∃ x, gI M 2 6 (some (A 9 t)) = some x ∧ Q x) = Q (s 18 t)) ∧ (∀ Q : Int32 → Prop, (∃ x, gI M 2 7 (some (A 9 t)) = some x ∧ Q x) = Q (s 19 t)) ∧ (∀ Q : Int32 → Prop, (∃ x, gI M 2 8 (some (A 9 t)) = some x ∧ Q x) = Q (s 20 t)) ∧ (∀ Q : Int32 → Prop, (∃ x, gI M 2 9 (some (A 9 t)) = some x ∧ Q x) = Q (s 21 t)) := ⟨fun f => oex (hC_at (at9 R ht)) f, fun f => oex (gI_at (at9 R ht) rfl) f, fun f => oex (gI_at (at9 R ht) rfl) f, fun f => oex (gI_at (at9 R ht) rfl) f, fun f => oex (gI_at (at9 R ht) rfl) f, fun f => oex (gI_at (at9 R ht) rfl) f, fun f => oex (gI_at (at9 R ht) rfl) f, fun f => oex (gI_at (at9 R ht) rfl) f, fun f => oex (gI_at (at9 R ht) rfl) f, fun f => oex (gI_at (at9 R ht) rfl) f, fun f => oex (gI_at (at9 R ht) rfl) f⟩
theorem rdL (R : Rep M A s τ) : (aL M 3 (some (A 1 0)) = some 8) ∧ (aL M 4 (some (A 2 0)) = some 6) ∧ (aL M 5 (some (A 3 0)) = some 40) ∧ (∀ t, s 118 t = 1 → aL M 6 (some (A 6 t)) = some 8) ∧ (∀ t, s 119 t = 1 → aL M 0 (some (A 8 t)) = some 8) := ⟨aL_at (at1 R), aL_at (at2 R), aL_at (at3 R), fun _ h => aL_at (at6 R h), fun _ h => aL_at (at8 R h)⟩
theorem rdLb (R : Rep M A s τ) : (∀ (β : Type) (f : Int32 → Option β), (aL M 3 (some (A 1 0))).bind f = f 8) ∧ (∀ (β : Type) (f : Int32 → Option β), (aL M 4 (some (A 2 0))).bind f = f 6) ∧ (∀ (β : Type) (f : Int32 → Option β), (aL M 5 (some (A 3 0))).bind f = f 40) ∧ (∀ t, s 118 t = 1 → ∀ (β : Type) (f : Int32 → Option β), (aL M 6 (some (A 6 t))).bind f = f 8) ∧ (∀ t, s 119 t = 1 → ∀ (β : Type) (f : Int32 → Option β), (aL M 0 (some (A 8 t))).bind f = f 8) := ⟨fun  _ f => obind (aL_at (at1 R)) f, fun  _ f => obind (aL_at (at2 R)) f, fun  _ f => obind (aL_at (at3 R)) f, fun _ h _ f => obind (aL_at (at6 R h)) f, fun _ h _ f => obind (aL_at (at8 R h)) f⟩
theorem rdLe (R : Rep M A s τ) : (∀ Q : Int32 → Prop, (∃ x, aL M 3 (some (A 1 0)) = some x ∧ Q x) = Q 8) ∧ (∀ Q : Int32 → Prop, (∃ x, aL M 4 (some (A 2 0)) = some x ∧ Q x) = Q 6) ∧ (∀ Q : Int32 → Prop, (∃ x, aL M 5 (some (A 3 0)) = some x ∧ Q x) = Q 40) ∧ (∀ t, s 118 t = 1 → ∀ Q : Int32 → Prop, (∃ x, aL M 6 (some (A 6 t)) = some x ∧ Q x) = Q 8) ∧ (∀ t, s 119 t = 1 → ∀ Q : Int32 → Prop, (∃ x, aL M 0 (some (A 8 t)) = some x ∧ Q x) = Q 8) := ⟨fun  f => oex (aL_at (at1 R)) f, fun  f => oex (aL_at (at2 R)) f, fun  f => oex (aL_at (at3 R)) f, fun _ h f => oex (aL_at (at6 R h)) f, fun _ h f => oex (aL_at (at8 R h)) f⟩
theorem rdR (R : Rep M A s τ) : (∀ k, k < 8 → aR M 3 (some (A 1 0)) (nI k) = some (if s 114 k = 1 then some (A 4 k) else none)) ∧ (∀ k, k < 6 → aR M 4 (some (A 2 0)) (nI k) = some (if s 115 k = 1 then some (A 5 k) else none)) ∧ (∀ k, k < 40 → aR M 5 (some (A 3 0)) (nI k) = some (if s 116 k = 1 then some (A 9 k) else none)) ∧ (∀ t k, s 118 t = 1 → k < 8 → aR M 6 (some (A 6 t)) (nI k) = some (if s (1000 + 2 * t) k = 1 then some (A 7 (8 * t + k)) else none)) ∧ (∀ t k, s 119 t = 1 → k < 8 → aI M 0 (some (A 8 t)) (nI k) = some (s (1001 + 2 * t) k)) := ⟨fun _ h => aR_at (at1 R) h (by decide), fun _ h => aR_at (at2 R) h (by decide), fun _ h => aR_at (at3 R) h (by decide), fun _ _ ht h => aR_at (at6 R ht) h (by decide), fun _ _ ht h => aI_at (at8 R ht) h (by decide)⟩
theorem rdRb (R : Rep M A s τ) : (∀ k, k < 8 → ∀ (β : Type) (f : Option Nat → Option β), (aR M 3 (some (A 1 0)) (nI k)).bind f = f (if s 114 k = 1 then some (A 4 k) else none)) ∧ (∀ k, k < 6 → ∀ (β : Type) (f : Option Nat → Option β), (aR M 4 (some (A 2 0)) (nI k)).bind f = f (if s 115 k = 1 then some (A 5 k) else none)) ∧ (∀ k, k < 40 → ∀ (β : Type) (f : Option Nat → Option β), (aR M 5 (some (A 3 0)) (nI k)).bind f = f (if s 116 k = 1 then some (A 9 k) else none)) ∧ (∀ t k, s 118 t = 1 → k < 8 → ∀ (β : Type) (f : Option Nat → Option β), (aR M 6 (some (A 6 t)) (nI k)).bind f = f (if s (1000 + 2 * t) k = 1 then some (A 7 (8 * t + k)) else none)) ∧ (∀ t k, s 119 t = 1 → k < 8 → ∀ (β : Type) (f : Int32 → Option β), (aI M 0 (some (A 8 t)) (nI k)).bind f = f (s (1001 + 2 * t) k)) := ⟨fun _ h _ f => obind (aR_at (at1 R) h (by decide)) f, fun _ h _ f => obind (aR_at (at2 R) h (by decide)) f, fun _ h _ f => obind (aR_at (at3 R) h (by decide)) f, fun _ _ ht h _ f => obind (aR_at (at6 R ht) h (by decide)) f, fun _ _ ht h _ f => obind (aI_at (at8 R ht) h (by decide)) f⟩
theorem rdRe (R : Rep M A s τ) : (∀ k, k < 8 → ∀ Q : Option Nat → Prop, (∃ x, aR M 3 (some (A 1 0)) (nI k) = some x ∧ Q x) = Q (if s 114 k = 1 then some (A 4 k) else none)) ∧ (∀ k, k < 6 → ∀ Q : Option Nat → Prop, (∃ x, aR M 4 (some (A 2 0)) (nI k) = some x ∧ Q x) = Q (if s 115 k = 1 then some (A 5 k) else none)) ∧ (∀ k, k < 40 → ∀ Q : Option Nat → Prop, (∃ x, aR M 5 (some (A 3 0)) (nI k) = some x ∧ Q x) = Q (if s 116 k = 1 then some (A 9 k) else none)) ∧ (∀ t k, s 118 t = 1 → k < 8 → ∀ Q : Option Nat → Prop, (∃ x, aR M 6 (some (A 6 t)) (nI k) = some x ∧ Q x) = Q (if s (1000 + 2 * t) k = 1 then some (A 7 (8 * t + k)) else none)) ∧ (∀ t k, s 119 t = 1 → k < 8 → ∀ Q : Int32 → Prop, (∃ x, aI M 0 (some (A 8 t)) (nI k) = some x ∧ Q x) = Q (s (1001 + 2 * t) k)) := ⟨fun _ h f => oex (aR_at (at1 R) h (by decide)) f, fun _ h f => oex (aR_at (at2 R) h (by decide)) f, fun _ h f => oex (aR_at (at3 R) h (by decide)) f, fun _ _ ht h f => oex (aR_at (at6 R ht) h (by decide)) f, fun _ _ ht h f => oex (aI_at (at8 R ht) h (by decide)) f⟩
theorem rdA (R : Rep M A s τ) : (∀ k, k < 3 → aI M 0 (some (A 11 12)) (nI k) = some (τ 12 k)) ∧ (∀ k, k < 6 → aI M 0 (some (A 11 13)) (nI k) = some (τ 13 k)) ∧ (∀ k, k < 48 → aI M 0 (some (A 11 14)) (nI k) = some (τ 14 k)) ∧ (∀ k, k < 6 → aI M 0 (some (A 11 15)) (nI k) = some (τ 15 k)) := ⟨fun _ h => aI_at (at11 R (f := 12) rfl) h (by decide), fun _ h => aI_at (at11 R (f := 13) rfl) h (by decide), fun _ h => aI_at (at11 R (f := 14) rfl) h (by decide), fun _ h => aI_at (at11 R (f := 15) rfl) h (by decide)⟩
theorem rdAb (R : Rep M A s τ) : (∀ k, k < 3 → ∀ (β : Type) (f : Int32 → Option β), (aI M 0 (some (A 11 12)) (nI k)).bind f = f (τ 12 k)) ∧ (∀ k, k < 6 → ∀ (β : Type) (f : Int32 → Option β), (aI M 0 (some (A 11 13)) (nI k)).bind f = f (τ 13 k)) ∧ (∀ k, k < 48 → ∀ (β : Type) (f : Int32 → Option β), (aI M 0 (some (A 11 14)) (nI k)).bind f = f (τ 14 k)) ∧ (∀ k, k < 6 → ∀ (β : Type) (f : Int32 → Option β), (aI M 0 (some (A 11 15)) (nI k)).bind f = f (τ 15 k)) := ⟨fun _ h _ f => obind (aI_at (at11 R (f := 12) rfl) h (by decide)) f, fun _ h _ f => obind (aI_at (at11 R (f := 13) rfl) h (by decide)) f, fun _ h _ f => obind (aI_at (at11 R (f := 14) rfl) h (by decide)) f, fun _ h _ f => obind (aI_at (at11 R (f := 15) rfl) h (by decide)) f⟩
theorem rdAe (R : Rep M A s τ) : (∀ k, k < 3 → ∀ Q : Int32 → Prop, (∃ x, aI M 0 (some (A 11 12)) (nI k) = some x ∧ Q x) = Q (τ 12 k)) ∧ (∀ k, k < 6 → ∀ Q : Int32 → Prop, (∃ x, aI M 0 (some (A 11 13)) (nI k) = some x ∧ Q x) = Q (τ 13 k)) ∧ (∀ k, k < 48 → ∀ Q : Int32 → Prop, (∃ x, aI M 0 (some (A 11 14)) (nI k) = some x ∧ Q x) = Q (τ 14 k)) ∧ (∀ k, k < 6 → ∀ Q : Int32 → Prop, (∃ x, aI M 0 (some (A 11 15)) (nI k) = some x ∧ Q x) = Q (τ 15 k)) := ⟨fun _ h f => oex (aI_at (at11 R (f := 12) rfl) h (by decide)) f, fun _ h f => oex (aI_at (at11 R (f := 13) rfl) h (by decide)) f, fun _ h f => oex (aI_at (at11 R (f := 14) rfl) h (by decide)) f, fun _ h f => oex (aI_at (at11 R (f := 15) rfl) h (by decide)) f⟩
theorem tch_3 {i j k : Nat} (h : tch i j 3 k) : i = 4 ∧ j = k := by
  unfold tch at h
  split at h <;> first | omega | exact h.elim
theorem tch_4 {i j k : Nat} (h : tch i j 4 k) : i = 4 ∧ j = k := by
  unfold tch at h
  split at h <;> first | omega | exact h.elim
theorem tch_5 {i j k : Nat} (h : tch i j 5 k) : i = 4 ∧ j = k := by
  unfold tch at h
  split at h <;> first | omega | exact h.elim
theorem tch_6 {i j k : Nat} (h : tch i j 6 k) : i = 4 ∧ j = k := by
  unfold tch at h
  split at h <;> first | omega | exact h.elim
theorem tch_110 {i j k : Nat} (h : tch i j 110 k) : i = 4 ∧ j = k := by
  unfold tch at h
  split at h <;> first | omega | exact h.elim
theorem tch_22 {i j k : Nat} (h : tch i j 22 k) : i = 7 ∧ j = k := by
  unfold tch at h
  split at h <;> first | omega | exact h.elim
theorem tch_23 {i j k : Nat} (h : tch i j 23 k) : i = 7 ∧ j = k := by
  unfold tch at h
  split at h <;> first | omega | exact h.elim
theorem tch_50 {i j k : Nat} (h : tch i j 50 k) : i = 7 ∧ j = k := by
  unfold tch at h
  split at h <;> first | omega | exact h.elim
theorem tch_51 {i j k : Nat} (h : tch i j 51 k) : i = 7 ∧ j = k := by
  unfold tch at h
  split at h <;> first | omega | exact h.elim
theorem tch_25 {i j k : Nat} (h : tch i j 25 k) : i = 7 ∧ j = k := by
  unfold tch at h
  split at h <;> first | omega | exact h.elim
theorem tch_26 {i j k : Nat} (h : tch i j 26 k) : i = 7 ∧ j = k := by
  unfold tch at h
  split at h <;> first | omega | exact h.elim
theorem tch_27 {i j k : Nat} (h : tch i j 27 k) : i = 7 ∧ j = k := by
  unfold tch at h
  split at h <;> first | omega | exact h.elim
theorem tch_28 {i j k : Nat} (h : tch i j 28 k) : i = 7 ∧ j = k := by
  unfold tch at h
  split at h <;> first | omega | exact h.elim
theorem tch_30 {i j k : Nat} (h : tch i j 30 k) : i = 7 ∧ j = k := by
  unfold tch at h
  split at h <;> first | omega | exact h.elim
theorem tch_31 {i j k : Nat} (h : tch i j 31 k) : i = 7 ∧ j = k := by
  unfold tch at h
  split at h <;> first | omega | exact h.elim
theorem tch_32 {i j k : Nat} (h : tch i j 32 k) : i = 7 ∧ j = k := by
  unfold tch at h
  split at h <;> first | omega | exact h.elim
theorem tch_112 {i j k : Nat} (h : tch i j 112 k) : i = 7 ∧ j = k := by
  unfold tch at h
  split at h <;> first | omega | exact h.elim
theorem tch_12 {i j k : Nat} (h : tch i j 12 k) : i = 9 ∧ j = k := by
  unfold tch at h
  split at h <;> first | omega | exact h.elim
theorem tch_13 {i j k : Nat} (h : tch i j 13 k) : i = 9 ∧ j = k := by
  unfold tch at h
  split at h <;> first | omega | exact h.elim
theorem tch_14 {i j k : Nat} (h : tch i j 14 k) : i = 9 ∧ j = k := by
  unfold tch at h
  split at h <;> first | omega | exact h.elim
theorem tch_15 {i j k : Nat} (h : tch i j 15 k) : i = 9 ∧ j = k := by
  unfold tch at h
  split at h <;> first | omega | exact h.elim
theorem tch_16 {i j k : Nat} (h : tch i j 16 k) : i = 9 ∧ j = k := by
  unfold tch at h
  split at h <;> first | omega | exact h.elim
theorem tch_17 {i j k : Nat} (h : tch i j 17 k) : i = 9 ∧ j = k := by
  unfold tch at h
  split at h <;> first | omega | exact h.elim
theorem tch_18 {i j k : Nat} (h : tch i j 18 k) : i = 9 ∧ j = k := by
  unfold tch at h
  split at h <;> first | omega | exact h.elim
theorem tch_19 {i j k : Nat} (h : tch i j 19 k) : i = 9 ∧ j = k := by
  unfold tch at h
  split at h <;> first | omega | exact h.elim
theorem tch_20 {i j k : Nat} (h : tch i j 20 k) : i = 9 ∧ j = k := by
  unfold tch at h
  split at h <;> first | omega | exact h.elim
theorem tch_21 {i j k : Nat} (h : tch i j 21 k) : i = 9 ∧ j = k := by
  unfold tch at h
  split at h <;> first | omega | exact h.elim
theorem tch_113 {i j k : Nat} (h : tch i j 113 k) : i = 9 ∧ j = k := by
  unfold tch at h
  split at h <;> first | omega | exact h.elim
theorem tch_8 {i j k : Nat} (h : tch i j 8 k) : i = 5 ∧ j = k := by
  unfold tch at h
  split at h <;> first | omega | exact h.elim
theorem tch_9 {i j k : Nat} (h : tch i j 9 k) : i = 5 ∧ j = k := by
  unfold tch at h
  split at h <;> first | omega | exact h.elim
theorem tch_10 {i j k : Nat} (h : tch i j 10 k) : i = 5 ∧ j = k := by
  unfold tch at h
  split at h <;> first | omega | exact h.elim
theorem tch_111 {i j k : Nat} (h : tch i j 111 k) : i = 5 ∧ j = k := by
  unfold tch at h
  split at h <;> first | omega | exact h.elim
theorem tch_1 {i j k : Nat} (h : tch i j 1 k) : i = 0 ∧ j = 0 := by
  unfold tch at h
  split at h <;> first | omega | exact h.elim
theorem tch_2 {i j k : Nat} (h : tch i j 2 k) : i = 0 ∧ j = 0 := by
  unfold tch at h
  split at h <;> first | omega | exact h.elim
theorem tch_7 {i j k : Nat} (h : tch i j 7 k) : i = 0 ∧ j = 0 := by
  unfold tch at h
  split at h <;> first | omega | exact h.elim
theorem tch_11 {i j k : Nat} (h : tch i j 11 k) : i = 0 ∧ j = 0 := by
  unfold tch at h
  split at h <;> first | omega | exact h.elim
theorem tch_37 {i j k : Nat} (h : tch i j 37 k) : i = 0 ∧ j = 0 := by
  unfold tch at h
  split at h <;> first | omega | exact h.elim
theorem tch_114 {i j k : Nat} (h : tch i j 114 k) : i = 1 ∧ j = 0 := by
  unfold tch at h
  split at h <;> first | omega | exact h.elim
theorem tch_115 {i j k : Nat} (h : tch i j 115 k) : i = 2 ∧ j = 0 := by
  unfold tch at h
  split at h <;> first | omega | exact h.elim
theorem tch_116 {i j k : Nat} (h : tch i j 116 k) : i = 3 ∧ j = 0 := by
  unfold tch at h
  split at h <;> first | omega | exact h.elim
theorem tch_118 {i j k : Nat} (h : tch i j 118 k) : i = 6 ∧ j = k := by
  unfold tch at h
  split at h <;> first | omega | exact h.elim
theorem tch_119 {i j k : Nat} (h : tch i j 119 k) : i = 8 ∧ j = k := by
  unfold tch at h
  split at h <;> first | omega | exact h.elim
theorem tch_row {i j f k : Nat} (h : tch i j (1000 + 2 * f) k) : i = 6 ∧ j = f := by
  unfold tch at h
  split at h <;> first | omega | exact h.elim
theorem tch_F {i j f k : Nat} (h : tch i j (1001 + 2 * f) k) : i = 8 ∧ j = f := by
  unfold tch at h
  split at h <;> first | omega | exact h.elim
theorem wr4_3 (R : Rep M A s τ) (x : Int32) : ∃ M', pV M 4 3 (some (A 0 0)) (.int x) = some M' ∧ Rep M' A (sU s 2 0 x) τ := by
  have e1 : c0 A (sU s 2 0 x) = .inr (4, [.ref (A 1 0), .ref (A 2 0), .ref (A 3 0), .int x, .int (s 7 0), .int (s 11 0), .int (s 1 0), .int (s 37 0), .int (s 37 1), .int (s 37 2), .int (s 37 3), .int (s 37 4), .int (s 37 5)]) := by
    unfold c0
    simp (disch := decide) only [sU_eq, sU_ne, sU_nj]
  exact ⟨_, pV_at (at0 R) (by show 3 < 13; decide), RepC.put R (i := 0) (j := 0) (cc0p _ _ _) (by
    show some (c0 A (sU s 2 0 x)) = _
    exact congrArg some e1) (fun i' j' e => cc_loc i' j' (fun f k q => sU_off (fun z => e (by
    obtain ⟨rfl, rfl⟩ := z
    exact tch_2 q))) (fun _ _ _ => rfl) (fun _ _ _ _ => rfl))⟩
theorem wr4_4 (R : Rep M A s τ) (x : Int32) : ∃ M', pV M 4 4 (some (A 0 0)) (.int x) = some M' ∧ Rep M' A (sU s 7 0 x) τ := by
  have e1 : c0 A (sU s 7 0 x) = .inr (4, [.ref (A 1 0), .ref (A 2 0), .ref (A 3 0), .int (s 2 0), .int x, .int (s 11 0), .int (s 1 0), .int (s 37 0), .int (s 37 1), .int (s 37 2), .int (s 37 3), .int (s 37 4), .int (s 37 5)]) := by
    unfold c0
    simp (disch := decide) only [sU_eq, sU_ne, sU_nj]
  exact ⟨_, pV_at (at0 R) (by show 4 < 13; decide), RepC.put R (i := 0) (j := 0) (cc0p _ _ _) (by
    show some (c0 A (sU s 7 0 x)) = _
    exact congrArg some e1) (fun i' j' e => cc_loc i' j' (fun f k q => sU_off (fun z => e (by
    obtain ⟨rfl, rfl⟩ := z
    exact tch_7 q))) (fun _ _ _ => rfl) (fun _ _ _ _ => rfl))⟩
theorem wr4_5 (R : Rep M A s τ) (x : Int32) : ∃ M', pV M 4 5 (some (A 0 0)) (.int x) = some M' ∧ Rep M' A (sU s 11 0 x) τ := by
  have e1 : c0 A (sU s 11 0 x) = .inr (4, [.ref (A 1 0), .ref (A 2 0), .ref (A 3 0), .int (s 2 0), .int (s 7 0), .int x, .int (s 1 0), .int (s 37 0), .int (s 37 1), .int (s 37 2), .int (s 37 3), .int (s 37 4), .int (s 37 5)]) := by
    unfold c0
    simp (disch := decide) only [sU_eq, sU_ne, sU_nj]
  exact ⟨_, pV_at (at0 R) (by show 5 < 13; decide), RepC.put R (i := 0) (j := 0) (cc0p _ _ _) (by
    show some (c0 A (sU s 11 0 x)) = _
    exact congrArg some e1) (fun i' j' e => cc_loc i' j' (fun f k q => sU_off (fun z => e (by
    obtain ⟨rfl, rfl⟩ := z
    exact tch_11 q))) (fun _ _ _ => rfl) (fun _ _ _ _ => rfl))⟩
theorem wr4_6 (R : Rep M A s τ) (x : Int32) : ∃ M', pV M 4 6 (some (A 0 0)) (.int x) = some M' ∧ Rep M' A (sU s 1 0 x) τ := by
  have e1 : c0 A (sU s 1 0 x) = .inr (4, [.ref (A 1 0), .ref (A 2 0), .ref (A 3 0), .int (s 2 0), .int (s 7 0), .int (s 11 0), .int x, .int (s 37 0), .int (s 37 1), .int (s 37 2), .int (s 37 3), .int (s 37 4), .int (s 37 5)]) := by
    unfold c0
    simp (disch := decide) only [sU_eq, sU_ne, sU_nj]
  exact ⟨_, pV_at (at0 R) (by show 6 < 13; decide), RepC.put R (i := 0) (j := 0) (cc0p _ _ _) (by
    show some (c0 A (sU s 1 0 x)) = _
    exact congrArg some e1) (fun i' j' e => cc_loc i' j' (fun f k q => sU_off (fun z => e (by
    obtain ⟨rfl, rfl⟩ := z
    exact tch_1 q))) (fun _ _ _ => rfl) (fun _ _ _ _ => rfl))⟩
theorem wr4_7 (R : Rep M A s τ) (x : Int32) : ∃ M', pV M 4 7 (some (A 0 0)) (.int x) = some M' ∧ Rep M' A (sU s 37 0 x) τ := by
  have e1 : c0 A (sU s 37 0 x) = .inr (4, [.ref (A 1 0), .ref (A 2 0), .ref (A 3 0), .int (s 2 0), .int (s 7 0), .int (s 11 0), .int (s 1 0), .int x, .int (s 37 1), .int (s 37 2), .int (s 37 3), .int (s 37 4), .int (s 37 5)]) := by
    unfold c0
    simp (disch := decide) only [sU_eq, sU_ne, sU_nj]
  exact ⟨_, pV_at (at0 R) (by show 7 < 13; decide), RepC.put R (i := 0) (j := 0) (cc0p _ _ _) (by
    show some (c0 A (sU s 37 0 x)) = _
    exact congrArg some e1) (fun i' j' e => cc_loc i' j' (fun f k q => sU_off (fun z => e (by
    obtain ⟨rfl, rfl⟩ := z
    exact tch_37 q))) (fun _ _ _ => rfl) (fun _ _ _ _ => rfl))⟩
theorem wr4_8 (R : Rep M A s τ) (x : Int32) : ∃ M', pV M 4 8 (some (A 0 0)) (.int x) = some M' ∧ Rep M' A (sU s 37 1 x) τ := by
  have e1 : c0 A (sU s 37 1 x) = .inr (4, [.ref (A 1 0), .ref (A 2 0), .ref (A 3 0), .int (s 2 0), .int (s 7 0), .int (s 11 0), .int (s 1 0), .int (s 37 0), .int x, .int (s 37 2), .int (s 37 3), .int (s 37 4), .int (s 37 5)]) := by
    unfold c0
    simp (disch := decide) only [sU_eq, sU_ne, sU_nj]
  exact ⟨_, pV_at (at0 R) (by show 8 < 13; decide), RepC.put R (i := 0) (j := 0) (cc0p _ _ _) (by
    show some (c0 A (sU s 37 1 x)) = _
    exact congrArg some e1) (fun i' j' e => cc_loc i' j' (fun f k q => sU_off (fun z => e (by
    obtain ⟨rfl, rfl⟩ := z
    exact tch_37 q))) (fun _ _ _ => rfl) (fun _ _ _ _ => rfl))⟩
theorem wr4_9 (R : Rep M A s τ) (x : Int32) : ∃ M', pV M 4 9 (some (A 0 0)) (.int x) = some M' ∧ Rep M' A (sU s 37 2 x) τ := by
  have e1 : c0 A (sU s 37 2 x) = .inr (4, [.ref (A 1 0), .ref (A 2 0), .ref (A 3 0), .int (s 2 0), .int (s 7 0), .int (s 11 0), .int (s 1 0), .int (s 37 0), .int (s 37 1), .int x, .int (s 37 3), .int (s 37 4), .int (s 37 5)]) := by
    unfold c0
    simp (disch := decide) only [sU_eq, sU_ne, sU_nj]
  exact ⟨_, pV_at (at0 R) (by show 9 < 13; decide), RepC.put R (i := 0) (j := 0) (cc0p _ _ _) (by
    show some (c0 A (sU s 37 2 x)) = _
    exact congrArg some e1) (fun i' j' e => cc_loc i' j' (fun f k q => sU_off (fun z => e (by
    obtain ⟨rfl, rfl⟩ := z
    exact tch_37 q))) (fun _ _ _ => rfl) (fun _ _ _ _ => rfl))⟩
theorem wr4_10 (R : Rep M A s τ) (x : Int32) : ∃ M', pV M 4 10 (some (A 0 0)) (.int x) = some M' ∧ Rep M' A (sU s 37 3 x) τ := by
  have e1 : c0 A (sU s 37 3 x) = .inr (4, [.ref (A 1 0), .ref (A 2 0), .ref (A 3 0), .int (s 2 0), .int (s 7 0), .int (s 11 0), .int (s 1 0), .int (s 37 0), .int (s 37 1), .int (s 37 2), .int x, .int (s 37 4), .int (s 37 5)]) := by
    unfold c0
    simp (disch := decide) only [sU_eq, sU_ne, sU_nj]
  exact ⟨_, pV_at (at0 R) (by show 10 < 13; decide), RepC.put R (i := 0) (j := 0) (cc0p _ _ _) (by
    show some (c0 A (sU s 37 3 x)) = _
    exact congrArg some e1) (fun i' j' e => cc_loc i' j' (fun f k q => sU_off (fun z => e (by
    obtain ⟨rfl, rfl⟩ := z
    exact tch_37 q))) (fun _ _ _ => rfl) (fun _ _ _ _ => rfl))⟩
theorem wr4_11 (R : Rep M A s τ) (x : Int32) : ∃ M', pV M 4 11 (some (A 0 0)) (.int x) = some M' ∧ Rep M' A (sU s 37 4 x) τ := by
  have e1 : c0 A (sU s 37 4 x) = .inr (4, [.ref (A 1 0), .ref (A 2 0), .ref (A 3 0), .int (s 2 0), .int (s 7 0), .int (s 11 0), .int (s 1 0), .int (s 37 0), .int (s 37 1), .int (s 37 2), .int (s 37 3), .int x, .int (s 37 5)]) := by
    unfold c0
    simp (disch := decide) only [sU_eq, sU_ne, sU_nj]
  exact ⟨_, pV_at (at0 R) (by show 11 < 13; decide), RepC.put R (i := 0) (j := 0) (cc0p _ _ _) (by
    show some (c0 A (sU s 37 4 x)) = _
    exact congrArg some e1) (fun i' j' e => cc_loc i' j' (fun f k q => sU_off (fun z => e (by
    obtain ⟨rfl, rfl⟩ := z
    exact tch_37 q))) (fun _ _ _ => rfl) (fun _ _ _ _ => rfl))⟩
theorem wr4_12 (R : Rep M A s τ) (x : Int32) : ∃ M', pV M 4 12 (some (A 0 0)) (.int x) = some M' ∧ Rep M' A (sU s 37 5 x) τ := by
  have e1 : c0 A (sU s 37 5 x) = .inr (4, [.ref (A 1 0), .ref (A 2 0), .ref (A 3 0), .int (s 2 0), .int (s 7 0), .int (s 11 0), .int (s 1 0), .int (s 37 0), .int (s 37 1), .int (s 37 2), .int (s 37 3), .int (s 37 4), .int x]) := by
    unfold c0
    simp (disch := decide) only [sU_eq, sU_ne, sU_nj]
  exact ⟨_, pV_at (at0 R) (by show 12 < 13; decide), RepC.put R (i := 0) (j := 0) (cc0p _ _ _) (by
    show some (c0 A (sU s 37 5 x)) = _
    exact congrArg some e1) (fun i' j' e => cc_loc i' j' (fun f k q => sU_off (fun z => e (by
    obtain ⟨rfl, rfl⟩ := z
    exact tch_37 q))) (fun _ _ _ => rfl) (fun _ _ _ _ => rfl))⟩
theorem wr3_3 (R : Rep M A s τ) {t : Nat} (ht : s 110 t = 1) (x : Int32) : ∃ M', pV M 3 3 (some (A 4 t)) (.int x) = some M' ∧ Rep M' A (sU s 6 t x) τ := by
  have e1 : c4 (sU s 6 t x) t = .inr (3, [.int (s 3 t), .int (s 4 t), .int (s 5 t), .int x]) := by
    unfold c4
    simp (disch := decide) only [sU_eq, sU_ne]
  exact ⟨_, pV_at (at4 R ht) (by show 3 < 4; decide), RepC.put R (i := 4) (j := t) (cc4p ht) (by
    show (if (sU s 6 t x) 110 t = 1 then some (c4 (sU s 6 t x) t) else none) = _
    rw [sU_ne (by decide), if_pos ht]
    exact congrArg some e1) (fun i' j' e => cc_loc i' j' (fun f k q => sU_off (fun z => e (by
    obtain ⟨rfl, rfl⟩ := z
    exact tch_6 q))) (fun _ _ _ => rfl) (fun _ _ _ _ => rfl))⟩
theorem wr0_2 (R : Rep M A s τ) {t : Nat} (ht : s 112 t = 1) (x : Int32) : ∃ M', pV M 0 2 (some (A 7 t)) (.int x) = some M' ∧ Rep M' A (sU s 22 t x) τ := by
  have e1 : c7 A (sU s 22 t x) t = .inr (0, [.ref (A 5 (t / 8)), .int (nI (t % 8)), .int x, .int (s 23 t), .int (s 50 t), .int (s 51 t), .int (s 25 t), .int (s 26 t), .int (s 27 t), .int (s 28 t), .int (s 30 t), .int (s 31 t), .int (s 32 t), .ref (A 8 t)]) := by
    unfold c7
    simp (disch := decide) only [sU_eq, sU_ne]
  exact ⟨_, pV_at (at7 R ht) (by show 2 < 14; decide), RepC.put R (i := 7) (j := t) (cc7p ht) (by
    show (if (sU s 22 t x) 112 t = 1 then some (c7 A (sU s 22 t x) t) else none) = _
    rw [sU_ne (by decide), if_pos ht]
    exact congrArg some e1) (fun i' j' e => cc_loc i' j' (fun f k q => sU_off (fun z => e (by
    obtain ⟨rfl, rfl⟩ := z
    exact tch_22 q))) (fun _ _ _ => rfl) (fun _ _ _ _ => rfl))⟩
theorem wr0_3 (R : Rep M A s τ) {t : Nat} (ht : s 112 t = 1) (x : Int32) : ∃ M', pV M 0 3 (some (A 7 t)) (.int x) = some M' ∧ Rep M' A (sU s 23 t x) τ := by
  have e1 : c7 A (sU s 23 t x) t = .inr (0, [.ref (A 5 (t / 8)), .int (nI (t % 8)), .int (s 22 t), .int x, .int (s 50 t), .int (s 51 t), .int (s 25 t), .int (s 26 t), .int (s 27 t), .int (s 28 t), .int (s 30 t), .int (s 31 t), .int (s 32 t), .ref (A 8 t)]) := by
    unfold c7
    simp (disch := decide) only [sU_eq, sU_ne]
  exact ⟨_, pV_at (at7 R ht) (by show 3 < 14; decide), RepC.put R (i := 7) (j := t) (cc7p ht) (by
    show (if (sU s 23 t x) 112 t = 1 then some (c7 A (sU s 23 t x) t) else none) = _
    rw [sU_ne (by decide), if_pos ht]
    exact congrArg some e1) (fun i' j' e => cc_loc i' j' (fun f k q => sU_off (fun z => e (by
    obtain ⟨rfl, rfl⟩ := z
    exact tch_23 q))) (fun _ _ _ => rfl) (fun _ _ _ _ => rfl))⟩
theorem wr0_4 (R : Rep M A s τ) {t : Nat} (ht : s 112 t = 1) (x : Int32) : ∃ M', pV M 0 4 (some (A 7 t)) (.int x) = some M' ∧ Rep M' A (sU s 50 t x) τ := by
  have e1 : c7 A (sU s 50 t x) t = .inr (0, [.ref (A 5 (t / 8)), .int (nI (t % 8)), .int (s 22 t), .int (s 23 t), .int x, .int (s 51 t), .int (s 25 t), .int (s 26 t), .int (s 27 t), .int (s 28 t), .int (s 30 t), .int (s 31 t), .int (s 32 t), .ref (A 8 t)]) := by
    unfold c7
    simp (disch := decide) only [sU_eq, sU_ne]
  exact ⟨_, pV_at (at7 R ht) (by show 4 < 14; decide), RepC.put R (i := 7) (j := t) (cc7p ht) (by
    show (if (sU s 50 t x) 112 t = 1 then some (c7 A (sU s 50 t x) t) else none) = _
    rw [sU_ne (by decide), if_pos ht]
    exact congrArg some e1) (fun i' j' e => cc_loc i' j' (fun f k q => sU_off (fun z => e (by
    obtain ⟨rfl, rfl⟩ := z
    exact tch_50 q))) (fun _ _ _ => rfl) (fun _ _ _ _ => rfl))⟩
theorem wr0_5 (R : Rep M A s τ) {t : Nat} (ht : s 112 t = 1) (x : Int32) : ∃ M', pV M 0 5 (some (A 7 t)) (.int x) = some M' ∧ Rep M' A (sU s 51 t x) τ := by
  have e1 : c7 A (sU s 51 t x) t = .inr (0, [.ref (A 5 (t / 8)), .int (nI (t % 8)), .int (s 22 t), .int (s 23 t), .int (s 50 t), .int x, .int (s 25 t), .int (s 26 t), .int (s 27 t), .int (s 28 t), .int (s 30 t), .int (s 31 t), .int (s 32 t), .ref (A 8 t)]) := by
    unfold c7
    simp (disch := decide) only [sU_eq, sU_ne]
  exact ⟨_, pV_at (at7 R ht) (by show 5 < 14; decide), RepC.put R (i := 7) (j := t) (cc7p ht) (by
    show (if (sU s 51 t x) 112 t = 1 then some (c7 A (sU s 51 t x) t) else none) = _
    rw [sU_ne (by decide), if_pos ht]
    exact congrArg some e1) (fun i' j' e => cc_loc i' j' (fun f k q => sU_off (fun z => e (by
    obtain ⟨rfl, rfl⟩ := z
    exact tch_51 q))) (fun _ _ _ => rfl) (fun _ _ _ _ => rfl))⟩
theorem wr0_6 (R : Rep M A s τ) {t : Nat} (ht : s 112 t = 1) (x : Int32) (hx : x = 0 ∨ x = 1) : ∃ M', pZ M 0 6 (some (A 7 t)) x = some M' ∧ Rep M' A (sU s 25 t x) τ := by
  have e1 : c7 A (sU s 25 t x) t = .inr (0, [.ref (A 5 (t / 8)), .int (nI (t % 8)), .int (s 22 t), .int (s 23 t), .int (s 50 t), .int (s 51 t), .int x, .int (s 26 t), .int (s 27 t), .int (s 28 t), .int (s 30 t), .int (s 31 t), .int (s 32 t), .ref (A 8 t)]) := by
    unfold c7
    simp (disch := decide) only [sU_eq, sU_ne]
  exact ⟨_, pZ_at (at7 R ht) hx (by show 6 < 14; decide), RepC.put R (i := 7) (j := t) (cc7p ht) (by
    show (if (sU s 25 t x) 112 t = 1 then some (c7 A (sU s 25 t x) t) else none) = _
    rw [sU_ne (by decide), if_pos ht]
    exact congrArg some e1) (fun i' j' e => cc_loc i' j' (fun f k q => sU_off (fun z => e (by
    obtain ⟨rfl, rfl⟩ := z
    exact tch_25 q))) (fun _ _ _ => rfl) (fun _ _ _ _ => rfl))⟩
theorem wr0_7 (R : Rep M A s τ) {t : Nat} (ht : s 112 t = 1) (x : Int32) (hx : x = 0 ∨ x = 1) : ∃ M', pZ M 0 7 (some (A 7 t)) x = some M' ∧ Rep M' A (sU s 26 t x) τ := by
  have e1 : c7 A (sU s 26 t x) t = .inr (0, [.ref (A 5 (t / 8)), .int (nI (t % 8)), .int (s 22 t), .int (s 23 t), .int (s 50 t), .int (s 51 t), .int (s 25 t), .int x, .int (s 27 t), .int (s 28 t), .int (s 30 t), .int (s 31 t), .int (s 32 t), .ref (A 8 t)]) := by
    unfold c7
    simp (disch := decide) only [sU_eq, sU_ne]
  exact ⟨_, pZ_at (at7 R ht) hx (by show 7 < 14; decide), RepC.put R (i := 7) (j := t) (cc7p ht) (by
    show (if (sU s 26 t x) 112 t = 1 then some (c7 A (sU s 26 t x) t) else none) = _
    rw [sU_ne (by decide), if_pos ht]
    exact congrArg some e1) (fun i' j' e => cc_loc i' j' (fun f k q => sU_off (fun z => e (by
    obtain ⟨rfl, rfl⟩ := z
    exact tch_26 q))) (fun _ _ _ => rfl) (fun _ _ _ _ => rfl))⟩
theorem wr0_8 (R : Rep M A s τ) {t : Nat} (ht : s 112 t = 1) (x : Int32) : ∃ M', pV M 0 8 (some (A 7 t)) (.int x) = some M' ∧ Rep M' A (sU s 27 t x) τ := by
  have e1 : c7 A (sU s 27 t x) t = .inr (0, [.ref (A 5 (t / 8)), .int (nI (t % 8)), .int (s 22 t), .int (s 23 t), .int (s 50 t), .int (s 51 t), .int (s 25 t), .int (s 26 t), .int x, .int (s 28 t), .int (s 30 t), .int (s 31 t), .int (s 32 t), .ref (A 8 t)]) := by
    unfold c7
    simp (disch := decide) only [sU_eq, sU_ne]
  exact ⟨_, pV_at (at7 R ht) (by show 8 < 14; decide), RepC.put R (i := 7) (j := t) (cc7p ht) (by
    show (if (sU s 27 t x) 112 t = 1 then some (c7 A (sU s 27 t x) t) else none) = _
    rw [sU_ne (by decide), if_pos ht]
    exact congrArg some e1) (fun i' j' e => cc_loc i' j' (fun f k q => sU_off (fun z => e (by
    obtain ⟨rfl, rfl⟩ := z
    exact tch_27 q))) (fun _ _ _ => rfl) (fun _ _ _ _ => rfl))⟩
theorem wr0_9 (R : Rep M A s τ) {t : Nat} (ht : s 112 t = 1) (x : Int32) : ∃ M', pV M 0 9 (some (A 7 t)) (.int x) = some M' ∧ Rep M' A (sU s 28 t x) τ := by
  have e1 : c7 A (sU s 28 t x) t = .inr (0, [.ref (A 5 (t / 8)), .int (nI (t % 8)), .int (s 22 t), .int (s 23 t), .int (s 50 t), .int (s 51 t), .int (s 25 t), .int (s 26 t), .int (s 27 t), .int x, .int (s 30 t), .int (s 31 t), .int (s 32 t), .ref (A 8 t)]) := by
    unfold c7
    simp (disch := decide) only [sU_eq, sU_ne]
  exact ⟨_, pV_at (at7 R ht) (by show 9 < 14; decide), RepC.put R (i := 7) (j := t) (cc7p ht) (by
    show (if (sU s 28 t x) 112 t = 1 then some (c7 A (sU s 28 t x) t) else none) = _
    rw [sU_ne (by decide), if_pos ht]
    exact congrArg some e1) (fun i' j' e => cc_loc i' j' (fun f k q => sU_off (fun z => e (by
    obtain ⟨rfl, rfl⟩ := z
    exact tch_28 q))) (fun _ _ _ => rfl) (fun _ _ _ _ => rfl))⟩
theorem wr0_10 (R : Rep M A s τ) {t : Nat} (ht : s 112 t = 1) (x : Int32) : ∃ M', pV M 0 10 (some (A 7 t)) (.int x) = some M' ∧ Rep M' A (sU s 30 t x) τ := by
  have e1 : c7 A (sU s 30 t x) t = .inr (0, [.ref (A 5 (t / 8)), .int (nI (t % 8)), .int (s 22 t), .int (s 23 t), .int (s 50 t), .int (s 51 t), .int (s 25 t), .int (s 26 t), .int (s 27 t), .int (s 28 t), .int x, .int (s 31 t), .int (s 32 t), .ref (A 8 t)]) := by
    unfold c7
    simp (disch := decide) only [sU_eq, sU_ne]
  exact ⟨_, pV_at (at7 R ht) (by show 10 < 14; decide), RepC.put R (i := 7) (j := t) (cc7p ht) (by
    show (if (sU s 30 t x) 112 t = 1 then some (c7 A (sU s 30 t x) t) else none) = _
    rw [sU_ne (by decide), if_pos ht]
    exact congrArg some e1) (fun i' j' e => cc_loc i' j' (fun f k q => sU_off (fun z => e (by
    obtain ⟨rfl, rfl⟩ := z
    exact tch_30 q))) (fun _ _ _ => rfl) (fun _ _ _ _ => rfl))⟩
theorem wr0_11 (R : Rep M A s τ) {t : Nat} (ht : s 112 t = 1) (x : Int32) : ∃ M', pV M 0 11 (some (A 7 t)) (.int x) = some M' ∧ Rep M' A (sU s 31 t x) τ := by
  have e1 : c7 A (sU s 31 t x) t = .inr (0, [.ref (A 5 (t / 8)), .int (nI (t % 8)), .int (s 22 t), .int (s 23 t), .int (s 50 t), .int (s 51 t), .int (s 25 t), .int (s 26 t), .int (s 27 t), .int (s 28 t), .int (s 30 t), .int x, .int (s 32 t), .ref (A 8 t)]) := by
    unfold c7
    simp (disch := decide) only [sU_eq, sU_ne]
  exact ⟨_, pV_at (at7 R ht) (by show 11 < 14; decide), RepC.put R (i := 7) (j := t) (cc7p ht) (by
    show (if (sU s 31 t x) 112 t = 1 then some (c7 A (sU s 31 t x) t) else none) = _
    rw [sU_ne (by decide), if_pos ht]
    exact congrArg some e1) (fun i' j' e => cc_loc i' j' (fun f k q => sU_off (fun z => e (by
    obtain ⟨rfl, rfl⟩ := z
    exact tch_31 q))) (fun _ _ _ => rfl) (fun _ _ _ _ => rfl))⟩
theorem wr0_12 (R : Rep M A s τ) {t : Nat} (ht : s 112 t = 1) (x : Int32) : ∃ M', pV M 0 12 (some (A 7 t)) (.int x) = some M' ∧ Rep M' A (sU s 32 t x) τ := by
  have e1 : c7 A (sU s 32 t x) t = .inr (0, [.ref (A 5 (t / 8)), .int (nI (t % 8)), .int (s 22 t), .int (s 23 t), .int (s 50 t), .int (s 51 t), .int (s 25 t), .int (s 26 t), .int (s 27 t), .int (s 28 t), .int (s 30 t), .int (s 31 t), .int x, .ref (A 8 t)]) := by
    unfold c7
    simp (disch := decide) only [sU_eq, sU_ne]
  exact ⟨_, pV_at (at7 R ht) (by show 12 < 14; decide), RepC.put R (i := 7) (j := t) (cc7p ht) (by
    show (if (sU s 32 t x) 112 t = 1 then some (c7 A (sU s 32 t x) t) else none) = _
    rw [sU_ne (by decide), if_pos ht]
    exact congrArg some e1) (fun i' j' e => cc_loc i' j' (fun f k q => sU_off (fun z => e (by
    obtain ⟨rfl, rfl⟩ := z
    exact tch_32 q))) (fun _ _ _ => rfl) (fun _ _ _ _ => rfl))⟩
theorem wr2_7 (R : Rep M A s τ) {t : Nat} (ht : s 113 t = 1) (x : Int32) : ∃ M', pV M 2 7 (some (A 9 t)) (.int x) = some M' ∧ Rep M' A (sU s 19 t x) τ := by
  have e1 : c9 (sU s 19 t x) t = .inr (2, [.int (s 12 t), .int (s 13 t), .int (s 14 t), .int (s 15 t), .int (s 16 t), .int (s 17 t), .int (s 18 t), .int x, .int (s 20 t), .int (s 21 t)]) := by
    unfold c9
    simp (disch := decide) only [sU_eq, sU_ne]
  exact ⟨_, pV_at (at9 R ht) (by show 7 < 10; decide), RepC.put R (i := 9) (j := t) (cc9p ht) (by
    show (if (sU s 19 t x) 113 t = 1 then some (c9 (sU s 19 t x) t) else none) = _
    rw [sU_ne (by decide), if_pos ht]
    exact congrArg some e1) (fun i' j' e => cc_loc i' j' (fun f k q => sU_off (fun z => e (by
    obtain ⟨rfl, rfl⟩ := z
    exact tch_19 q))) (fun _ _ _ => rfl) (fun _ _ _ _ => rfl))⟩
theorem wr2_8 (R : Rep M A s τ) {t : Nat} (ht : s 113 t = 1) (x : Int32) : ∃ M', pV M 2 8 (some (A 9 t)) (.int x) = some M' ∧ Rep M' A (sU s 20 t x) τ := by
  have e1 : c9 (sU s 20 t x) t = .inr (2, [.int (s 12 t), .int (s 13 t), .int (s 14 t), .int (s 15 t), .int (s 16 t), .int (s 17 t), .int (s 18 t), .int (s 19 t), .int x, .int (s 21 t)]) := by
    unfold c9
    simp (disch := decide) only [sU_eq, sU_ne]
  exact ⟨_, pV_at (at9 R ht) (by show 8 < 10; decide), RepC.put R (i := 9) (j := t) (cc9p ht) (by
    show (if (sU s 20 t x) 113 t = 1 then some (c9 (sU s 20 t x) t) else none) = _
    rw [sU_ne (by decide), if_pos ht]
    exact congrArg some e1) (fun i' j' e => cc_loc i' j' (fun f k q => sU_off (fun z => e (by
    obtain ⟨rfl, rfl⟩ := z
    exact tch_20 q))) (fun _ _ _ => rfl) (fun _ _ _ _ => rfl))⟩
theorem wr2_9 (R : Rep M A s τ) {t : Nat} (ht : s 113 t = 1) (x : Int32) (hx : x = 0 ∨ x = 1) : ∃ M', pZ M 2 9 (some (A 9 t)) x = some M' ∧ Rep M' A (sU s 21 t x) τ := by
  have e1 : c9 (sU s 21 t x) t = .inr (2, [.int (s 12 t), .int (s 13 t), .int (s 14 t), .int (s 15 t), .int (s 16 t), .int (s 17 t), .int (s 18 t), .int (s 19 t), .int (s 20 t), .int x]) := by
    unfold c9
    simp (disch := decide) only [sU_eq, sU_ne]
  exact ⟨_, pZ_at (at9 R ht) hx (by show 9 < 10; decide), RepC.put R (i := 9) (j := t) (cc9p ht) (by
    show (if (sU s 21 t x) 113 t = 1 then some (c9 (sU s 21 t x) t) else none) = _
    rw [sU_ne (by decide), if_pos ht]
    exact congrArg some e1) (fun i' j' e => cc_loc i' j' (fun f k q => sU_off (fun z => e (by
    obtain ⟨rfl, rfl⟩ := z
    exact tch_21 q))) (fun _ _ _ => rfl) (fun _ _ _ _ => rfl))⟩
theorem tcm_a {i j f k : Nat} (h : tcm i j f k) : i = 11 ∧ j = f := by
  unfold tcm at h
  split at h
  · exact ⟨rfl, h.1.symm⟩
  · exact h.elim
theorem upd_sU (s : hσ) (f k : Nat) (x : Int32) : upd (s f) k x = sU s f k x f := funext fun j => by
  by_cases e : j = k
  · subst e
    rw [pk_us, sU_eq]
  · rw [pk_un e, sU_nj e]
theorem hst_ss (M : hM) (a : Nat) (x y : hE) : hst (hst M a x) a y = hst M a y := funext fun q => by
  unfold hst
  by_cases e : q = a
  · rw [if_pos e, if_pos e]
  · rw [if_neg e, if_neg e, if_neg e]
theorem hst_cm (M : hM) {a b : Nat} (x y : hE) (h : a ≠ b) : hst (hst M a x) b y = hst (hst M b y) a x := funext fun q => by
  unfold hst
  by_cases e : q = a
  · rw [if_neg (fun z => h (e.symm.trans z)), if_pos e, if_pos e]
  · by_cases e2 : q = b
    · rw [if_pos e2, if_neg e, if_pos e2]
    · rw [if_neg e2, if_neg e, if_neg e, if_neg e2]
theorem wrA0 (R : Rep M A s τ) {f kd n k : Nat} (hf : mA f = some (kd, n)) (x : Int32) : Rep (hst M (A 11 f) (.inl (kd, n, .inl (upd (τ f) k x)))) A s (sU τ f k x) :=
  RepC.put R (i := 11) (j := f) (x := .inl (kd, n, .inl (τ f))) (by
    show (mA f).map (fun p => (.inl (p.1, p.2, .inl (τ f)) : hE)) = _
    rw [hf]
    rfl) (by
    show (mA f).map (fun p => (.inl (p.1, p.2, .inl (sU τ f k x f)) : hE)) = _
    rw [hf, upd_sU]
    rfl) (fun i' j' e => cc_loc i' j' (fun _ _ _ => rfl) (fun g k' q => sU_off (fun z => e (by
    obtain ⟨rfl, rfl⟩ := z
    exact tcm_a q))) (fun _ _ _ _ => rfl))
theorem wrA (R : Rep M A s τ) {f n k : Nat} (hf : mA f = some (0, n)) (hk : k < n) (hn : n < 2147483648) (x : Int32) : ∃ M', sI M 0 (some (A 11 f)) (nI k) x = some M' ∧ Rep M' A s (sU τ f k x) := ⟨_, sI_at (at11 R hf) hk hn, wrA0 R hf x⟩
theorem wr8 (R : Rep M A s τ) {t k : Nat} (ht : s 119 t = 1) (hk : k < 8) (x : Int32) : ∃ M', sI M 0 (some (A 8 t)) (nI k) x = some M' ∧ Rep M' A (sU s (1001 + 2 * t) k x) τ :=
  ⟨_, sI_at (at8 R ht) hk (by decide), RepC.put R (i := 8) (j := t) (x := c8 s t) (cc8p ht) (by
    show (if sU s (1001 + 2 * t) k x 119 t = 1 then some (c8 (sU s (1001 + 2 * t) k x) t) else none) = _
    rw [sU_ne (by omega), if_pos ht, upd_sU]
    rfl) (fun i' j' e => cc_loc i' j' (fun f k' q => sU_off (fun z => e (by
    obtain ⟨rfl, rfl⟩ := z
    exact tch_F q))) (fun _ _ _ => rfl) (fun _ _ _ _ => rfl))⟩
theorem wrR1 (R : Rep M A s τ) {k : Nat} (hk : k < 8) (ht : s 110 k = 1) : ∃ M', sR M 3 (some (A 1 0)) (nI k) 3 (some (A 4 k)) = some M' ∧ Rep M' A (sU s 114 k 1) τ := by
  have g : va_up (fun k => if s 114 k = 1 then some (A 4 k) else none) k (some (A 4 k)) = fun j => if sU s 114 k 1 114 j = 1 then some (A 4 j) else none := funext fun j => by
    unfold va_up
    by_cases e : j = k
    · subst e
      rw [if_pos rfl, sU_eq, if_pos rfl]
    · rw [if_neg e, sU_nj e]
  exact ⟨_, sR_at (at1 R) hk (by decide) (at4 R ht), RepC.put R (i := 1) (j := 0) (cc1p _ _ _) (by
    show some (c1 A (sU s 114 k 1)) = _
    unfold c1
    rw [g]) (fun i' j' e => cc_loc i' j' (fun f k' q => sU_off (fun z => e (by
    obtain ⟨rfl, rfl⟩ := z
    exact tch_114 q))) (fun _ _ _ => rfl) (fun _ _ _ _ => rfl))⟩
theorem wrR2 (R : Rep M A s τ) {k : Nat} (hk : k < 6) (ht : s 111 k = 1) : ∃ M', sR M 4 (some (A 2 0)) (nI k) 1 (some (A 5 k)) = some M' ∧ Rep M' A (sU s 115 k 1) τ := by
  have g : va_up (fun k => if s 115 k = 1 then some (A 5 k) else none) k (some (A 5 k)) = fun j => if sU s 115 k 1 115 j = 1 then some (A 5 j) else none := funext fun j => by
    unfold va_up
    by_cases e : j = k
    · subst e
      rw [if_pos rfl, sU_eq, if_pos rfl]
    · rw [if_neg e, sU_nj e]
  exact ⟨_, sR_at (at2 R) hk (by decide) (at5 R ht), RepC.put R (i := 2) (j := 0) (cc2p _ _ _) (by
    show some (c2 A (sU s 115 k 1)) = _
    unfold c2
    rw [g]) (fun i' j' e => cc_loc i' j' (fun f k' q => sU_off (fun z => e (by
    obtain ⟨rfl, rfl⟩ := z
    exact tch_115 q))) (fun _ _ _ => rfl) (fun _ _ _ _ => rfl))⟩
theorem wrR3 (R : Rep M A s τ) {k : Nat} (hk : k < 40) (ht : s 113 k = 1) : ∃ M', sR M 5 (some (A 3 0)) (nI k) 2 (some (A 9 k)) = some M' ∧ Rep M' A (sU s 116 k 1) τ := by
  have g : va_up (fun k => if s 116 k = 1 then some (A 9 k) else none) k (some (A 9 k)) = fun j => if sU s 116 k 1 116 j = 1 then some (A 9 j) else none := funext fun j => by
    unfold va_up
    by_cases e : j = k
    · subst e
      rw [if_pos rfl, sU_eq, if_pos rfl]
    · rw [if_neg e, sU_nj e]
  exact ⟨_, sR_at (at3 R) hk (by decide) (at9 R ht), RepC.put R (i := 3) (j := 0) (cc3p _ _ _) (by
    show some (c3 A (sU s 116 k 1)) = _
    unfold c3
    rw [g]) (fun i' j' e => cc_loc i' j' (fun f k' q => sU_off (fun z => e (by
    obtain ⟨rfl, rfl⟩ := z
    exact tch_116 q))) (fun _ _ _ => rfl) (fun _ _ _ _ => rfl))⟩
theorem wrR6 (R : Rep M A s τ) {f p : Nat} (hp : p < 8) (h6 : s 118 f = 1) (ht : s 112 (8 * f + p) = 1) : ∃ M', sR M 6 (some (A 6 f)) (nI p) 0 (some (A 7 (8 * f + p))) = some M' ∧ Rep M' A (sU s (1000 + 2 * f) p 1) τ := by
  have g : va_up (fun k => if s (1000 + 2 * f) k = 1 then some (A 7 (8 * f + k)) else none) p (some (A 7 (8 * f + p))) = fun j => if sU s (1000 + 2 * f) p 1 (1000 + 2 * f) j = 1 then some (A 7 (8 * f + j)) else none := funext fun j => by
    unfold va_up
    by_cases e : j = p
    · subst e
      rw [if_pos rfl, sU_eq, if_pos rfl]
    · rw [if_neg e, sU_nj e]
  exact ⟨_, sR_at (at6 R h6) hp (by decide) (at7 R ht), RepC.put R (i := 6) (j := f) (cc6p h6) (by
    show (if sU s (1000 + 2 * f) p 1 118 f = 1 then some (c6 A (sU s (1000 + 2 * f) p 1) f) else none) = _
    rw [sU_ne (by omega), if_pos h6]
    unfold c6
    rw [g]) (fun i' j' e => cc_loc i' j' (fun f' k' q => sU_off (fun z => e (by
    obtain ⟨rfl, rfl⟩ := z
    exact tch_row q))) (fun _ _ _ => rfl) (fun _ _ _ _ => rfl))⟩
def sV (s : hσ) (f : Nat) (g : Nat → Int32) : hσ := fun f' j' => if f' = f then g j' else s f' j'
theorem sV_eq (s : hσ) (f : Nat) (g : Nat → Int32) (j : Nat) : sV s f g f j = g j := if_pos rfl
theorem sV_ne {s : hσ} {f f' j' : Nat} {g : Nat → Int32} (h : f' ≠ f) : sV s f g f' j' = s f' j' := if_neg h
theorem rfs_4 {i j b : Nat} (h : rfs s i j 4 b) : s 114 b = 1 := by
  unfold rfs at h
  split at h <;> first | exact h.2 | omega | exact h.elim
theorem rfs_9 {i j b : Nat} (h : rfs s i j 9 b) : s 116 b = 1 := by
  unfold rfs at h
  split at h <;> first | exact h.2 | omega | exact h.elim
theorem rfs_5 {i j b : Nat} (h : rfs s i j 5 b) : s 115 b = 1 ∨ (i = 7 ∧ b = j / 8) := by
  unfold rfs at h
  split at h <;> first | exact Or.inl h.2 | (right; omega) | omega | exact h.elim
theorem rfs_6 {i j b : Nat} (h : rfs s i j 6 b) : i = 5 ∧ b = j := by
  unfold rfs at h
  split at h <;> first | omega | exact h.elim
theorem rfs_7 {i j b : Nat} (h : rfs s i j 7 b) : i = 6 ∧ ∃ p, b = 8 * j + p ∧ s (1000 + 2 * j) p = 1 := by
  unfold rfs at h
  split at h <;> first | exact ⟨rfl, h.2⟩ | omega | exact h.elim
theorem rfs_8 {i j b : Nat} (h : rfs s i j 8 b) : i = 7 ∧ b = j := by
  unfold rfs at h
  split at h <;> first | omega | exact h.elim
theorem nw4 (R : Rep M A s τ) {q t : Nat} (hq : M q = none) (h1 : s 114 t = 0) (a b c d : Int32) : Rep (hst M q (.inr (3, [.int a, .int b, .int c, .int d]))) (aU A 4 t q) (sU (sU (sU (sU (sU s 110 t 1) 3 t a) 4 t b) 5 t c) 6 t d) τ :=
  RepC.new R hq (i := 4) (j := t) (by
    show (if (sU (sU (sU (sU (sU s 110 t 1) 3 t a) 4 t b) 5 t c) 6 t d) 110 t = 1 then some (c4 (sU (sU (sU (sU (sU s 110 t 1) 3 t a) 4 t b) 5 t c) 6 t d) t) else none) = _
    unfold c4
    simp (disch := decide) only [sU_eq, sU_ne]
    rfl) (fun i' j' e => cc_loc i' j' (fun f k q => ((sU_off (fun z => e (by
    obtain ⟨rfl, rfl⟩ := z
    exact tch_6 q))).trans ((sU_off (fun z => e (by
    obtain ⟨rfl, rfl⟩ := z
    exact tch_5 q))).trans ((sU_off (fun z => e (by
    obtain ⟨rfl, rfl⟩ := z
    exact tch_4 q))).trans ((sU_off (fun z => e (by
    obtain ⟨rfl, rfl⟩ := z
    exact tch_3 q))).trans (sU_off (fun z => e (by
    obtain ⟨rfl, rfl⟩ := z
    exact tch_110 q)))))))) (fun _ _ _ => rfl) (fun n a b r => aU_off (fun z => by
    obtain ⟨rfl, rfl⟩ := z
    rw [rfs_4 r] at h1
    cases h1)))
theorem nw9 (R : Rep M A s τ) {q t : Nat} (hq : M q = none) (h1 : s 116 t = 0) (x0 x1 x2 x3 x4 x5 x6 x7 x8 x9 : Int32) : Rep (hst M q (.inr (2, [.int x0, .int x1, .int x2, .int x3, .int x4, .int x5, .int x6, .int x7, .int x8, .int x9]))) (aU A 9 t q) (sU (sU (sU (sU (sU (sU (sU (sU (sU (sU (sU s 113 t 1) 12 t x0) 13 t x1) 14 t x2) 15 t x3) 16 t x4) 17 t x5) 18 t x6) 19 t x7) 20 t x8) 21 t x9) τ :=
  RepC.new R hq (i := 9) (j := t) (by
    show (if (sU (sU (sU (sU (sU (sU (sU (sU (sU (sU (sU s 113 t 1) 12 t x0) 13 t x1) 14 t x2) 15 t x3) 16 t x4) 17 t x5) 18 t x6) 19 t x7) 20 t x8) 21 t x9) 113 t = 1 then some (c9 (sU (sU (sU (sU (sU (sU (sU (sU (sU (sU (sU s 113 t 1) 12 t x0) 13 t x1) 14 t x2) 15 t x3) 16 t x4) 17 t x5) 18 t x6) 19 t x7) 20 t x8) 21 t x9) t) else none) = _
    unfold c9
    simp (disch := decide) only [sU_eq, sU_ne]
    rfl) (fun i' j' e => cc_loc i' j' (fun f k q => ((sU_off (fun z => e (by
    obtain ⟨rfl, rfl⟩ := z
    exact tch_21 q))).trans ((sU_off (fun z => e (by
    obtain ⟨rfl, rfl⟩ := z
    exact tch_20 q))).trans ((sU_off (fun z => e (by
    obtain ⟨rfl, rfl⟩ := z
    exact tch_19 q))).trans ((sU_off (fun z => e (by
    obtain ⟨rfl, rfl⟩ := z
    exact tch_18 q))).trans ((sU_off (fun z => e (by
    obtain ⟨rfl, rfl⟩ := z
    exact tch_17 q))).trans ((sU_off (fun z => e (by
    obtain ⟨rfl, rfl⟩ := z
    exact tch_16 q))).trans ((sU_off (fun z => e (by
    obtain ⟨rfl, rfl⟩ := z
    exact tch_15 q))).trans ((sU_off (fun z => e (by
    obtain ⟨rfl, rfl⟩ := z
    exact tch_14 q))).trans ((sU_off (fun z => e (by
    obtain ⟨rfl, rfl⟩ := z
    exact tch_13 q))).trans ((sU_off (fun z => e (by
    obtain ⟨rfl, rfl⟩ := z
    exact tch_12 q))).trans (sU_off (fun z => e (by
    obtain ⟨rfl, rfl⟩ := z
    exact tch_113 q)))))))))))))) (fun _ _ _ => rfl) (fun n a b r => aU_off (fun z => by
    obtain ⟨rfl, rfl⟩ := z
    rw [rfs_9 r] at h1
    cases h1)))
theorem nw5 (R : Rep M A s τ) {q t : Nat} (hq : M q = none) (h1 : s 115 t = 0) (h2 : ∀ j, j / 8 = t → s 112 j ≠ 1) (a b c : Int32) : Rep (hst M q (.inr (1, [.int (nI t), .int a, .int b, .int c, .ref (A 6 t)]))) (aU A 5 t q) (sU (sU (sU (sU s 111 t 1) 8 t a) 9 t b) 10 t c) τ :=
  RepC.new R hq (i := 5) (j := t) (by
    show (if (sU (sU (sU (sU s 111 t 1) 8 t a) 9 t b) 10 t c) 111 t = 1 then some (c5 (aU A 5 t q) (sU (sU (sU (sU s 111 t 1) 8 t a) 9 t b) 10 t c) t) else none) = _
    unfold c5
    simp (disch := decide) only [sU_eq, sU_ne]
    rw [if_pos trivial, aU_off (by omega)]) (fun i' j' e => cc_loc i' j' (fun f k q => ((sU_off (fun z => e (by
    obtain ⟨rfl, rfl⟩ := z
    exact tch_10 q))).trans ((sU_off (fun z => e (by
    obtain ⟨rfl, rfl⟩ := z
    exact tch_9 q))).trans ((sU_off (fun z => e (by
    obtain ⟨rfl, rfl⟩ := z
    exact tch_8 q))).trans (sU_off (fun z => e (by
    obtain ⟨rfl, rfl⟩ := z
    exact tch_111 q))))))) (fun _ _ _ => rfl) (fun n a b r => aU_off (fun z => by
    obtain ⟨rfl, rfl⟩ := z
    rcases rfs_5 r with r5 | ⟨rfl, r5⟩
    · rw [h1] at r5
      cases r5
    · exact n (cc7n (h2 _ r5.symm)))))
theorem nw6 (R : Rep M A s τ) {q t : Nat} (hq : M q = none) (h1 : s 111 t ≠ 1) (h2 : ∀ k, s (1000 + 2 * t) k ≠ 1) : Rep (hst M q (.inl (6, 8, .inr (.inr (.inr (.inr (fun _ => none))))))) (aU A 6 t q) (sU s 118 t 1) τ :=
  RepC.new R hq (i := 6) (j := t) (by
    have g : (fun k => if sU s 118 t 1 (1000 + 2 * t) k = 1 then some (aU A 6 t q 7 (8 * t + k)) else none) = fun _ => none := funext fun k => by
      rw [sU_ne (by omega)]
      exact if_neg (h2 k)
    show (if sU s 118 t 1 118 t = 1 then some (c6 (aU A 6 t q) (sU s 118 t 1) t) else none) = _
    rw [sU_eq, if_pos rfl]
    unfold c6
    rw [g]) (fun i' j' e => cc_loc i' j' (fun f k q => (sU_off (fun z => e (by
    obtain ⟨rfl, rfl⟩ := z
    exact tch_118 q)))) (fun _ _ _ => rfl) (fun n a b r => aU_off (fun z => by
    obtain ⟨rfl, rfl⟩ := z
    obtain ⟨rfl, rfl⟩ := rfs_6 r
    exact n (cc5n h1))))
theorem nw7 (R : Rep M A s τ) {q t : Nat} (hq : M q = none) (h1 : ∀ f p, t = 8 * f + p → s (1000 + 2 * f) p ≠ 1) (z22 : s 22 t = 0) (z23 : s 23 t = 0) (z50 : s 50 t = 0) (z51 : s 51 t = 0) (z25 : s 25 t = 0) (z26 : s 26 t = 0) (z27 : s 27 t = 0) (z28 : s 28 t = 0) (z30 : s 30 t = 0) (z31 : s 31 t = 0) (z32 : s 32 t = 0) : Rep (hst M q (.inr (0, [.ref (A 5 (t / 8)), .int (nI (t % 8)), .int 0, .int 0, .int 0, .int 0, .int 0, .int 0, .int 0, .int 0, .int 0, .int 0, .int 0, .ref (A 8 t)]))) (aU A 7 t q) (sU s 112 t 1) τ :=
  RepC.new R hq (i := 7) (j := t) (by
    show (if sU s 112 t 1 112 t = 1 then some (c7 (aU A 7 t q) (sU s 112 t 1) t) else none) = _
    unfold c7
    simp (disch := decide) only [sU_eq, sU_ne, z22, z23, z50, z51, z25, z26, z27, z28, z30, z31, z32]
    rw [if_pos trivial, aU_off (by omega), aU_off (by omega)]) (fun i' j' e => cc_loc i' j' (fun f k q => (sU_off (fun z => e (by
    obtain ⟨rfl, rfl⟩ := z
    exact tch_112 q)))) (fun _ _ _ => rfl) (fun n a b r => aU_off (fun z => by
    obtain ⟨rfl, rfl⟩ := z
    obtain ⟨rfl, p, r1, r2⟩ := rfs_7 r
    exact h1 _ _ r1 r2)))
theorem nw8 (R : Rep M A s τ) {q t : Nat} (hq : M q = none) (h1 : s 112 t ≠ 1) (g : Nat → Int32) : Rep (hst M q (.inl (0, 8, .inl g))) (aU A 8 t q) (sV (sU s 119 t 1) (1001 + 2 * t) g) τ :=
  RepC.new R hq (i := 8) (j := t) (by
    have g2 : sV (sU s 119 t 1) (1001 + 2 * t) g (1001 + 2 * t) = g := funext fun k => sV_eq _ _ _ _
    show (if sV (sU s 119 t 1) (1001 + 2 * t) g 119 t = 1 then some (c8 (sV (sU s 119 t 1) (1001 + 2 * t) g) t) else none) = _
    rw [sV_ne (by omega), sU_eq, if_pos rfl]
    unfold c8
    rw [g2]) (fun i' j' e => cc_loc i' j' (fun f k q => (sV_ne (fun z => e (by
    subst z
    exact tch_F q))).trans (sU_off (fun z => e (by
    obtain ⟨rfl, rfl⟩ := z
    exact tch_119 q)))) (fun _ _ _ => rfl) (fun n a b r => aU_off (fun z => by
    obtain ⟨rfl, rfl⟩ := z
    obtain ⟨rfl, rfl⟩ := rfs_8 r
    exact n (cc7n h1))))
end HREP
