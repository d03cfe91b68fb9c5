/-! ===== the heap as a map from addresses; pure reads and writes of it ===== -/
abbrev hE : Type := (Nat × vp_A) ⊕ (Nat × List Value)
abbrev hM : Type := Nat → Option hE
abbrev hG : Type := va_G × (Nat → ClassId)
def hcv (dA : Nat → ClassId) (x : hE) : va_E := match x with
  | .inl a => .inl (dA a.1, a.2)
  | .inr o => .inr o
/-- the map tells the heap -/
def hP (G : hG) (M : hM) (H : Heap) : Prop := ∀ (a : Nat) (x : hE), M a = some x → va_at G.1 vwCl (a, hcv G.2 x) H
/-- the arrays' kinds -/
abbrev hTys (G : hG) : List (ClassId × FieldType) := [(G.2 0, .int), (G.2 1, .int), (G.2 2, .int), (G.2 3, .object RX3), (G.2 4, .object RX1), (G.2 5, .object RX2), (G.2 6, .object RX0)]
def hK (G : hG) (U : State) : Prop := va_K G.1 vwCl (hTys G) U
def hst (M : hM) (a : Nat) (x : hE) : hM := fun q => if q = a then some x else M q
theorem hst_s (M : hM) (a : Nat) (x : hE) : hst M a x a = some x := if_pos rfl
theorem hst_n (M : hM) {a q : Nat} (x : hE) (h : q ≠ a) : hst M a x q = M q := if_neg h
def hO (M : hM) (c : Nat) (r : Option Nat) : Option (Nat × List Value) := r.bind fun a => match M a with
  | some (.inr o) => if o.1 = c then some (a, o.2) else none
  | _ => none
def hC (M : hM) (c : Nat) (r : Option Nat) : Option Nat := (hO M c r).map fun p => p.1
def hvI (v : Value) : Option Int32 := match v with
  | .int x => some x
  | _ => none
def hvR (v : Value) : Option (Option Nat) := match v with
  | .ref a => some (some a)
  | .null => some none
  | _ => none
def gI (M : hM) (c k : Nat) (r : Option Nat) : Option Int32 := (hO M c r).bind fun p => (p.2[k]?).bind hvI
def gR (M : hM) (c k : Nat) (r : Option Nat) : Option (Option Nat) := (hO M c r).bind fun p => (p.2[k]?).bind hvR
def pV (M : hM) (c k : Nat) (r : Option Nat) (v : Value) : Option hM := (hO M c r).bind fun p => if k < p.2.length then some (hst M p.1 (.inr (c, p.2.set k v))) else none
def pZ (M : hM) (c k : Nat) (r : Option Nat) (x : Int32) : Option hM := if x = 0 ∨ x = 1 then pV M c k r (.int x) else none
def hA (M : hM) (kd : Nat) (r : Option Nat) : Option (Nat × vp_A) := r.bind fun a => match M a with
  | some (.inl o) => if o.1 = kd then some (a, o.2) else none
  | _ => none
def aL (M : hM) (kd : Nat) (r : Option Nat) : Option Int32 := (hA M kd r).map fun p => Int32.ofNat p.2.1
def aI (M : hM) (kd : Nat) (r : Option Nat) (i : Int32) : Option Int32 := (hA M kd r).bind fun p => match p.2.2 with
  | .inl f => if 0 ≤ i.toInt ∧ i.toInt < (p.2.1 : Int) then some (f i.toNatClampNeg) else none
  | _ => none
def aJ (M : hM) (kd : Nat) (r : Option Nat) (i : Int32) : Option Int64 := (hA M kd r).bind fun p => match p.2.2 with
  | .inr (.inl f) => if 0 ≤ i.toInt ∧ i.toInt < (p.2.1 : Int) then some (f i.toNatClampNeg) else none
  | _ => none
def aR (M : hM) (kd : Nat) (r : Option Nat) (i : Int32) : Option (Option Nat) := (hA M kd r).bind fun p => match p.2.2 with
  | .inr (.inr (.inr (.inr f))) => if 0 ≤ i.toInt ∧ i.toInt < (p.2.1 : Int) then some (f i.toNatClampNeg) else none
  | _ => none
def sI (M : hM) (kd : Nat) (r : Option Nat) (i x : Int32) : Option hM := (hA M kd r).bind fun p => match p.2.2 with
  | .inl f => if 0 ≤ i.toInt ∧ i.toInt < (p.2.1 : Int) then some (hst M p.1 (.inl (kd, p.2.1, .inl (upd f i.toNatClampNeg x)))) else none
  | _ => none
def sZ (M : hM) (kd : Nat) (r : Option Nat) (i x : Int32) : Option hM := if x = 0 ∨ x = 1 then sI M kd r i x else none
def sJ (M : hM) (kd : Nat) (r : Option Nat) (i : Int32) (x : Int64) : Option hM := (hA M kd r).bind fun p => match p.2.2 with
  | .inr (.inl f) => if 0 ≤ i.toInt ∧ i.toInt < (p.2.1 : Int) then some (hst M p.1 (.inl (kd, p.2.1, .inr (.inl (vp_updL f i.toNatClampNeg x))))) else none
  | _ => none
/-- an object of class c into an array of references -/
def sR (M : hM) (kd : Nat) (r : Option Nat) (i : Int32) (c : Nat) (v : Option Nat) : Option hM := (hA M kd r).bind fun p => match p.2.2 with
  | .inr (.inr (.inr (.inr f))) => if 0 ≤ i.toInt ∧ i.toInt < (p.2.1 : Int) then (hC M c v).map fun b => hst M p.1 (.inl (kd, p.2.1, .inr (.inr (.inr (.inr (va_up f i.toNatClampNeg (some b))))))) else none
  | _ => none
theorem hO_inv {M : hM} {c : Nat} {r : Option Nat} {p : Nat × List Value} (h : hO M c r = some p) : r = some p.1 ∧ M p.1 = some (.inr (c, p.2)) := by
  cases r with
  | none => exact absurd h (by simp [hO])
  | some a =>
    simp only [hO, Option.bind_some] at h
    split at h
    · rename_i o ho
      split at h
      · rename_i hc
        cases h
        subst hc
        exact ⟨rfl, ho⟩
      · cases h
    · cases h
theorem hC_inv {M : hM} {c : Nat} {r : Option Nat} {a : Nat} (h : hC M c r = some a) : r = some a ∧ ∃ fs, M a = some (.inr (c, fs)) := by
  obtain ⟨p, hp, rfl⟩ := Option.map_eq_some_iff.mp h
  obtain ⟨h1, h2⟩ := hO_inv hp
  exact ⟨h1, p.2, h2⟩
theorem hvI_inv {v : Value} {x : Int32} (h : hvI v = some x) : v = .int x := by
  cases v <;> simp [hvI] at h
  subst h
  rfl
theorem hvR_inv {v : Value} {x : Option Nat} (h : hvR v = some x) : v = va_rf x := by
  cases v <;> simp [hvR] at h
  · subst h; rfl
  · subst h; rfl
theorem gI_inv {M : hM} {c k : Nat} {r : Option Nat} {x : Int32} (h : gI M c k r = some x) : ∃ a fs, r = some a ∧ M a = some (.inr (c, fs)) ∧ fs[k]? = some (.int x) := by
  obtain ⟨p, hp, h⟩ := Option.bind_eq_some_iff.mp h
  obtain ⟨v, hv, h⟩ := Option.bind_eq_some_iff.mp h
  obtain ⟨h1, h2⟩ := hO_inv hp
  rw [hvI_inv h] at hv
  exact ⟨p.1, p.2, h1, h2, hv⟩
theorem gR_inv {M : hM} {c k : Nat} {r : Option Nat} {x : Option Nat} (h : gR M c k r = some x) : ∃ a fs, r = some a ∧ M a = some (.inr (c, fs)) ∧ fs[k]? = some (va_rf x) := by
  obtain ⟨p, hp, h⟩ := Option.bind_eq_some_iff.mp h
  obtain ⟨v, hv, h⟩ := Option.bind_eq_some_iff.mp h
  obtain ⟨h1, h2⟩ := hO_inv hp
  rw [hvR_inv h] at hv
  exact ⟨p.1, p.2, h1, h2, hv⟩
theorem pV_inv {M M' : hM} {c k : Nat} {r : Option Nat} {v : Value} (h : pV M c k r v = some M') : ∃ a fs, r = some a ∧ M a = some (.inr (c, fs)) ∧ k < fs.length ∧ M' = hst M a (.inr (c, fs.set k v)) := by
  obtain ⟨p, hp, h⟩ := Option.bind_eq_some_iff.mp h
  obtain ⟨h1, h2⟩ := hO_inv hp
  split at h
  · rename_i hk
    cases h
    exact ⟨p.1, p.2, h1, h2, hk, rfl⟩
  · cases h
theorem pZ_inv {M M' : hM} {c k : Nat} {r : Option Nat} {x : Int32} (h : pZ M c k r x = some M') : (x = 0 ∨ x = 1) ∧ pV M c k r (.int x) = some M' := by
  unfold pZ at h
  split at h
  · rename_i hx
    exact ⟨hx, h⟩
  · cases h
theorem hA_inv {M : hM} {kd : Nat} {r : Option Nat} {p : Nat × vp_A} (h : hA M kd r = some p) : r = some p.1 ∧ M p.1 = some (.inl (kd, p.2)) := by
  cases r with
  | none => exact absurd h (by simp [hA])
  | some a =>
    simp only [hA, Option.bind_some] at h
    split at h
    · rename_i o ho
      split at h
      · rename_i hc
        cases h
        subst hc
        exact ⟨rfl, ho⟩
      · cases h
    · cases h
theorem aL_inv {M : hM} {kd : Nat} {r : Option Nat} {x : Int32} (h : aL M kd r = some x) : ∃ a v, r = some a ∧ M a = some (.inl (kd, v)) ∧ x = Int32.ofNat v.1 := by
  obtain ⟨p, hp, rfl⟩ := Option.map_eq_some_iff.mp h
  obtain ⟨h1, h2⟩ := hA_inv hp
  exact ⟨p.1, p.2, h1, h2, rfl⟩
theorem h_in {i : Int32} {n : Nat} (h : 0 ≤ i.toInt ∧ i.toInt < (n : Int)) : vp_in i n := vp_in_iff.mpr h
theorem aI_inv {M : hM} {kd : Nat} {r : Option Nat} {i x : Int32} (h : aI M kd r i = some x) : ∃ a n f, r = some a ∧ M a = some (.inl (kd, n, .inl f)) ∧ vp_in i n ∧ x = f i.toNatClampNeg := by
  obtain ⟨⟨a, n, d⟩, hp, h⟩ := Option.bind_eq_some_iff.mp h
  obtain ⟨h1, h2⟩ := hA_inv hp
  rcases d with f | d
  · simp only at h
    split at h
    · rename_i hi
      cases h
      exact ⟨a, n, f, h1, h2, h_in hi, rfl⟩
    · cases h
  · cases h
theorem aJ_inv {M : hM} {kd : Nat} {r : Option Nat} {i : Int32} {x : Int64} (h : aJ M kd r i = some x) : ∃ a n f, r = some a ∧ M a = some (.inl (kd, n, .inr (.inl f))) ∧ vp_in i n ∧ x = f i.toNatClampNeg := by
  obtain ⟨⟨a, n, d⟩, hp, h⟩ := Option.bind_eq_some_iff.mp h
  obtain ⟨h1, h2⟩ := hA_inv hp
  rcases d with f | f | d
  · cases h
  · simp only at h
    split at h
    · rename_i hi
      cases h
      exact ⟨a, n, f, h1, h2, h_in hi, rfl⟩
    · cases h
  · cases h
theorem aR_inv {M : hM} {kd : Nat} {r : Option Nat} {i : Int32} {x : Option Nat} (h : aR M kd r i = some x) : ∃ a n f, r = some a ∧ M a = some (.inl (kd, n, .inr (.inr (.inr (.inr f))))) ∧ vp_in i n ∧ x = f i.toNatClampNeg := by
  obtain ⟨⟨a, n, d⟩, hp, h⟩ := Option.bind_eq_some_iff.mp h
  obtain ⟨h1, h2⟩ := hA_inv hp
  rcases d with f | f | f | f | f
  · cases h
  · cases h
  · cases h
  · cases h
  · simp only at h
    split at h
    · rename_i hi
      cases h
      exact ⟨a, n, f, h1, h2, h_in hi, rfl⟩
    · cases h
theorem sI_inv {M M' : hM} {kd : Nat} {r : Option Nat} {i x : Int32} (h : sI M kd r i x = some M') : ∃ a n f, r = some a ∧ M a = some (.inl (kd, n, .inl f)) ∧ vp_in i n ∧ M' = hst M a (.inl (kd, n, .inl (upd f i.toNatClampNeg x))) := by
  obtain ⟨⟨a, n, d⟩, hp, h⟩ := Option.bind_eq_some_iff.mp h
  obtain ⟨h1, h2⟩ := hA_inv hp
  rcases d with f | d
  · simp only at h
    split at h
    · rename_i hi
      cases h
      exact ⟨a, n, f, h1, h2, h_in hi, rfl⟩
    · cases h
  · cases h
theorem sZ_inv {M M' : hM} {kd : Nat} {r : Option Nat} {i x : Int32} (h : sZ M kd r i x = some M') : (x = 0 ∨ x = 1) ∧ sI M kd r i x = some M' := by
  unfold sZ at h
  split at h
  · rename_i hx
    exact ⟨hx, h⟩
  · cases h
theorem sJ_inv {M M' : hM} {kd : Nat} {r : Option Nat} {i : Int32} {x : Int64} (h : sJ M kd r i x = some M') : ∃ a n f, r = some a ∧ M a = some (.inl (kd, n, .inr (.inl f))) ∧ vp_in i n ∧ M' = hst M a (.inl (kd, n, .inr (.inl (vp_updL f i.toNatClampNeg x)))) := by
  obtain ⟨⟨a, n, d⟩, hp, h⟩ := Option.bind_eq_some_iff.mp h
  obtain ⟨h1, h2⟩ := hA_inv hp
  rcases d with f | f | d
  · cases h
  · simp only at h
    split at h
    · rename_i hi
      cases h
      exact ⟨a, n, f, h1, h2, h_in hi, rfl⟩
    · cases h
  · cases h
theorem sR_inv {M M' : hM} {kd c : Nat} {r v : Option Nat} {i : Int32} (h : sR M kd r i c v = some M') : ∃ a n f b fs, r = some a ∧ M a = some (.inl (kd, n, .inr (.inr (.inr (.inr f))))) ∧ vp_in i n ∧ v = some b ∧ M b = some (.inr (c, fs)) ∧ M' = hst M a (.inl (kd, n, .inr (.inr (.inr (.inr (va_up f i.toNatClampNeg (some b))))))) := by
  obtain ⟨⟨a, n, d⟩, hp, h⟩ := Option.bind_eq_some_iff.mp h
  obtain ⟨h1, h2⟩ := hA_inv hp
  rcases d with f | f | f | f | f
  · cases h
  · cases h
  · cases h
  · cases h
  · simp only at h
    split at h
    · rename_i hi
      obtain ⟨b, hb, rfl⟩ := Option.map_eq_some_iff.mp h
      obtain ⟨h3, fs, h4⟩ := hC_inv hb
      exact ⟨a, n, f, b, fs, h1, h2, h_in hi, h3, h4, rfl⟩
    · cases h
theorem hP.one {G : hG} {M : hM} {H : Heap} (h : hP G M H) {a : Nat} {x : hE} (hm : M a = some x) : va_P G.1 vwCl [(a, hcv G.2 x)] H := by
  intro k q hk
  have hz : k < 1 := (List.getElem?_eq_some_iff.mp hk).1
  rw [show k = 0 by omega] at hk
  cases hk
  exact h a x hm
theorem hP.lt {G : hG} {M : hM} {H : Heap} (h : hP G M H) {a : Nat} {x : hE} (hm : M a = some x) : a < H.size := (h a x hm).lt
theorem hP.set {G : hG} {M : hM} {H H1 : Heap} (h : hP G M H) {a : Nat} {x : hE} (hx : va_at G.1 vwCl (a, hcv G.2 x) H1) (oq : ∀ q : Nat, q ≠ a → H1[q]? = H[q]?) : hP G (hst M a x) H1 := by
  intro q y hy
  by_cases hq : q = a
  · subst hq
    rw [hst_s] at hy
    cases hy
    exact hx
  · rw [hst_n _ _ hq] at hy
    exact (h q y hy).kept (oq q hq)
theorem hP.new {G : hG} {M : hM} {H H1 : Heap} (h : hP G M H) {x : hE} (hx : va_at G.1 vwCl (H.size, hcv G.2 x) H1) (oq : ∀ q : Nat, q < H.size → H1[q]? = H[q]?) : hP G (hst M H.size x) H1 := by
  intro q y hy
  by_cases hq : q = H.size
  · subst hq
    rw [hst_s] at hy
    cases hy
    exact hx
  · rw [hst_n _ _ hq] at hy
    exact (h q y hy).kept (oq q (h.lt hy))
theorem hP.fresh {G : hG} {M : hM} {H : Heap} (h : hP G M H) : M H.size = none := by
  cases hm : M H.size with
  | none => rfl
  | some x => exact absurd (h.lt hm) (Nat.lt_irrefl _)
theorem hP.kept {G : hG} {M : hM} {H H1 : Heap} (h : hP G M H) (hq : ∀ (a : Nat) (x : hE), M a = some x → H1[a]? = H[a]?) : hP G M H1 := fun a x hm => (h a x hm).kept (hq a x hm)
/-! ===== locals as a list by their places, all of one slot ===== -/
def lw_as : Nat → List (Option Value) → List (Nat × Value)
  | _, [] => []
  | i, none :: t => lw_as (i + 1) t
  | i, some v :: t => (i, v) :: lw_as (i + 1) t
theorem lw_as_mem : ∀ (l : List (Option Value)) (i : Nat) (q : Nat × Value), q ∈ lw_as i l ↔ i ≤ q.1 ∧ l[q.1 - i]? = some (some q.2)
  | [], i, q => by simp [lw_as]
  | none :: t, i, q => by
    rw [lw_as, lw_as_mem t (i + 1) q]
    constructor
    · rintro ⟨h1, h2⟩
      refine ⟨by omega, ?_⟩
      rw [show q.1 - i = (q.1 - (i + 1)) + 1 by omega, List.getElem?_cons_succ]
      exact h2
    · rintro ⟨h1, h2⟩
      by_cases e : q.1 = i
      · rw [e, Nat.sub_self, List.getElem?_cons_zero] at h2
        cases h2
      · refine ⟨by omega, ?_⟩
        rw [show q.1 - i = (q.1 - (i + 1)) + 1 by omega, List.getElem?_cons_succ] at h2
        exact h2
  | some v :: t, i, q => by
    rw [lw_as, List.mem_cons, lw_as_mem t (i + 1) q]
    constructor
    · rintro (rfl | ⟨h1, h2⟩)
      · refine ⟨Nat.le_refl _, ?_⟩
        simp
      · refine ⟨by omega, ?_⟩
        rw [show q.1 - i = (q.1 - (i + 1)) + 1 by omega, List.getElem?_cons_succ]
        exact h2
    · rintro ⟨h1, h2⟩
      by_cases e : q.1 = i
      · left
        rw [e, Nat.sub_self, List.getElem?_cons_zero] at h2
        cases h2
        cases q
        cases e
        rfl
      · right
        refine ⟨by omega, ?_⟩
        rw [show q.1 - i = (q.1 - (i + 1)) + 1 by omega, List.getElem?_cons_succ] at h2
        exact h2
/-- a long lies at its place, the place behind it is free -/
def lw_has (ls : Array Slot) (nL : Nat) (l : List (Option Value)) : Prop := lv_has ls nL (lw_as 0 l) ∧ l.length = nL ∧ ∀ (i : Nat) (v : Value), l[i]? = some (some v) → v.category = 1 ∨ l[i + 1]? = some none
theorem lw_at {ls : Array Slot} {nL : Nat} {l : List (Option Value)} (h : lw_has ls nL l) {i : Nat} {v : Value} (hi : l[i]? = some (some v)) : ls[i]? = some (.val v) := by
  have hm : (i, v) ∈ lw_as 0 l := (lw_as_mem l 0 (i, v)).mpr ⟨Nat.zero_le _, hi⟩
  exact h.1.2.2 _ hm
theorem lw_sub {ls : Array Slot} {nL : Nat} {l l' : List (Option Value)} (h : lw_has ls nL l) (hn : l'.length = l.length) (hs : ∀ (i : Nat) (v : Value), l'[i]? = some (some v) → l[i]? = some (some v)) : lw_has ls nL l' := by
  refine ⟨⟨h.1.1, h.1.2.1, fun q hq => ?_⟩, hn.trans h.2.1, fun i v hi => ?_⟩
  · obtain ⟨-, h2⟩ := (lw_as_mem l' 0 q).mp hq
    exact lw_at h (hs _ _ h2)
  · rcases h.2.2 i v (hs i v hi) with h1 | h1
    · exact Or.inl h1
    · right
      have hl := (List.getElem?_eq_some_iff.mp h1).1
      cases hz : l'[i + 1]? with
      | none =>
        have := List.getElem?_eq_none_iff.mp hz
        omega
      | some z =>
        cases z with
        | none => rfl
        | some w =>
          have := hs _ _ hz
          rw [h1] at this
          cases this
/-- no long begins right ahead of this place -/
def lw_nb (l : List (Option Value)) (i : Nat) : Prop := ∀ (j : Nat) (w : Value), j + 1 = i → l[j]? = some (some w) → w.category = 1
theorem lw_b0 {l : List (Option Value)} : lw_nb l 0 := fun j _ h => by omega
theorem lw_bn {l : List (Option Value)} {j : Nat} (h : l[j]? = some none) : lw_nb l (j + 1) := fun k w e hk => by
  rw [show k = j by omega, h] at hk
  cases hk
theorem lw_bi {l : List (Option Value)} {j : Nat} {x : Int32} (h : l[j]? = some (some (.int x))) : lw_nb l (j + 1) := fun k w e hk => by
  rw [show k = j by omega, h] at hk
  cases hk
  rfl
theorem lw_br {l : List (Option Value)} {j : Nat} {r : Option Nat} (h : l[j]? = some (some (va_rf r))) : lw_nb l (j + 1) := fun k w e hk => by
  rw [show k = j by omega, h] at hk
  cases hk
  cases r <;> rfl
theorem lw_bs {ls : Array Slot} {nL i : Nat} {l : List (Option Value)} {v : Value} (h : lw_has ls nL l) (hi : l[i]? = some (some v)) : lw_nb l i := fun j w e hj => by
  rcases h.2.2 j w hj with h1 | h1
  · exact h1
  · rw [e, hi] at h1
    cases h1
theorem lw_set {ls ls' : Array Slot} {nL i : Nat} {l : List (Option Value)} {v : Value} (h : lw_has ls nL l) (hi : i < l.length) (hc : v.category = 1) (hb : lw_nb l i)
    (h' : lv_has ls' nL ((i, v) :: (lw_as 0 l).filter (fun q => !(q.1 == i) && !(q.1 + 1 == i && q.2.category == 2)))) : lw_has ls' nL (l.set i (some v)) := by
  have key : ∀ (j : Nat) (w : Value), (l.set i (some v))[j]? = some (some w) → (j = i ∧ w = v) ∨ (j ≠ i ∧ l[j]? = some (some w)) := by
    intro j w hj
    by_cases e : j = i
    · subst e
      rw [List.getElem?_set_self hi] at hj
      cases hj
      exact Or.inl ⟨rfl, rfl⟩
    · rw [List.getElem?_set_ne (Ne.symm e)] at hj
      exact Or.inr ⟨e, hj⟩
  refine ⟨⟨h'.1, h'.2.1, fun q hq => ?_⟩, by rw [List.length_set]; exact h.2.1, fun j w hj => ?_⟩
  · obtain ⟨-, h2⟩ := (lw_as_mem _ 0 q).mp hq
    refine h'.2.2 q ?_
    rcases key _ _ h2 with ⟨e1, e2⟩ | ⟨e1, e2⟩
    · cases q
      simp only [Nat.sub_zero] at e1 e2
      subst e1; subst e2
      exact List.mem_cons_self
    · refine List.mem_cons_of_mem _ (List.mem_filter.mpr ⟨(lw_as_mem l 0 q).mpr ⟨Nat.zero_le _, e2⟩, ?_⟩)
      have e3 : (q.1 == i) = false := by
        rw [beq_eq_false_iff_ne]
        exact e1
      by_cases e4 : q.1 + 1 = i
      · have hcat := hb q.1 q.2 e4 e2
        simp [e3, hcat]
      · have e5 : (q.1 + 1 == i) = false := by
          rw [beq_eq_false_iff_ne]
          exact e4
        simp [e3, e5]
  · rcases key _ _ hj with ⟨-, rfl⟩ | ⟨e1, e2⟩
    · exact Or.inl hc
    · rcases h.2.2 _ _ e2 with h3 | h3
      · exact Or.inl h3
      · by_cases e4 : j + 1 = i
        · exact Or.inl (hb j w e4 e2)
        · right
          rw [List.getElem?_set_ne (Ne.symm e4)]
          exact h3
theorem lw_setL {ls ls' : Array Slot} {nL i : Nat} {l : List (Option Value)} {x : Int64} (h : lw_has ls nL l) (hi : i + 1 < l.length) (hb : lw_nb l i)
    (h' : lv_has ls' nL ((i, .long x) :: (lw_as 0 l).filter (fun q => !(q.1 == i) && (!(q.1 == i + 1) && !(q.1 + 1 == i && q.2.category == 2))))) : lw_has ls' nL ((l.set i (some (.long x))).set (i + 1) none) := by
  have key : ∀ (j : Nat) (w : Value), ((l.set i (some (.long x))).set (i + 1) none)[j]? = some (some w) → (j = i ∧ w = .long x) ∨ (j ≠ i ∧ j ≠ i + 1 ∧ l[j]? = some (some w)) := by
    intro j w hj
    by_cases e0 : j = i + 1
    · subst e0
      rw [List.getElem?_set_self (by rw [List.length_set]; exact hi)] at hj
      cases hj
    · rw [List.getElem?_set_ne (Ne.symm e0)] at hj
      by_cases e : j = i
      · subst e
        rw [List.getElem?_set_self (by omega)] at hj
        cases hj
        exact Or.inl ⟨rfl, rfl⟩
      · rw [List.getElem?_set_ne (Ne.symm e)] at hj
        exact Or.inr ⟨e, e0, hj⟩
  refine ⟨⟨h'.1, h'.2.1, fun q hq => ?_⟩, by rw [List.length_set, List.length_set]; exact h.2.1, fun j w hj => ?_⟩
  · obtain ⟨-, h2⟩ := (lw_as_mem _ 0 q).mp hq
    refine h'.2.2 q ?_
    rcases key _ _ h2 with ⟨e1, e2⟩ | ⟨e1, e0, e2⟩
    · cases q
      simp only [Nat.sub_zero] at e1 e2
      subst e1; subst e2
      exact List.mem_cons_self
    · refine List.mem_cons_of_mem _ (List.mem_filter.mpr ⟨(lw_as_mem l 0 q).mpr ⟨Nat.zero_le _, e2⟩, ?_⟩)
      rw [Nat.sub_zero] at e0 e1
      have e3 : (q.1 == i) = false := by
        rw [beq_eq_false_iff_ne]
        exact e1
      have e6 : (q.1 == i + 1) = false := by
        rw [beq_eq_false_iff_ne]
        exact e0
      by_cases e4 : q.1 + 1 = i
      · have hcat := hb q.1 q.2 e4 e2
        simp [e3, e6, hcat]
      · have e5 : (q.1 + 1 == i) = false := by
          rw [beq_eq_false_iff_ne]
          exact e4
        simp [e3, e5, e6]
  · rcases key _ _ hj with ⟨rfl, rfl⟩ | ⟨e1, e0, e2⟩
    · right
      rw [List.getElem?_set_self (by rw [List.length_set]; exact hi)]
    · rcases h.2.2 _ _ e2 with h3 | h3
      · exact Or.inl h3
      · by_cases e4 : j + 1 = i
        · exact Or.inl (hb j w e4 e2)
        · right
          rw [List.getElem?_set_ne (by omega), List.getElem?_set_ne (Ne.symm e4)]
          exact h3
theorem lw_args : ∀ (vs : List Value) (i : Nat), (∀ v ∈ vs, v.category = 1) → lv_args i vs = lw_as i (vs.map some)
  | [], _, _ => rfl
  | v :: vs, i, h => by
    have hv : v.category = 1 := h v List.mem_cons_self
    rw [lv_args, if_neg (by rw [hv]; decide), List.map_cons, lw_as, lw_args vs (i + 1) (fun w hw => h w (List.mem_cons_of_mem _ hw))]
theorem lw_as_none : ∀ (l : List (Option Value)) (i n : Nat), lw_as i (l ++ List.replicate n none) = lw_as i l
  | [], i, 0 => rfl
  | [], i, n + 1 => by
    rw [List.nil_append, List.replicate_succ, lw_as]
    exact lw_as_none [] (i + 1) n
  | none :: t, i, n => by
    rw [List.cons_append, lw_as, lw_as]
    exact lw_as_none t (i + 1) n
  | some v :: t, i, n => by
    rw [List.cons_append, lw_as, lw_as, lw_as_none t (i + 1) n]
theorem lg_sl_len : ∀ (vs : List Value), (∀ v ∈ vs, v.category = 1) → (lg_sl vs).length = vs.length
  | [], _ => rfl
  | v :: vs, h => by
    have hv : v.category = 1 := h v List.mem_cons_self
    have e : lg_sl (v :: vs) = Slot.val v :: lg_sl vs := by simp [lg_sl, hv]
    rw [e, List.length_cons, List.length_cons, lg_sl_len vs (fun w hw => h w (List.mem_cons_of_mem _ hw))]
theorem lw_entry (vs : List Value) {n : Nat} (hc : ∀ v ∈ vs, v.category = 1) (hn : vs.length ≤ n) : lw_has ((lg_sl vs ++ List.replicate (n - (lg_sl vs).length) Slot.unset).toArray) n (vs.map some ++ List.replicate (n - vs.length) none) := by
  have h := lv_entry vs (n := n) (by rw [lg_sl_len vs hc]; exact hn)
  refine ⟨?_, by simp; omega, fun i v hi => ?_⟩
  · rw [lw_as_none, ← lw_args vs 0 hc]
    exact h
  · have hm : (i, v) ∈ lw_as 0 (vs.map some ++ List.replicate (n - vs.length) none) := (lw_as_mem _ 0 (i, v)).mpr ⟨Nat.zero_le _, hi⟩
    rw [lw_as_none] at hm
    obtain ⟨-, h2⟩ := (lw_as_mem _ 0 (i, v)).mp hm
    have h3 := List.mem_of_getElem? h2
    obtain ⟨w, hw, e⟩ := List.mem_map.mp h3
    cases e
    exact Or.inl (hc _ hw)
theorem rf_cat (r : Option Nat) : (va_rf r).category = 1 := by cases r <;> rfl
