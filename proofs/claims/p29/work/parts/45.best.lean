/-! ===== the best set: an order of the sets, its greatest one ===== -/
theorem bt_nI (n : Nat) {k : Nat} (hk : k < 32) : bt (nI n) k = n.testBit k := by
  show (BitVec.ofNat 32 n).getLsbD k = n.testBit k
  rw [BitVec.getLsbD_ofNat]
  simp [hk]
theorem hb_nI (n : Nat) {k : Nat} (hk : k < 32) : hb (nI n) (nI k) = n.testBit k := (hb_bt _ hk).trans (bt_nI n hk)
theorem or_nI (a b : Nat) : nI a ||| nI b = nI (a ||| b) := b_ext fun i hi => by rw [b_or, bt_nI _ hi, bt_nI _ hi, bt_nI _ hi, Nat.testBit_or]
theorem bitN_nI {k : Nat} (hk : k < 31) : bitN k = nI (2 ^ k) := b_ext fun i hi => by
  rw [bt_bitN (by omega) hi, bt_nI _ hi, Nat.testBit_two_pow]
  exact decide_eq_decide.mpr eq_comm
theorem popN_le (n : Nat) : popN n ≤ 8 := by
  unfold popN
  omega
def Ky (h : Nat → Nat) (n : Nat) : Nat := h n * 65536 + (8 - popN n) * 256 + (255 - n)
theorem Ky_inj {h : Nat → Nat} {a b : Nat} (ha : a < 256) (hb' : b < 256) (e : Ky h a = Ky h b) : a = b := by
  have h1 := popN_le a
  have h2 := popN_le b
  unfold Ky at e
  omega
theorem zs0 {x y : Nat} (hx : x < 1000) (hy : y < 1000) : nI x - nI y = 0 ↔ x = y := by
  rw [← Int32.toInt_inj, pk_sub_toInt (by omega) (by omega), show (0 : Int32).toInt = 0 by decide]
  omega
theorem zsl {x y : Nat} (hx : x < 1000) (hy : y < 1000) : nI x - nI y ≤ 0 ↔ x ≤ y := by
  rw [Int32.le_iff_toInt_le, pk_sub_toInt (by omega) (by omega), show (0 : Int32).toInt = 0 by decide]
  omega
def Up (h : Nat → Nat) (f : Nat) (S : Nat → Prop) (r : Nat) : Prop := (r = f ∨ S r) ∧ Ky h f ≤ Ky h r ∧ ∀ n, S n → Ky h n ≤ Ky h r
theorem Up.one (h : Nat → Nat) (a b : Nat) : Up h a (fun n => n = b) (if Ky h a < Ky h b then b else a) := by
  by_cases e : Ky h a < Ky h b
  · rw [if_pos e]
    exact ⟨Or.inr rfl, by omega, fun n hn => by rw [hn]; exact Nat.le_refl _⟩
  · rw [if_neg e]
    exact ⟨Or.inl rfl, Nat.le_refl _, fun n hn => by rw [hn]; omega⟩
theorem Up.seq {h : Nat → Nat} {f r1 r2 : Nat} {S1 S2 S : Nat → Prop} (u1 : Up h f S1 r1) (u2 : Up h r1 S2 r2) (hS : ∀ n, S n ↔ S1 n ∨ S2 n) : Up h f S r2 := by
  refine ⟨?_, Nat.le_trans u1.2.1 u2.2.1, fun n hn => ?_⟩
  · rcases u2.1 with e | e
    · rw [e]
      rcases u1.1 with e1 | e1
      · exact Or.inl e1
      · exact Or.inr ((hS _).mpr (Or.inl e1))
    · exact Or.inr ((hS _).mpr (Or.inr e))
  · rcases (hS n).mp hn with q | q
    · exact Nat.le_trans (u1.2.2 n q) u2.2.1
    · exact u2.2.2 n q
theorem Up.no {h : Nat → Nat} {f : Nat} {S : Nat → Prop} (hS : ∀ n, ¬ S n) : Up h f S f := ⟨Or.inl rfl, Nat.le_refl _, fun n hn => absurd hn (hS n)⟩
theorem Up.iff {h : Nat → Nat} {f r : Nat} {S S' : Nat → Prop} (u : Up h f S r) (e : ∀ n, S' n ↔ S n) : Up h f S' r := ⟨u.1.imp_right (e r).mpr, u.2.1, fun n hn => u.2.2 n ((e n).mp hn)⟩
theorem Up.uniq {h : Nat → Nat} {S : Nat → Prop} {r r' : Nat} (u : Up h 0 S r) (u' : Up h 0 S r') (hr : r < 256) (hr' : r' < 256) : r = r' := by
  have h1 : Ky h r ≤ Ky h r' := by
    rcases u.1 with e | e
    · rw [e]; exact u'.2.1
    · exact u'.2.2 r e
  have h2 : Ky h r' ≤ Ky h r := by
    rcases u'.1 with e | e
    · rw [e]; exact u.2.1
    · exact u.2.2 r' e
  exact Ky_inj (h := h) hr hr' (by omega)
theorem upl {h : Nat → Nat} {l : Nat → Int32 → Int32 → Option Int32} {N : Nat} {T : Nat → Nat → Prop} {I : Nat → Nat → Prop} (hx : ∀ n x, l (n + 1) x (nI N) = some x) (hs : ∀ n f c, f < 256 → c < N → I f c → ∃ r, r < 256 ∧ I r (c + 1) ∧ Up h f (T c) r ∧ l (n + 1) (nI f) (nI c) = l n (nI r) (nI (c + 1))) : ∀ n f c, f < 256 → c ≤ N → I f c → N - c < n → ∃ r, r < 256 ∧ l n (nI f) (nI c) = some (nI r) ∧ Up h f (fun x => ∃ c', c ≤ c' ∧ c' < N ∧ T c' x) r := by
  intro n
  induction n with
  | zero =>
    intro f c h1 h2 h3 h4
    omega
  | succ n ih =>
    intro f c h1 h2 h3 h4
    by_cases e : c < N
    · obtain ⟨r1, g1, g2, g3, g4⟩ := hs n f c h1 e h3
      obtain ⟨r2, k1, k2, k3⟩ := ih r1 (c + 1) g1 (by omega) g2 (by omega)
      refine ⟨r2, k1, g4.trans k2, g3.seq k3 fun x => ?_⟩
      constructor
      · rintro ⟨c', q1, q2, q3⟩
        by_cases e1 : c' = c
        · subst e1
          exact Or.inl q3
        · exact Or.inr ⟨c', by omega, q2, q3⟩
      · rintro (q | ⟨c', q1, q2, q3⟩)
        · exact ⟨c, Nat.le_refl _, e, q⟩
        · exact ⟨c', by omega, q2, q3⟩
    · have : c = N := by omega
      subst this
      exact ⟨f, h1, hx n _, Up.no fun x => by
        rintro ⟨c', q1, q2, -⟩
        omega⟩
/-! which sets are right, bit by bit -/
def rtB (can : Nat → Bool) (mate : Nat → Nat → Bool) (n : Nat) : Bool := inR (nI (popN n)) 1 3 && allN (fun k => !n.testBit k || (can k && allN (fun j => !n.testBit j || (decide (j = k) || mate k j)) 8)) 8
def RT (can : Nat → Bool) (mate : Nat → Nat → Bool) (n : Nat) : Prop := (1 ≤ popN n ∧ popN n ≤ 3) ∧ ∀ k, k < 8 → n.testBit k = true → can k = true ∧ ∀ j, j < 8 → n.testBit j = true → j ≠ k → mate k j = true
theorem inR_13 (n : Nat) (h : n ≤ 8) : inR (nI n) 1 3 = true ↔ 1 ≤ n ∧ n ≤ 3 := by
  rw [inR_t, show (1 : Int32) = nI 1 from rfl, show (3 : Int32) = nI 3 from rfl, nI_leI (by decide) (by omega), nI_leI (by omega) (by decide)]
theorem rtB_iff {can : Nat → Bool} {mate : Nat → Nat → Bool} {n : Nat} : rtB can mate n = true ↔ RT can mate n := by
  unfold rtB RT
  rw [Bool.and_eq_true, inR_13 _ (popN_le n), allN_iff]
  refine and_congr_right fun _ => forall_congr' fun k => imp_congr_right fun _ => ?_
  cases hk : n.testBit k with
  | false => simp
  | true =>
    simp only [Bool.not_true, Bool.false_or, Bool.and_eq_true, forall_const, allN_iff]
    refine and_congr_right fun _ => forall_congr' fun j => imp_congr_right fun _ => ?_
    cases hj : n.testBit j with
    | false => simp
    | true =>
      by_cases e : j = k
      · simp [e]
      · simp [e]
set_option maxRecDepth 100000 in
theorem set123 : ∀ n, n < 256 → 1 ≤ popN n → popN n ≤ 3 → (∃ a, a < 8 ∧ n = 2 ^ a) ∨ (∃ b, b < 8 ∧ ∃ a, a < b ∧ n = 2 ^ a ||| 2 ^ b) ∨ (∃ c, c < 8 ∧ ∃ b, b < c ∧ ∃ a, a < b ∧ n = 2 ^ a ||| 2 ^ b ||| 2 ^ c) := by decide +kernel
theorem pop1 : ∀ a, a < 8 → popN (2 ^ a) = 1 ∧ 2 ^ a < 256 := by decide +kernel
theorem pop2 : ∀ b, b < 8 → ∀ a, a < b → popN (2 ^ a ||| 2 ^ b) = 2 ∧ 2 ^ a ||| 2 ^ b < 256 := by decide +kernel
theorem pop3 : ∀ c, c < 8 → ∀ b, b < c → ∀ a, a < b → popN (2 ^ a ||| 2 ^ b ||| 2 ^ c) = 3 ∧ 2 ^ a ||| 2 ^ b ||| 2 ^ c < 256 := by decide +kernel
theorem or256 : ∀ a, a < 256 → ∀ b, b < 8 → a ||| 2 ^ b < 256 := by decide +kernel
theorem tb1 {a k : Nat} : (2 ^ a).testBit k = true ↔ k = a := by
  rw [Nat.testBit_two_pow, decide_eq_true_eq]
  exact eq_comm
theorem tb2 {a b k : Nat} : (2 ^ a ||| 2 ^ b).testBit k = true ↔ k = a ∨ k = b := by rw [Nat.testBit_or, Bool.or_eq_true, tb1, tb1]
theorem tb3 {a b c k : Nat} : (2 ^ a ||| 2 ^ b ||| 2 ^ c).testBit k = true ↔ k = a ∨ k = b ∨ k = c := by rw [Nat.testBit_or, Bool.or_eq_true, tb2, tb1, or_assoc]
/-- the sets that growing meets -/
def Grow (can : Nat → Bool) (mate : Nat → Nat → Bool) (n : Nat) : Prop := ∃ a, a < 8 ∧ can a = true ∧ (n = 2 ^ a ∨ ∃ b, b < 8 ∧ (can b = true ∧ mate a b = true ∧ a < b) ∧ (n = 2 ^ a ||| 2 ^ b ∨ ∃ c, c < 8 ∧ ((can c = true ∧ mate a c = true ∧ a < c) ∧ mate b c = true ∧ b < c) ∧ n = 2 ^ a ||| 2 ^ b ||| 2 ^ c))
theorem grow_iff {can : Nat → Bool} {mate : Nat → Nat → Bool} (hsym : ∀ i j, mate i j = mate j i) (n : Nat) : Grow can mate n ↔ n < 256 ∧ RT can mate n := by
  constructor
  · rintro ⟨a, ha, h1, rfl | ⟨b, hb', ⟨h2, h3, h4⟩, rfl | ⟨c, hc, ⟨⟨h5, h6, h7⟩, h8, h9⟩, rfl⟩⟩⟩
    · obtain ⟨p1, p2⟩ := pop1 a ha
      refine ⟨p2, ⟨by omega, by omega⟩, fun k hk hk2 => ?_⟩
      obtain rfl := tb1.mp hk2
      refine ⟨h1, fun j hj hj2 ne => ?_⟩
      exact absurd (tb1.mp hj2) ne
    · obtain ⟨p1, p2⟩ := pop2 b hb' a h4
      refine ⟨p2, ⟨by omega, by omega⟩, fun k hk hk2 => ?_⟩
      have h3' := (hsym b a).trans h3
      rcases tb2.mp hk2 with rfl | rfl
      · refine ⟨h1, fun j hj hj2 ne => ?_⟩
        rcases tb2.mp hj2 with rfl | rfl
        · exact absurd rfl ne
        · exact h3
      · refine ⟨h2, fun j hj hj2 ne => ?_⟩
        rcases tb2.mp hj2 with rfl | rfl
        · exact h3'
        · exact absurd rfl ne
    · obtain ⟨p1, p2⟩ := pop3 c hc b h9 a h4
      refine ⟨p2, ⟨by omega, by omega⟩, fun k hk hk2 => ?_⟩
      have h3' := (hsym b a).trans h3
      have h6' := (hsym c a).trans h6
      have h8' := (hsym c b).trans h8
      rcases tb3.mp hk2 with rfl | rfl | rfl
      · refine ⟨h1, fun j hj hj2 ne => ?_⟩
        rcases tb3.mp hj2 with rfl | rfl | rfl
        · exact absurd rfl ne
        · exact h3
        · exact h6
      · refine ⟨h2, fun j hj hj2 ne => ?_⟩
        rcases tb3.mp hj2 with rfl | rfl | rfl
        · exact h3'
        · exact absurd rfl ne
        · exact h8
      · refine ⟨h5, fun j hj hj2 ne => ?_⟩
        rcases tb3.mp hj2 with rfl | rfl | rfl
        · exact h6'
        · exact h8'
        · exact absurd rfl ne
  · rintro ⟨hn, ⟨s1, s2⟩, h⟩
    rcases set123 n hn s1 s2 with ⟨a, ha, rfl⟩ | ⟨b, hb', a, hab, rfl⟩ | ⟨c, hc, b, hbc, a, hab, rfl⟩
    · exact ⟨a, ha, (h a ha (tb1.mpr rfl)).1, Or.inl rfl⟩
    · have ga := h a (by omega) (tb2.mpr (Or.inl rfl))
      have gb := h b hb' (tb2.mpr (Or.inr rfl))
      exact ⟨a, by omega, ga.1, Or.inr ⟨b, hb', ⟨gb.1, ga.2 b hb' (tb2.mpr (Or.inr rfl)) (by omega), hab⟩, Or.inl rfl⟩⟩
    · have ga := h a (by omega) (tb3.mpr (Or.inl rfl))
      have gb := h b (by omega) (tb3.mpr (Or.inr (Or.inl rfl)))
      have gc := h c hc (tb3.mpr (Or.inr (Or.inr rfl)))
      exact ⟨a, by omega, ga.1, Or.inr ⟨b, by omega, ⟨gb.1, ga.2 b (by omega) (tb3.mpr (Or.inr (Or.inl rfl))) (by omega), hab⟩, Or.inr ⟨c, hc, ⟨⟨gc.1, ga.2 c hc (tb3.mpr (Or.inr (Or.inr rfl))) (by omega), by omega⟩, gb.2 c hc (tb3.mpr (Or.inr (Or.inr rfl))) (by omega), hbc⟩, rfl⟩⟩⟩
/-- the gravity of a set as a number -/
def hvN (g : Nat → Nat) (cO n : Nat) : Nat → Nat
  | 0 => 0
  | k + 1 => hvN g cO n k + (if (decide (k < cO) && n.testBit k) = true then g k else 0)
def hv (g : Nat → Nat) (cO n : Nat) : Nat := hvN g cO n 8
theorem hv_eq {σ : hσ} {g : Nat → Nat} {cO : Nat} (hg : ∀ k, k < cO → σ 4 k = nI (g k)) (n : Nat) : heavS σ cO (nI n) = nI (hv g cO n) := by
  have q : ∀ m, m ≤ 8 → sm (fun k => if (decide (k < cO) && hb (nI n) (nI k)) = true then σ 4 k else 0) m = nI (hvN g cO n m) := by
    intro m
    induction m with
    | zero => intro _; rfl
    | succ m ih =>
      intro hm
      rw [sm, ih (by omega), hvN, ← nI_add, hb_nI n (by omega)]
      by_cases e : (decide (m < cO) && n.testBit m) = true
      · rw [if_pos e, if_pos e, hg m (by simp at e; exact e.1)]
      · rw [if_neg e, if_neg e]
        rfl
  exact q 8 (Nat.le_refl _)
theorem hv_lt {g : Nat → Nat} {cO : Nat} (hg : ∀ k, k < cO → g k ≤ 9) (n : Nat) : hv g cO n < 1000 := by
  have q : ∀ m, hvN g cO n m ≤ 9 * m := by
    intro m
    induction m with
    | zero => exact Nat.le_refl _
    | succ m ih =>
      rw [hvN]
      by_cases e : (decide (m < cO) && n.testBit m) = true
      · rw [if_pos e]
        have := hg m (by simp at e; exact e.1)
        omega
      · rw [if_neg e]
        omega
  have := q 8
  unfold hv
  omega
