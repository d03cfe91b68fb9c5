/-! ===== the law's case of days that pass ===== -/
def LN (σ : hσ) (t : Nat) : Nat := (leftM σ t).toNatClampNeg
def okL (σ : hσ) (t : Nat) : Prop := 0 < LN σ t ∧ LN σ t ≤ 60 ∧ leftM σ t = nI (LN σ t) ∧ σ 29 t = ceilS σ t ∧ (σ 22 t = 2 → ∃ l, σ 28 t = nI l ∧ l + LN σ t = 60) ∧ (σ 22 t ≠ 2 → ∃ e C, σ 27 t = nI e ∧ σ 29 t = nI C ∧ C ≤ 10 ∧ e + LN σ t = C)
def Hd (σ : hσ) : Prop := ∀ t, t < 48 → (σ 26 t = 0 ∨ σ 26 t = 1) ∧ (σ 26 t = 1 → okL σ t)
theorem ceil_in : ∀ r, (r = 0 ∨ r = 2 ∨ r = 4 ∨ r = 6) → ∃ C, C ≤ 10 ∧ ceilV (nI r) = nI C := by
  rintro r (rfl | rfl | rfl | rfl)
  · exact ⟨4, by decide, by decide⟩
  · exact ⟨6, by decide, by decide⟩
  · exact ⟨8, by decide, by decide⟩
  · exact ⟨10, by decide, by decide⟩
theorem okL_of {cO t : Nat} {σ : hσ} (q : oneT cO σ t) (h : σ 26 t = 1) : okL σ t := by
  obtain ⟨o1, o2, o3, o4, o5, ⟨r, hr, er⟩, o7, ⟨e, l, k1, k2, k3, k4⟩, o9, o10⟩ := q
  obtain ⟨-, pos⟩ := o10 h
  obtain ⟨C, hC, eC⟩ := ceil_in r hr
  have c29 : σ 29 t = nI C := by
    rw [o7]
    show ceilV (σ 30 t) = nI C
    rw [er, eC]
  by_cases c : σ 22 t = 2
  · have e1 : leftM σ t = nI 60 - nI l := by
      unfold leftM
      rw [if_pos c, k4]
      rfl
    rw [e1] at pos
    have hl := (nI_sub_pos (a := 60) (b := l) (by omega) (by omega)).mp pos
    have e2 : leftM σ t = nI (60 - l) := by rw [e1, pk_sub (by omega)]
    have e3 : LN σ t = 60 - l := by
      unfold LN
      rw [e2]
      exact nI_clamp (by omega)
    exact ⟨by omega, by omega, by rw [e3]; exact e2, o7, fun _ => ⟨l, k4, by omega⟩, fun z => absurd c z⟩
  · have e1 : leftM σ t = nI C - nI e := by
      unfold leftM
      rw [if_neg c, k3, c29]
    rw [e1] at pos
    have hl := (nI_sub_pos (a := C) (b := e) (by omega) (by omega)).mp pos
    have e2 : leftM σ t = nI (C - e) := by rw [e1, pk_sub (by omega)]
    have e3 : LN σ t = C - e := by
      unfold LN
      rw [e2]
      exact nI_clamp (by omega)
    exact ⟨by omega, by omega, by rw [e3]; exact e2, o7, fun z => absurd z c, fun _ => ⟨e, C, k3, c29, hC, by omega⟩⟩
theorem Hd_of {cO cF cI cS : Nat} {σ : hσ} (I : Inv cO cF cI cS σ) : Hd σ := fun t ht => by
  have q := (I.2.2.2.2.2.1 t ht).2
  have q9 : σ 26 t = 0 ∨ σ 26 t = 1 := q.2.2.2.2.2.2.2.2.1
  exact ⟨q9, okL_of q⟩
def relB (σ : hσ) (e : Nat → Nat) (k : Nat) : Int32 := bI (decide (σ 26 k = 1) && decide (LN σ k ≤ e k))
def pS (σ : hσ) (e : Nat → Nat) : hσ := fun f i => if f = 37 ∧ i = 5 then σ 37 5 + sm (relB σ e) 48 else if i < 48 ∧ σ 26 i = 1 then (if f = 26 then bI (decide (e i < LN σ i)) else if f = 27 then (if σ 22 i = 2 then σ 27 i else σ 27 i + nI (min (e i) (LN σ i))) else if f = 28 then (if σ 22 i = 2 then σ 28 i + nI (min (e i) (LN σ i)) else σ 28 i) else σ f i) else σ f i
def eU (e : Nat → Nat) (t d : Nat) : Nat → Nat := fun i => if i = t then d else e i
theorem eU_eq {e : Nat → Nat} {t d : Nat} : eU e t d t = d := if_pos rfl
theorem eU_ne {e : Nat → Nat} {t d i : Nat} (h : i ≠ t) : eU e t d i = e i := if_neg h
section PS
variable {σ : hσ} {e : Nat → Nat} {t : Nat}
theorem pS_x {f i : Nat} (h : f ≠ 26 ∧ f ≠ 27 ∧ f ≠ 28 ∧ ¬ (f = 37 ∧ i = 5)) : pS σ e f i = σ f i := by
  unfold pS
  rw [if_neg h.2.2.2]
  by_cases q : i < 48 ∧ σ 26 i = 1
  · rw [if_pos q, if_neg h.1, if_neg h.2.1, if_neg h.2.2.1]
  · rw [if_neg q]
theorem pS_n {f i : Nat} (h : ¬ (i < 48 ∧ σ 26 i = 1)) (h2 : ¬ (f = 37 ∧ i = 5)) : pS σ e f i = σ f i := by
  unfold pS
  rw [if_neg h2, if_neg h]
theorem pS_26 (ht : t < 48) (hh : σ 26 t = 1) : pS σ e 26 t = bI (decide (e t < LN σ t)) := by
  unfold pS
  rw [if_neg (by omega), if_pos ⟨ht, hh⟩, if_pos rfl]
theorem pS_27c (h2 : σ 22 t = 2) : pS σ e 27 t = σ 27 t := by
  unfold pS
  rw [if_neg (by omega)]
  by_cases q : t < 48 ∧ σ 26 t = 1
  · rw [if_pos q, if_neg (by decide), if_pos rfl, if_pos h2]
  · rw [if_neg q]
theorem pS_28o (h2 : ¬ σ 22 t = 2) : pS σ e 28 t = σ 28 t := by
  unfold pS
  rw [if_neg (by omega)]
  by_cases q : t < 48 ∧ σ 26 t = 1
  · rw [if_pos q, if_neg (by decide), if_neg (by decide), if_pos rfl, if_neg h2]
  · rw [if_neg q]
theorem pS_27o (ht : t < 48) (hh : σ 26 t = 1) (h2 : ¬ σ 22 t = 2) : pS σ e 27 t = σ 27 t + nI (min (e t) (LN σ t)) := by
  unfold pS
  rw [if_neg (by omega), if_pos ⟨ht, hh⟩, if_neg (by decide), if_pos rfl, if_neg h2]
theorem pS_28c (ht : t < 48) (hh : σ 26 t = 1) (h2 : σ 22 t = 2) : pS σ e 28 t = σ 28 t + nI (min (e t) (LN σ t)) := by
  unfold pS
  rw [if_neg (by omega), if_pos ⟨ht, hh⟩, if_neg (by decide), if_neg (by decide), if_pos rfl, if_pos h2]
theorem pS_37 : pS σ e 37 5 = σ 37 5 + sm (relB σ e) 48 := if_pos ⟨rfl, rfl⟩
theorem pS_cong {e' : Nat → Nat} (h : ∀ i, i < 48 → σ 26 i = 1 → e i = e' i) : pS σ e = pS σ e' := by
  funext f i
  unfold pS
  have hs : sm (relB σ e) 48 = sm (relB σ e') 48 := sm_cong fun k hk => by
    unfold relB
    by_cases q : σ 26 k = 1
    · rw [h k hk q]
    · rw [decide_eq_false q, Bool.false_and, Bool.false_and]
  rw [hs]
  by_cases q : i < 48 ∧ σ 26 i = 1
  · rw [h i q.1 q.2]
  · rw [if_neg q, if_neg q]
theorem sm_zero : ∀ n, sm (fun _ => (0 : Int32)) n = 0
  | 0 => rfl
  | n + 1 => by rw [sm, sm_zero n, Int32.add_zero]
theorem pS_0 (H : Hd σ) : pS σ (fun _ => 0) = σ := by
  funext f i
  by_cases q5 : f = 37 ∧ i = 5
  · obtain ⟨rfl, rfl⟩ := q5
    rw [pS_37, sm_cong (g' := fun _ => 0) (fun k hk => ?_), sm_zero, Int32.add_zero]
    unfold relB
    by_cases q : σ 26 k = 1
    · have := ((H k hk).2 q).1
      rw [decide_eq_false (show ¬ LN σ k ≤ 0 by omega), Bool.and_false]
      rfl
    · rw [decide_eq_false q, Bool.false_and]
      rfl
  · by_cases q : i < 48 ∧ σ 26 i = 1
    · have pos := ((H i q.1).2 q.2).1
      unfold pS
      rw [if_neg q5, if_pos q, Nat.zero_min, nI_0, Int32.add_zero, Int32.add_zero]
      by_cases c1 : f = 26
      · rw [if_pos c1, decide_eq_true pos, c1, q.2]
        rfl
      · rw [if_neg c1]
        by_cases c2 : f = 27
        · rw [if_pos c2, c2]
          split <;> rfl
        · rw [if_neg c2]
          by_cases c3 : f = 28
          · rw [if_pos c3, c3]
            split <;> rfl
          · rw [if_neg c3]
    · exact pS_n q q5
theorem sm_one {g g' : Nat → Int32} {k : Nat} (off : ∀ i, i ≠ k → g' i = g i) (h0 : g k = 0) : ∀ n, k < n → sm g' n = sm g n + g' k := by
  intro n
  induction n with
  | zero =>
    intro h
    omega
  | succ n ih =>
    intro h
    rw [sm, sm]
    by_cases c : k = n
    · subst c
      rw [sm_cong (fun i hi => off i (by omega)), h0, Int32.add_zero]
    · rw [ih (by omega), off n (Ne.symm c), Int32.add_assoc, Int32.add_assoc, Int32.add_comm (g' k)]
theorem pS_37u {m : Nat} (ht : t < 48) (hh : σ 26 t = 1) (he : e t < LN σ t) : pS σ (eU e t m) 37 5 = pS σ e 37 5 + bI (decide (LN σ t ≤ m)) := by
  rw [pS_37, pS_37, sm_one (g := relB σ e) (g' := relB σ (eU e t m)) (k := t) (fun i hi => ?_) ?_ 48 ht, Int32.add_assoc]
  · refine congrArg (fun z => σ 37 5 + (sm (relB σ e) 48 + z)) ?_
    unfold relB
    rw [eU_eq, decide_eq_true hh, Bool.true_and]
  · unfold relB
    rw [decide_eq_false (show ¬ LN σ t ≤ e t by omega), Bool.and_false]
    rfl
  · unfold relB
    rw [eU_ne hi]
theorem pS_off {m f i : Nat} (h1 : ¬ (f = 37 ∧ i = 5)) (h2 : ¬ (i = t ∧ (f = 26 ∨ f = 27 ∨ f = 28))) : pS σ (eU e t m) f i = pS σ e f i := by
  by_cases c : i = t
  · rw [pS_x (by omega), pS_x (by omega)]
  · unfold pS
    rw [if_neg h1, if_neg h1, eU_ne c]
theorem pS_mk {X : hσ} {m : Nat} (hoff : ∀ f i, ¬ (f = 37 ∧ i = 5) → ¬ (i = t ∧ (f = 26 ∨ f = 27 ∨ f = 28)) → X f i = pS σ e f i) (h26 : X 26 t = pS σ (eU e t m) 26 t) (h27 : X 27 t = pS σ (eU e t m) 27 t) (h28 : X 28 t = pS σ (eU e t m) 28 t) (h37 : X 37 5 = pS σ (eU e t m) 37 5) : X = pS σ (eU e t m) := by
  funext f i
  by_cases c1 : f = 37 ∧ i = 5
  · obtain ⟨rfl, rfl⟩ := c1
    exact h37
  · by_cases c2 : i = t ∧ (f = 26 ∨ f = 27 ∨ f = 28)
    · obtain ⟨rfl, rfl | rfl | rfl⟩ := c2
      · exact h26
      · exact h27
      · exact h28
    · rw [hoff f i c1 c2, pS_off c1 c2]
theorem pS_mk2 {X : hσ} {m : Nat} {v : Int32} (hoff : ∀ f i, ¬ (f = 37 ∧ i = 5) → ¬ (i = t ∧ (f = 26 ∨ f = 27 ∨ f = 28)) → X f i = pS σ e f i) (h26 : X 26 t = pS σ (eU e t m) 26 t) (h27 : X 27 t = pS σ (eU e t m) 27 t) (h28 : X 28 t = pS σ (eU e t m) 28 t) (h37 : X 37 5 = v) : X = sU (pS σ (eU e t m)) 37 5 v := by
  funext f i
  by_cases c1 : f = 37 ∧ i = 5
  · obtain ⟨rfl, rfl⟩ := c1
    rw [sU_eq]
    exact h37
  · rw [sU_off c1]
    by_cases c2 : i = t ∧ (f = 26 ∨ f = 27 ∨ f = 28)
    · obtain ⟨rfl, rfl | rfl | rfl⟩ := c2
      · exact h26
      · exact h27
      · exact h28
    · rw [hoff f i c1 c2, pS_off c1 c2]
theorem pS_idle {m : Nat} (hm : e t ≤ m) (h : ¬ (t < 48 ∧ σ 26 t = 1 ∧ e t < LN σ t)) : pS σ e = pS σ (eU e t m) := by
  by_cases q : t < 48 ∧ σ 26 t = 1
  · have hL : LN σ t ≤ e t := by
      apply Nat.le_of_not_lt
      intro z
      exact h ⟨q.1, q.2, z⟩
    refine pS_mk (fun f i _ _ => rfl) ?_ ?_ ?_ ?_
    · rw [pS_26 q.1 q.2, pS_26 q.1 q.2, eU_eq, decide_eq_false (by omega), decide_eq_false (by omega)]
    · by_cases c : σ 22 t = 2
      · rw [pS_27c c, pS_27c c]
      · rw [pS_27o q.1 q.2 c, pS_27o q.1 q.2 c, eU_eq, Nat.min_eq_right hL, Nat.min_eq_right (by omega)]
    · by_cases c : σ 22 t = 2
      · rw [pS_28c q.1 q.2 c, pS_28c q.1 q.2 c, eU_eq, Nat.min_eq_right hL, Nat.min_eq_right (by omega)]
      · rw [pS_28o c, pS_28o c]
    · rw [pS_37, pS_37]
      refine congrArg (fun z => σ 37 5 + z) (sm_cong fun k hk => ?_)
      unfold relB
      by_cases c : k = t
      · subst c
        rw [eU_eq, decide_eq_true hL, decide_eq_true (show LN σ k ≤ m by omega)]
      · rw [eU_ne c]
  · exact pS_cong fun i hi hh => by
      rw [eU_ne]
      rintro rfl
      exact q ⟨hi, hh⟩
end PS
theorem sU_id {s : hσ} {f j : Nat} {x : Int32} (h : s f j = x) : sU s f j x = s := by
  funext a i
  by_cases c : a = f ∧ i = j
  · obtain ⟨rfl, rfl⟩ := c
    rw [sU_eq, h]
  · rw [sU_off c]
section MPASS
variable {M : hM} {A : hAd} {s σ : hσ} {w : Nat → Int64} {e : Nat → Nat} {t : Nat}
theorem m_holds (R : Rep M A s (pS σ e) w) (H : Hd σ) (ht : t < 48) (hh : σ 26 t = 1) (he : e t < LN σ t) : ∃ M', (∀ Q : hM → Prop, wX5_holds M (A 10 0) (nI t) Q = Q M') ∧ Rep M' A s (pS σ (eU e t (e t + 1))) w := by
  obtain ⟨ok1, ok2, ok3, ok4, ok5, ok6⟩ := (H t ht).2 hh
  have x22 : pS σ e 22 t = σ 22 t := pS_x (by omega)
  have x29 : pS σ e 29 t = σ 29 t := pS_x (by omega)
  have hmin : min (e t) (LN σ t) = e t := Nat.min_eq_left (by omega)
  have hmin1 : min (e t + 1) (LN σ t) = e t + 1 := Nat.min_eq_left (by omega)
  by_cases c2 : σ 22 t = 2
  · obtain ⟨l, l1, l2⟩ := ok5 c2
    obtain ⟨M1, e1, R1⟩ := wrA R (f := 27) (n := 48) (k := t) rfl ht (by decide) (σ 27 t + 0)
    obtain ⟨M2, e2, R2⟩ := wrA R1 (f := 28) (n := 48) (k := t) rfl ht (by decide) (nI (l + e t + 1))
    have v28 : pS σ e 28 t = nI (l + e t) := by rw [pS_28c ht hh c2, hmin, l1, nI_add]
    have T27 : pS σ (eU e t (e t + 1)) 27 t = σ 27 t + 0 := by rw [pS_27c c2, Int32.add_zero]
    have T28 : pS σ (eU e t (e t + 1)) 28 t = nI (l + e t + 1) := by rw [pS_28c ht hh c2, eU_eq, hmin1, l1, nI_add]; rfl
    by_cases c : e t + 1 = LN σ t
    · obtain ⟨M3, e3, R3⟩ := wrB R2 (f := 26) (n := 48) (k := t) rfl ht (by decide) 0 (Or.inl rfl)
      obtain ⟨M4, e4, R4⟩ := wrC5 R3 (pS σ e 37 5 + 1)
      refine ⟨M4, fun Q => ?_, ?_⟩
      · have h60 : (nI (l + e t + 1) = 60) = True := eq_true (by
          rw [show l + e t + 1 = 60 by omega]
          rfl)
        simp (disch := omega) only [wX5_holds, bX5_holds_15, bX5_holds_32, bX5_holds_50, bX5_holds_85, ↓rd5e R, ↓rdAe R, x22, c2, ↓reduceIte, i10, pS_27c c2, ↓(fun (g : hM → Prop) => oex e1 g), ↓rd5e R1, ↓rdAe R1, sU_ne, v28, nI_1, ↓(fun (g : hM → Prop) => oex e2 g), ↓rd5e R2, ↓rdAe R2, sU_eq, h60, ↓(fun (g : hM → Prop) => oex e3 g), ↓rd5e R3, ↓rdCe R3, ↓(fun (g : hM → Prop) => oex e4 g)]
      · rw [← pS_mk (σ := σ) (e := e) (t := t) (m := e t + 1) (X := sU (sU (sU (sU (pS σ e) 27 t (σ 27 t + 0)) 28 t (nI (l + e t + 1))) 26 t 0) 37 5 (pS σ e 37 5 + 1)) (fun f i h1 h2 => by simp (disch := omega) only [sU_off]) ?_ ?_ ?_ ?_]
        · exact R4
        · rw [pS_26 ht hh, eU_eq, decide_eq_false (by omega)]
          simp (disch := omega) only [sU_ne, sU_eq]
          rfl
        · rw [T27]
          simp (disch := omega) only [sU_ne, sU_eq]
        · rw [T28]
          simp (disch := omega) only [sU_ne, sU_eq]
        · rw [pS_37u ht hh he, decide_eq_true (by omega), sU_eq]
          rfl
    · refine ⟨M2, fun Q => ?_, ?_⟩
      · have h60 : ¬ nI (l + e t + 1) = 60 := fun z => by
          have := (nI_eq (a := l + e t + 1) (b := 60) (by omega) (by decide)).mp z
          omega
        simp (disch := omega) only [wX5_holds, bX5_holds_15, bX5_holds_32, bX5_holds_50, bX5_holds_85, ↓rd5e R, ↓rdAe R, x22, c2, ↓reduceIte, i10, pS_27c c2, ↓(fun (g : hM → Prop) => oex e1 g), ↓rd5e R1, ↓rdAe R1, sU_ne, v28, nI_1, ↓(fun (g : hM → Prop) => oex e2 g), ↓rd5e R2, ↓rdAe R2, sU_eq, h60]
      · rw [← pS_mk (σ := σ) (e := e) (t := t) (m := e t + 1) (X := sU (sU (pS σ e) 27 t (σ 27 t + 0)) 28 t (nI (l + e t + 1))) (fun f i h1 h2 => by simp (disch := omega) only [sU_off]) ?_ ?_ ?_ ?_]
        · exact R2
        · rw [pS_26 ht hh, eU_eq, decide_eq_true (by omega)]
          simp (disch := omega) only [sU_ne]
          rw [pS_26 ht hh, decide_eq_true he]
        · rw [T27]
          simp (disch := omega) only [sU_ne, sU_eq]
        · rw [T28]
          simp (disch := omega) only [sU_ne, sU_eq]
        · rw [pS_37u ht hh he, decide_eq_false (by omega)]
          simp (disch := omega) only [sU_ne]
          exact (Int32.add_zero _).symm
  · obtain ⟨ea, C, l1, l2, l3, l4⟩ := ok6 c2
    obtain ⟨M1, e1, R1⟩ := wrA R (f := 27) (n := 48) (k := t) rfl ht (by decide) (nI (ea + e t + 1))
    obtain ⟨M2, e2, R2⟩ := wrA R1 (f := 28) (n := 48) (k := t) rfl ht (by decide) (σ 28 t + 0)
    have v27 : pS σ e 27 t = nI (ea + e t) := by rw [pS_27o ht hh c2, hmin, l1, nI_add]
    have T28 : pS σ (eU e t (e t + 1)) 28 t = σ 28 t + 0 := by rw [pS_28o c2, Int32.add_zero]
    have T27 : pS σ (eU e t (e t + 1)) 27 t = nI (ea + e t + 1) := by rw [pS_27o ht hh c2, eU_eq, hmin1, l1, nI_add]; rfl
    by_cases c : e t + 1 = LN σ t
    · obtain ⟨M3, e3, R3⟩ := wrB R2 (f := 26) (n := 48) (k := t) rfl ht (by decide) 0 (Or.inl rfl)
      obtain ⟨M4, e4, R4⟩ := wrC5 R3 (pS σ e 37 5 + 1)
      refine ⟨M4, fun Q => ?_, ?_⟩
      · have h60 : (nI (ea + e t + 1) = nI C) = True := eq_true (by rw [show ea + e t + 1 = C by omega])
        simp (disch := omega) only [wX5_holds, bX5_holds_15, bX5_holds_32, bX5_holds_50, bX5_holds_85, ↓rd5e R, ↓rdAe R, x22, c2, ↓reduceIte, i10, v27, ↓(fun (g : hM → Prop) => oex e1 g), ↓rd5e R1, ↓rdAe R1, sU_ne, pS_28o c2, nI_1, ↓(fun (g : hM → Prop) => oex e2 g), ↓rd5e R2, ↓rdAe R2, sU_eq, x29, l2, h60, ↓(fun (g : hM → Prop) => oex e3 g), ↓rd5e R3, ↓rdCe R3, ↓(fun (g : hM → Prop) => oex e4 g)]
      · rw [← pS_mk (σ := σ) (e := e) (t := t) (m := e t + 1) (X := sU (sU (sU (sU (pS σ e) 27 t (nI (ea + e t + 1))) 28 t (σ 28 t + 0)) 26 t 0) 37 5 (pS σ e 37 5 + 1)) (fun f i h1 h2 => by simp (disch := omega) only [sU_off]) ?_ ?_ ?_ ?_]
        · exact R4
        · rw [pS_26 ht hh, eU_eq, decide_eq_false (by omega)]
          simp (disch := omega) only [sU_ne, sU_eq]
          rfl
        · rw [T27]
          simp (disch := omega) only [sU_ne, sU_eq]
        · rw [T28]
          simp (disch := omega) only [sU_ne, sU_eq]
        · rw [pS_37u ht hh he, decide_eq_true (by omega), sU_eq]
          rfl
    · refine ⟨M2, fun Q => ?_, ?_⟩
      · have h60 : ¬ nI (ea + e t + 1) = nI C := fun z => by
          have := (nI_eq (a := ea + e t + 1) (b := C) (by omega) (by omega)).mp z
          omega
        simp (disch := omega) only [wX5_holds, bX5_holds_15, bX5_holds_32, bX5_holds_50, bX5_holds_85, ↓rd5e R, ↓rdAe R, x22, c2, ↓reduceIte, i10, v27, ↓(fun (g : hM → Prop) => oex e1 g), ↓rd5e R1, ↓rdAe R1, sU_ne, pS_28o c2, nI_1, ↓(fun (g : hM → Prop) => oex e2 g), ↓rd5e R2, ↓rdAe R2, sU_eq, x29, l2, h60]
      · rw [← pS_mk (σ := σ) (e := e) (t := t) (m := e t + 1) (X := sU (sU (pS σ e) 27 t (nI (ea + e t + 1))) 28 t (σ 28 t + 0)) (fun f i h1 h2 => by simp (disch := omega) only [sU_off]) ?_ ?_ ?_ ?_]
        · exact R2
        · rw [pS_26 ht hh, eU_eq, decide_eq_true (by omega)]
          simp (disch := omega) only [sU_ne]
          rw [pS_26 ht hh, decide_eq_true he]
        · rw [T27]
          simp (disch := omega) only [sU_ne, sU_eq]
        · rw [T28]
          simp (disch := omega) only [sU_ne, sU_eq]
        · rw [pS_37u ht hh he, decide_eq_false (by omega)]
          simp (disch := omega) only [sU_ne]
          exact (Int32.add_zero _).symm
def eD (n k : Nat) : Nat → Nat := fun i => if i < k then n + 1 else n
theorem eD_at {n k : Nat} : eD n k k = n := if_neg (Nat.lt_irrefl k)
theorem eD_up {n k : Nat} : eU (eD n k) k (n + 1) = eD n (k + 1) := funext fun i => by
  unfold eU eD
  by_cases c : i = k
  · rw [if_pos c, if_pos (by omega)]
  · rw [if_neg c]
    have : i < k ↔ i < k + 1 := by omega
    by_cases c2 : i < k
    · rw [if_pos c2, if_pos (this.mp c2)]
    · rw [if_neg c2, if_neg (fun z => c2 (this.mpr z))]
theorem lm_day (H : Hd σ) {n : Nat} {k42 : hM → Int32 → Prop} {Q : hM → Int32 → Prop} {p1 : Int32} (kq : ∀ M' : hM, Rep M' A s (pS σ (fun _ => n + 1)) w → k42 M' (nI (n + 1))) : ∀ fu k (M : hM), Rep M A s (pS σ (eD n k)) w → k ≤ 48 → 48 - k < fu → lX5_pass_49 (A 10 0) k42 Q p1 (nI n) fu M (nI k) := by
  intro fu
  induction fu with
  | zero =>
    intro k M R h1 h2
    omega
  | succ fu ih =>
    intro k M R h1 h2
    rw [lX5_pass_49]
    by_cases e0 : k < 48
    · have e1 : ¬ 48 ≤ k := by omega
      rw [if_neg (by rw [l48 (by omega)]; exact e1)]
      simp (disch := omega) only [↓rd5e R, ↓rdAe R, nI_1]
      by_cases c : k < 48 ∧ σ 26 k = 1 ∧ eD n k k < LN σ k
      · obtain ⟨-, c1, c2⟩ := c
        rw [pS_26 e0 c1, decide_eq_true c2, if_neg (by decide)]
        obtain ⟨M1, q1, R1⟩ := m_holds R H e0 c1 c2
        rw [q1]
        rw [eD_at, eD_up] at R1
        exact ih (k + 1) M1 R1 (by omega) (by omega)
      · have hv : pS σ (eD n k) 26 k = 0 := by
          by_cases c1 : σ 26 k = 1
          · rw [pS_26 e0 c1, decide_eq_false (fun z => c ⟨e0, c1, z⟩)]
            rfl
          · rw [pS_n (fun z => c1 z.2) (by omega)]
            exact (H k e0).1.resolve_right c1
        rw [if_pos hv]
        have hs := pS_idle (m := n + 1) (by rw [eD_at]; omega) c
        rw [eD_up] at hs
        exact ih (k + 1) M (by rw [← hs]; exact R) (by omega) (by omega)
    · have e1 : k = 48 := by omega
      subst e1
      rw [if_pos (by decide), nI_1]
      refine kq M ?_
      rw [← pS_cong (e := eD n 48) (fun i hi _ => if_pos hi)]
      exact R
theorem lm_pass (H : Hd σ) {d D : Nat} (hd : d ≤ 100) (hday : σ 1 0 = nI D) {Q : hM → Int32 → Prop} (kq : ∀ M' : hM, Rep M' A s (sU (pS σ (fun _ => d)) 1 0 (nI (D + d))) w → Q M' (nI (D + d))) : ∀ fu n (M : hM), Rep M A s (pS σ (fun _ => n)) w → n ≤ d → d - n < fu → lX5_pass_42 (A 10 0) Q (nI d) fu M (nI n) := by
  intro fu
  induction fu with
  | zero =>
    intro n M R h1 h2
    omega
  | succ fu ih =>
    intro n M R h1 h2
    rw [lX5_pass_42]
    by_cases e0 : n < d
    · rw [if_neg (by rw [nI_leI (by omega) (by omega)]; omega)]
      refine lm_day H (fun M' R' => ih (n + 1) M' R' (by omega) (by omega)) 1000 0 M ?_ (by omega) (by omega)
      rw [pS_cong (e := eD n 0) (e' := fun _ => n) (fun i _ _ => if_neg (by omega))]
      exact R
    · have e1 : n = d := by omega
      subst e1
      rw [if_pos (Int32.le_refl _)]
      obtain ⟨M1, e1, R1⟩ := wr5_1 R (nI (D + n))
      have h10 : pS σ (fun _ => n) 1 0 = nI D := (pS_x (by omega)).trans hday
      simp only [↓rd5e R, h10, nI_add, ↓(fun (g : hM → Prop) => oex e1 g), ↓rd5e R1, sU_eq]
      exact kq M1 R1
end MPASS
section CPASS
variable {A : hAd} {τ σ : hσ} {w : Nat → Int64} {cO cF cI : Nat}
theorem min_if (d L : Nat) (hd : d < 1000) (hL : L < 1000) : (if nI L < nI d then nI L else nI d) = nI (min d L) := by
  by_cases c : L < d
  · rw [if_pos ((nI_ltI (by omega) (by omega)).mpr c), Nat.min_eq_right (by omega)]
  · rw [if_neg (fun z => c ((nI_ltI (by omega) (by omega)).mp z)), Nat.min_eq_left (by omega)]
theorem c_rel {M : hM} {e : Nat → Nat} {t d : Nat} {v0 : Int32} (R : Rep M A (sU (pS σ e) 37 5 v0) τ w) (H : Hd σ) (ht : t < 48) (h112 : σ 112 t = 1) (hh : σ 26 t = 1) (he : e t = 0) (hd : d ≤ 100) (Q : hM → Int32 → Prop) : ∃ M', wX0_isReleasedAfter M (A 7 t) (nI d) Q = Q M' (bI (decide (LN σ t ≤ d))) ∧ Rep M' A (sU (pS σ (eU e t d)) 37 5 v0) τ w := by
  obtain ⟨ok1, ok2, ok3, ok4, ok5, ok6⟩ := (H t ht).2 hh
  have s112 : sU (pS σ e) 37 5 v0 112 t = 1 := by
    rw [sU_ne (by decide), pS_x (by omega)]
    exact h112
  have s22 : sU (pS σ e) 37 5 v0 22 t = σ 22 t := by rw [sU_ne (by decide), pS_x (by omega)]
  have s30 : sU (pS σ e) 37 5 v0 30 t = σ 30 t := by rw [sU_ne (by decide), pS_x (by omega)]
  have s27 : sU (pS σ e) 37 5 v0 27 t = σ 27 t := by
    rw [sU_ne (by decide)]
    by_cases c : σ 22 t = 2
    · exact pS_27c c
    · rw [pS_27o ht hh c, he, Nat.zero_min, nI_0, Int32.add_zero]
  have s28 : sU (pS σ e) 37 5 v0 28 t = σ 28 t := by
    rw [sU_ne (by decide)]
    by_cases c : σ 22 t = 2
    · rw [pS_28c ht hh c, he, Nat.zero_min, nI_0, Int32.add_zero]
    · exact pS_28o c
  have hdl : fX0_daysLeft M (A 7 t) = some (nI (LN σ t)) := by
    rw [c_daysLeft R s112, s22, s28, s27, ← ok3]
    unfold leftM ceilS
    rw [s30, ok4]
    rfl
  have hmi := min_if d (LN σ t) (by omega) (by omega)
  have hle : (nI (LN σ t) ≤ nI (min d (LN σ t))) = (LN σ t ≤ d) := propext ((nI_leI (by omega) (by omega)).trans ⟨fun z => by omega, fun z => by omega⟩)
  have T26 : pS σ (eU e t d) 26 t = bI (decide (d < LN σ t)) := by rw [pS_26 ht hh, eU_eq]
  by_cases c2 : σ 22 t = 2
  · obtain ⟨M1, e1, R1⟩ := wr0_9 R s112 (σ 28 t + nI (min d (LN σ t)))
    have T27 : pS σ (eU e t d) 27 t = σ 27 t := pS_27c c2
    have T28 : pS σ (eU e t d) 28 t = σ 28 t + nI (min d (LN σ t)) := by rw [pS_28c ht hh c2, eU_eq]
    by_cases c : LN σ t ≤ d
    · obtain ⟨M2, e2, R2⟩ := wr0_7 R1 (by rw [sU_ne (by decide)]; exact s112) 0 (Or.inl rfl)
      refine ⟨M2, ?_, ?_⟩
      · rw [decide_eq_true c]
        simp (disch := omega) only [wX0_isReleasedAfter, bX0_isReleasedAfter_42, bX0_isReleasedAfter_53, ↓rd0e R s112, ↓(fun (g : Int32 → Prop) => oex hdl g), s22, c2, s28, ↓reduceIte, hmi, ↓(fun (g : hM → Prop) => oex e1 g), hle, c, ↓(fun (g : hM → Prop) => oex e2 g), ↓rd0e R2 (by simp (disch := omega) only [sU_ne]; rw [pS_x (by omega)]; exact h112), sU_eq, bI_t]
      · rw [← pS_mk2 (σ := σ) (e := e) (t := t) (m := d) (v := v0) (X := sU (sU (sU (pS σ e) 37 5 v0) 28 t (σ 28 t + nI (min d (LN σ t)))) 26 t 0) (fun f i h1 h2 => by simp (disch := omega) only [sU_off]) ?_ ?_ ?_ ?_]
        · exact R2
        · rw [T26, decide_eq_false (by omega), sU_eq]
          rfl
        · rw [T27, sU_ne (by decide), sU_ne (by decide), s27]
        · rw [T28, sU_ne (by decide), sU_eq]
        · simp (disch := omega) only [sU_ne, sU_eq]
    · obtain ⟨M2, e2, R2⟩ := wr0_7 R1 (by rw [sU_ne (by decide)]; exact s112) 1 (Or.inr rfl)
      refine ⟨M2, ?_, ?_⟩
      · rw [decide_eq_false c]
        simp (disch := omega) only [wX0_isReleasedAfter, bX0_isReleasedAfter_42, bX0_isReleasedAfter_53, ↓rd0e R s112, ↓(fun (g : Int32 → Prop) => oex hdl g), s22, c2, s28, ↓reduceIte, hmi, ↓(fun (g : hM → Prop) => oex e1 g), hle, c, i10, ↓(fun (g : hM → Prop) => oex e2 g), ↓rd0e R2 (by simp (disch := omega) only [sU_ne]; rw [pS_x (by omega)]; exact h112), sU_eq, bI_f]
      · rw [← pS_mk2 (σ := σ) (e := e) (t := t) (m := d) (v := v0) (X := sU (sU (sU (pS σ e) 37 5 v0) 28 t (σ 28 t + nI (min d (LN σ t)))) 26 t 1) (fun f i h1 h2 => by simp (disch := omega) only [sU_off]) ?_ ?_ ?_ ?_]
        · exact R2
        · rw [T26, decide_eq_true (by omega), sU_eq]
          rfl
        · rw [T27, sU_ne (by decide), sU_ne (by decide), s27]
        · rw [T28, sU_ne (by decide), sU_eq]
        · simp (disch := omega) only [sU_ne, sU_eq]
  · obtain ⟨M1, e1, R1⟩ := wr0_8 R s112 (σ 27 t + nI (min d (LN σ t)))
    have T28 : pS σ (eU e t d) 28 t = σ 28 t := pS_28o c2
    have T27 : pS σ (eU e t d) 27 t = σ 27 t + nI (min d (LN σ t)) := by rw [pS_27o ht hh c2, eU_eq]
    by_cases c : LN σ t ≤ d
    · obtain ⟨M2, e2, R2⟩ := wr0_7 R1 (by rw [sU_ne (by decide)]; exact s112) 0 (Or.inl rfl)
      refine ⟨M2, ?_, ?_⟩
      · rw [decide_eq_true c]
        simp (disch := omega) only [wX0_isReleasedAfter, bX0_isReleasedAfter_42, bX0_isReleasedAfter_53, ↓rd0e R s112, ↓(fun (g : Int32 → Prop) => oex hdl g), s22, c2, s27, ↓reduceIte, hmi, ↓(fun (g : hM → Prop) => oex e1 g), hle, c, ↓(fun (g : hM → Prop) => oex e2 g), ↓rd0e R2 (by simp (disch := omega) only [sU_ne]; rw [pS_x (by omega)]; exact h112), sU_eq, bI_t]
      · rw [← pS_mk2 (σ := σ) (e := e) (t := t) (m := d) (v := v0) (X := sU (sU (sU (pS σ e) 37 5 v0) 27 t (σ 27 t + nI (min d (LN σ t)))) 26 t 0) (fun f i h1 h2 => by simp (disch := omega) only [sU_off]) ?_ ?_ ?_ ?_]
        · exact R2
        · rw [T26, decide_eq_false (by omega), sU_eq]
          rfl
        · rw [T27, sU_ne (by decide), sU_eq]
        · rw [T28, sU_ne (by decide), sU_ne (by decide), s28]
        · simp (disch := omega) only [sU_ne, sU_eq]
    · obtain ⟨M2, e2, R2⟩ := wr0_7 R1 (by rw [sU_ne (by decide)]; exact s112) 1 (Or.inr rfl)
      refine ⟨M2, ?_, ?_⟩
      · rw [decide_eq_false c]
        simp (disch := omega) only [wX0_isReleasedAfter, bX0_isReleasedAfter_42, bX0_isReleasedAfter_53, ↓rd0e R s112, ↓(fun (g : Int32 → Prop) => oex hdl g), s22, c2, s27, ↓reduceIte, hmi, ↓(fun (g : hM → Prop) => oex e1 g), hle, c, i10, ↓(fun (g : hM → Prop) => oex e2 g), ↓rd0e R2 (by simp (disch := omega) only [sU_ne]; rw [pS_x (by omega)]; exact h112), sU_eq, bI_f]
      · rw [← pS_mk2 (σ := σ) (e := e) (t := t) (m := d) (v := v0) (X := sU (sU (sU (pS σ e) 37 5 v0) 27 t (σ 27 t + nI (min d (LN σ t)))) 26 t 1) (fun f i h1 h2 => by simp (disch := omega) only [sU_off]) ?_ ?_ ?_ ?_]
        · exact R2
        · rw [T26, decide_eq_true (by omega), sU_eq]
          rfl
        · rw [T27, sU_ne (by decide), sU_eq]
        · rw [T28, sU_ne (by decide), sU_ne (by decide), s28]
        · simp (disch := omega) only [sU_ne, sU_eq]
def eC (d m : Nat) : Nat → Nat := fun i => if i < m then d else 0
theorem eC_at {d m : Nat} : eC d m m = 0 := if_neg (Nat.lt_irrefl m)
theorem eC_up {d k : Nat} : eU (eC d k) k d = eC d (k + 1) := funext fun i => by
  unfold eU eC
  by_cases c : i = k
  · rw [if_pos c, if_pos (by omega)]
  · rw [if_neg c]
    have : i < k ↔ i < k + 1 := by omega
    by_cases c2 : i < k
    · rw [if_pos c2, if_pos (this.mp c2)]
    · rw [if_neg c2, if_neg (fun z => c2 (this.mpr z))]
theorem lc_row (H : Hd σ) (E : ExI cO cF cI σ) (hU : ∀ t, t < 48 → accS σ cF t = false → σ 26 t = 0) {d f : Nat} (hd : d ≤ 100) (hf : f < cF) (hF6 : cF ≤ 6) {v0 : Int32} {Q : hM → Int32 → Prop} (kq : ∀ (M' : hM) (a : Int32), Rep M' A (sU (pS σ (eC d (8 * f + 8))) 37 5 v0) τ w → v0 + a = pS σ (eC d (8 * f + 8)) 37 5 → Q M' a) : ∀ n p (M : hM) (a : Int32), Rep M A (sU (pS σ (eC d (8 * f + p))) 37 5 v0) τ w → v0 + a = pS σ (eC d (8 * f + p)) 37 5 → p ≤ 8 → 8 - p < n → lX1_passInCustody_14 (A 5 f) Q (nI d) (some (A 6 f)) 8 n M a (nI p) := by
  intro n
  induction n with
  | zero =>
    intro p M a R hv h1 h2
    omega
  | succ n ih =>
    intro p M a R hv h1 h2
    rw [lX1_passInCustody_14]
    by_cases e0 : p < 8
    · have e1 : ¬ 8 ≤ p := by omega
      have ht : 8 * f + p < 48 := by omega
      rw [if_neg (by rw [l8 (by omega)]; exact e1)]
      have s118 : sU (pS σ (eC d (8 * f + p))) 37 5 v0 118 f = 1 := by
        rw [sU_ne (by decide), pS_x (by omega)]
        exact E.r hf
      have srow : sU (pS σ (eC d (8 * f + p))) 37 5 v0 (1000 + 2 * f) p = bI (accS σ cF (8 * f + p)) := by
        rw [sU_ne (by omega), pS_x (by omega), E.2.2.2.2.2.2.2.2.2.1 f p, decide_eq_true e0, Bool.true_and]
      rw [oex ((rdR R).2.2.2.1 f p s118 e0), srow]
      have skip : σ 26 (8 * f + p) = 0 → lX1_passInCustody_14 (A 5 f) Q (nI d) (some (A 6 f)) 8 n M a (nI p + 1) := fun z => by
        have hs := pS_idle (σ := σ) (e := eC d (8 * f + p)) (t := 8 * f + p) (m := d) (by rw [eC_at]; omega) (fun y => by rw [z] at y; exact absurd y.2.1 (by decide))
        rw [eC_up] at hs
        rw [nI_1]
        exact ih (p + 1) M a (by rw [show 8 * f + (p + 1) = 8 * f + p + 1 by omega, ← hs]; exact R) (by rw [show 8 * f + (p + 1) = 8 * f + p + 1 by omega, ← hs]; exact hv) (by omega) (by omega)
      cases c1 : accS σ cF (8 * f + p) with
      | false =>
        rw [if_neg (show ¬ bI false = 1 by decide), if_pos rfl]
        exact skip (hU _ ht c1)
      | true =>
        rw [if_pos bI_t, if_neg (fun z => by cases z)]
        have s112 : sU (pS σ (eC d (8 * f + p))) 37 5 v0 112 (8 * f + p) = 1 := by
          rw [sU_ne (by decide), pS_x (by omega)]
          exact E.a c1
        simp only [↓rd0e R s112]
        rcases (H _ ht).1 with c2 | c2
        · rw [if_pos (by rw [sU_ne (by decide), pS_n (fun z => by rw [c2] at z; exact absurd z.2 (by decide)) (by omega)]; exact c2)]
          exact skip c2
        · have pos := ((H _ ht).2 c2).1
          rw [if_neg (by rw [sU_ne (by decide), pS_26 ht c2, eC_at, decide_eq_true pos]; decide)]
          obtain ⟨M1, q1, R1⟩ := c_rel R H ht (E.a c1) c2 eC_at hd (fun M10 x8 => if (x8 : Int32) = 0 then lX1_passInCustody_14 (A 5 f) Q (nI d) (some (A 6 f)) 8 n M10 a (nI p + 1) else lX1_passInCustody_14 (A 5 f) Q (nI d) (some (A 6 f)) 8 n M10 (a + 1) (nI p + 1))
          rw [q1, nI_1]
          have hv2 : v0 + (a + bI (decide (LN σ (8 * f + p) ≤ d))) = pS σ (eC d (8 * f + (p + 1))) 37 5 := by
            rw [show 8 * f + (p + 1) = 8 * f + p + 1 by omega, ← eC_up, pS_37u ht c2 (by rw [eC_at]; exact pos), ← hv, Int32.add_assoc]
          rw [eC_up] at R1
          have R2 : Rep M1 A (sU (pS σ (eC d (8 * f + (p + 1)))) 37 5 v0) τ w := R1
          cases c3 : decide (LN σ (8 * f + p) ≤ d) with
          | false =>
            rw [c3, bI_f, Int32.add_zero] at hv2
            rw [if_pos bI_f]
            exact ih (p + 1) M1 a R2 hv2 (by omega) (by omega)
          | true =>
            rw [c3, bI_t] at hv2
            rw [if_neg (by decide)]
            exact ih (p + 1) M1 (a + 1) R2 hv2 (by omega) (by omega)
    · have e1 : p = 8 := by omega
      subst e1
      rw [if_pos (by decide)]
      exact kq M a R hv
theorem lc_pass (H : Hd σ) (E : ExI cO cF cI σ) (hU : ∀ t, t < 48 → accS σ cF t = false → σ 26 t = 0) {d D : Nat} (hd : d ≤ 100) (hF6 : cF ≤ 6) (hday : σ 1 0 = nI D) {Q : hM → Int32 → Prop} {X : String → hM → Prop} (kq : ∀ M' : hM, Rep M' A (sU (pS σ (fun _ => d)) 1 0 (nI (D + d))) τ w → Q M' (nI (D + d))) : ∀ n f (M : hM), Rep M A (pS σ (eC d (8 * f))) τ w → f ≤ 6 → 6 - f < n → lX4_pass_53 (A 0 0) Q X (nI d) (some (A 2 0)) 6 n M (nI f) := by
  intro n
  induction n with
  | zero =>
    intro f M R h1 h2
    omega
  | succ n ih =>
    intro f M R h1 h2
    rw [lX4_pass_53]
    by_cases e0 : f < 6
    · have e1 : ¬ 6 ≤ f := by omega
      rw [if_neg (by rw [l6 (by omega)]; exact e1)]
      have s115 : pS σ (eC d (8 * f)) 115 f = bI (decide (f < cF)) := (pS_x (by omega)).trans (E.2.2.2.1 f)
      rw [oex ((rdR R).2.1 f e0), s115, nI_1]
      by_cases hf : f < cF
      · rw [decide_eq_true hf, if_pos bI_t, if_neg (fun z => by cases z)]
        have s111 : pS σ (eC d (8 * f)) 111 f = 1 := (pS_x (by omega)).trans (E.f hf)
        have s118 : pS σ (eC d (8 * f)) 118 f = 1 := (pS_x (by omega)).trans (E.r hf)
        simp (disch := exact s118) only [↓rd4e R, ↓rd1e R s111, wX1_passInCustody, ↓rdLe R]
        refine lc_row (A := A) (τ := τ) (w := w) (f := f) (v0 := pS σ (eC d (8 * f)) 37 5) H E hU hd hf hF6 (fun M1 a R1 hv => ?_) 1000 0 M 0 (by rw [Nat.add_zero, sU_id (s := pS σ (eC d (8 * f))) (f := 37) (j := 5) rfl]; exact R) (by rw [Nat.add_zero]; exact Int32.add_zero _) (by omega) (by omega)
        obtain ⟨M2, e2, R2⟩ := wr4_12 R1 (pS σ (eC d (8 * f)) 37 5 + a)
        rw [oex e2]
        refine ih (f + 1) M2 ?_ (by omega) (by omega)
        have hs : sU (sU (pS σ (eC d (8 * f + 8))) 37 5 (pS σ (eC d (8 * f)) 37 5)) 37 5 (pS σ (eC d (8 * f)) 37 5 + a) = pS σ (eC d (8 * (f + 1))) := by
          rw [hv, show 8 * (f + 1) = 8 * f + 8 by omega]
          funext g i
          by_cases c : g = 37 ∧ i = 5
          · obtain ⟨rfl, rfl⟩ := c
            rw [sU_eq]
          · rw [sU_off c, sU_off c]
        rw [← hs]
        exact R2
      · rw [decide_eq_false hf, if_neg (show ¬ bI false = 1 by decide), if_pos rfl]
        refine ih (f + 1) M ?_ (by omega) (by omega)
        rw [← pS_cong (e := eC d (8 * f)) (fun i hi hh => ?_)]
        · exact R
        · by_cases c : i < 8 * f
          · unfold eC
            rw [if_pos c, if_pos (by omega)]
          · have hacc : accS σ cF i = false := by
              unfold accS
              rw [decide_eq_false (by omega), Bool.false_and]
            rw [hU i hi hacc] at hh
            exact absurd hh (by decide)
    · have e1 : f = 6 := by omega
      subst e1
      rw [if_pos (by decide)]
      obtain ⟨M1, e1, R1⟩ := wr4_6 R (nI (D + d))
      have h10 : pS σ (eC d (8 * 6)) 1 0 = nI D := (pS_x (by omega)).trans hday
      simp only [↓rd4e R, h10, nI_add, ↓(fun (g : hM → Prop) => oex e1 g), ↓rd4e R1, sU_eq]
      refine kq M1 ?_
      rw [← pS_cong (e := eC d (8 * 6)) (fun i hi _ => if_pos hi)]
      exact R1
end CPASS
def psS (σ : hσ) (d D : Nat) : hσ := sU (pS σ (fun _ => d)) 1 0 (nI (D + d))
theorem psS_x {σ : hσ} {d D : Nat} (f i : Nat) (h : f ≠ 1 ∧ f ≠ 26 ∧ f ≠ 27 ∧ f ≠ 28 ∧ f ≠ 37) : psS σ d D f i = σ f i := by
  unfold psS
  rw [sU_ne h.1, pS_x (by omega)]
theorem Inv_pass {cO cF cI cS d D : Nat} {σ : hσ} (I : Inv cO cF cI cS σ) (hday : σ 1 0 = nI D) (hD : D + d ≤ 5000) : Inv cO cF cI cS (psS σ d D) := by
  have hacc : ∀ t, accS (psS σ d D) cF t = accS σ cF t := fun t => by
    unfold accS
    rw [psS_x 9 _ (by decide)]
  have H := Hd_of I
  obtain ⟨hO, hO8, hF, hF6, hI, hI4, hSn, hS6, -⟩ := I.1
  have E := I.2.1
  refine ⟨⟨?_, hO8, ?_, hF6, ?_, hI4, ?_, hS6, D + d, hD, ?_⟩, ⟨fun k => ?_, fun k => ?_, fun k => ?_, fun k => ?_, fun k => ?_, fun k => ?_, fun k => ?_, fun t => ?_, fun t => ?_, fun f p => ?_, ?_⟩, ⟨fun k hk => ?_, fun x y hx hy => ?_, fun k hk => ?_⟩, fun k hk => ?_, fun k hk => ?_, fun t ht => ?_, ⟨fun t ht ha j hj d2 => ?_, fun k hk => ?_, fun k hk => ?_, fun k hk => ?_⟩⟩
  · rw [psS_x 2 _ (by decide)]
    exact hO
  · rw [psS_x 7 _ (by decide)]
    exact hF
  · rw [psS_x 11 _ (by decide)]
    exact hI
  · rw [psS_x 33 _ (by decide)]
    exact hSn
  · unfold psS
    rw [sU_eq]
  · rw [psS_x 110 _ (by decide)]
    exact E.1 k
  · rw [psS_x 114 _ (by decide)]
    exact E.2.1 k
  · rw [psS_x 111 _ (by decide)]
    exact E.2.2.1 k
  · rw [psS_x 115 _ (by decide)]
    exact E.2.2.2.1 k
  · rw [psS_x 118 _ (by decide)]
    exact E.2.2.2.2.1 k
  · rw [psS_x 113 _ (by decide)]
    exact E.2.2.2.2.2.1 k
  · rw [psS_x 116 _ (by decide)]
    exact E.2.2.2.2.2.2.1 k
  · rw [psS_x 112 _ (by decide), hacc]
    exact E.2.2.2.2.2.2.2.1 t
  · rw [psS_x 119 _ (by decide), hacc]
    exact E.2.2.2.2.2.2.2.2.1 t
  · rw [psS_x (1000 + 2 * f) _ (by omega), hacc]
    exact E.2.2.2.2.2.2.2.2.2.1 f p
  · rw [psS_x 120 _ (by decide)]
    exact E.out
  · rw [psS_x 4 _ (by decide)]
    exact I.2.2.1.1 k hk
  · rw [psS_x 6 _ (by decide), psS_x 6 _ (by decide)]
    exact I.2.2.1.2.1 x y hx hy
  · rw [psS_x 6 _ (by decide)]
    exact I.2.2.1.2.2 k hk
  · rw [psS_x 20 _ (by decide), psS_x 21 _ (by decide)]
    exact I.2.2.2.1 k hk
  · rw [psS_x 9 _ (by decide)]
    exact I.2.2.2.2.1 k hk
  · obtain ⟨q1, q2⟩ := I.2.2.2.2.2.1 t ht
    rcases (H t ht).1 with c | c
    · have same : ∀ f, (22 ≤ f ∧ f ≤ 32) ∨ f = 50 ∨ f = 51 → psS σ d D f t = σ f t := fun f hf => by
        unfold psS
        rw [sU_ne (by omega), pS_n (fun z => by rw [c] at z; exact absurd z.2 (by decide)) (by omega)]
      exact ⟨fun z => unb_cong same (q1 (by rw [← hacc]; exact z)), oneT_cong same q2⟩
    · obtain ⟨ok1, ok2, ok3, ok4, ok5, ok6⟩ := (H t ht).2 c
      refine ⟨fun z => ?_, ?_⟩
      · have := (q1 (by rw [← hacc]; exact z)).2.2.2.1
        rw [this] at c
        exact absurd c (by decide)
      · obtain ⟨o1, o2, o3, o4, o5, o6, o7, ⟨e, l, k1, k2, k3, k4⟩, o9, o10⟩ := q2
        have x26 : psS σ d D 26 t = bI (decide (d < LN σ t)) := by
          unfold psS
          rw [sU_ne (by decide), pS_26 ht c]
        by_cases c2 : σ 22 t = 2
        · obtain ⟨l', l1, l2⟩ := ok5 c2
          have x27 : psS σ d D 27 t = σ 27 t := by
            unfold psS
            rw [sU_ne (by decide), pS_27c c2]
          have x28 : psS σ d D 28 t = nI (l' + min d (LN σ t)) := by
            unfold psS
            rw [sU_ne (by decide), pS_28c ht c c2, l1, nI_add]
          refine oneT_of (psS_x 22 t (by decide)) (psS_x 23 t (by decide)) (psS_x 24 t (by decide)) x26 x27 x28 (psS_x 29 t (by decide)) (psS_x 30 t (by decide)) (psS_x 50 t (by decide)) (psS_x 51 t (by decide)) ⟨o1, fun z => absurd c2 z, o3, o4, o5, o6, o7, ⟨e, l' + min d (LN σ t), k1, by omega, k3, rfl⟩, bI_b _, fun z => ⟨(o10 c).1, ?_⟩⟩
          have hlt : d < LN σ t := of_decide_eq_true (bI_1.mp z)
          rw [if_pos c2, Nat.min_eq_left (by omega)]
          exact (nI_sub_pos (a := 60) (b := l' + d) (by omega) (by omega)).mpr (by omega)
        · obtain ⟨e', C, l1, l2, l3, l4⟩ := ok6 c2
          have x28 : psS σ d D 28 t = σ 28 t := by
            unfold psS
            rw [sU_ne (by decide), pS_28o c2]
          have x27 : psS σ d D 27 t = nI (e' + min d (LN σ t)) := by
            unfold psS
            rw [sU_ne (by decide), pS_27o ht c c2, l1, nI_add]
          refine oneT_of (psS_x 22 t (by decide)) (psS_x 23 t (by decide)) (psS_x 24 t (by decide)) x26 x27 x28 (psS_x 29 t (by decide)) (psS_x 30 t (by decide)) (psS_x 50 t (by decide)) (psS_x 51 t (by decide)) ⟨o1, o2, o3, o4, o5, o6, o7, ⟨e' + min d (LN σ t), l, by omega, k2, rfl, k4⟩, bI_b _, fun z => ⟨(o10 c).1, ?_⟩⟩
          have hlt : d < LN σ t := of_decide_eq_true (bI_1.mp z)
          rw [if_neg c2, Nat.min_eq_left (by omega), l2]
          exact (nI_sub_pos (by omega) (by omega)).mpr (by omega)
  · have ea : exN (ansG (psS σ d D) t j d2) cS = exN (ansG σ t j d2) cS := by
      refine congrArg (fun z => exN z cS) (funext fun k => ?_)
      unfold ansG
      rw [psS_x 34 _ (by decide), psS_x 35 _ (by decide), psS_x 36 _ (by decide)]
    rw [ea]
    unfold hadS
    rw [psS_x (1001 + 2 * t) _ (by omega)]
    rw [hacc] at ha
    exact I.2.2.2.2.2.2.1 t ht ha j hj d2
  · obtain ⟨t2, z1, z2, z3⟩ := I.2.2.2.2.2.2.2.1 k hk
    refine ⟨t2, z1, by rw [hacc]; exact z2, ?_⟩
    rw [psS_x 34 _ (by decide)]
    exact z3
  · rw [psS_x 35 _ (by decide)]
    refine Int32.le_trans (I.2.2.2.2.2.2.2.2.1 k hk) ?_
    rw [hday]
    unfold psS
    rw [sU_eq]
    exact (nI_leI (by omega) (by omega)).mpr (by omega)
  · rw [psS_x 36 _ (by decide)]
    exact I.2.2.2.2.2.2.2.2.2 k hk
theorem LN_0 {σ : hσ} {t : Nat} {c : Int32} : LN (sU σ 0 0 c) t = LN σ t := by
  unfold LN
  rw [leftM_c (by omega)]
theorem pS_thr {σ : hσ} {e : Nat → Nat} {c : Int32} : pS (sU σ 0 0 c) e = sU (pS σ e) 0 0 c := by
  have hr : relB (sU σ 0 0 c) e = relB σ e := funext fun k => by
    unfold relB
    rw [sU_ne (by decide), LN_0]
  funext f i
  by_cases c0 : f = 0
  · subst c0
    rw [pS_x (by omega)]
    by_cases c1 : i = 0
    · subst c1
      rw [sU_eq, sU_eq]
    · rw [sU_nj c1, sU_nj c1, pS_x (by omega)]
  · rw [sU_ne c0]
    unfold pS
    rw [hr, LN_0, sU_ne (show 26 ≠ 0 by decide), sU_ne (show 22 ≠ 0 by decide), sU_ne (show 27 ≠ 0 by decide), sU_ne (show 28 ≠ 0 by decide), sU_ne (show 37 ≠ 0 by decide), sU_ne c0]
section WPASS
variable {n : Nat} {M : hM} {x m out : Nat} {p1 p2 p3 p4 p5 p6 : Int32}
theorem case_2 (J : INV n M x m out) : lw_2 M x m out p1 p2 p3 p4 p5 p6 (fun M' => INV (n + 1) M' x m out) := by
  obtain ⟨A, σ, w, cO, cF, cI, cS, ⟨rfl, rfl, rfl⟩, R, I, hn⟩ := J
  obtain ⟨hO, hO8, hF, hF6, hI, hI4, hSn, hS6, D, hD, hday⟩ := I.1
  have E := I.2.1
  unfold lw_2 wL_pass wX4_pass
  simp only [↓rd4e R]
  cases g1 : inR p1 1 100 with
  | false =>
    simp only [g1, ↓(fun (g : Int32 → Prop) => oex (in4 p1 1 100) g), ↓(fun (g : Int32 → Prop) => oex (in5 p1 1 100) g), ↓reduceIte, bI_f, bI_t, i10, i20, i30, sx, snf, ↓rd4e R]
    simp only [wX5_pass, bX5_pass_32, m8]
    obtain ⟨M3, e3, R3⟩ := m_ref R 1
    simp (disch := omega) only [g1, ↓(fun (g : Int32 → Prop) => oex (in4 p1 1 100) g), ↓(fun (g : Int32 → Prop) => oex (in5 p1 1 100) g), ↓reduceIte, bI_f, bI_t, i10, i20, i30, sx, snf, ↓rd5e R, ↓rdAe R, e3, ↓rd5e R3]
    exact endF R3 (sU_eq _ _ _ _) (INV.same R3 I hn)
  | true =>
    obtain ⟨d, hd1, hd2, rfl⟩ : ∃ d, 0 < d ∧ d ≤ 100 ∧ p1 = nI d := by
      obtain ⟨z1, z2⟩ := inR_t.mp g1
      have z0 : ¬ p1 < 0 := fun z => by
        have y1 := Int32.lt_iff_toInt_lt.mp z
        have y2 := Int32.le_iff_toInt_le.mp z1
        rw [show (1 : Int32).toInt = 1 by decide] at y2
        rw [show (0 : Int32).toInt = 0 by decide] at y1
        omega
      obtain ⟨g, hg1, rfl⟩ := nI_of z0
      have y3 := (nI_leI (b := 100) hg1 (by decide)).mp z2
      have y4 := (nI_leI (a := 1) (by decide) hg1).mp z1
      exact ⟨g, by omega, y3, rfl⟩
    by_cases c1 : σ 1 0 + nI d ≤ 5000
    · have hc : D + d ≤ 5000 := by
        rw [hday, nI_add] at c1
        exact (nI_leI (b := 5000) (by omega) (by decide)).mp c1
      have hU : ∀ t, t < 48 → accS σ cF t = false → σ 26 t = 0 := fun t ht q => ((I.2.2.2.2.2.1 t ht).1 q).2.2.2.1
      simp only [g1, ↓(fun (g : Int32 → Prop) => oex (in4 (nI d) 1 100) g), ↓(fun (g : Int32 → Prop) => oex (in5 (nI d) 1 100) g), c1, ↓rdLe R, ↓reduceIte, bI_f, bI_t, i10, i20, i30, sx, snf, ↓rd4e R]
      refine lc_pass (Hd_of I) E hU hd2 hF6 hday (fun M1 R1 => ?_) 1000 0 M (by rw [pS_cong (e := eC d (8 * 0)) (e' := fun _ => 0) (fun i _ _ => if_neg (by omega)), pS_0 (Hd_of I)]; exact R) (by omega) (by omega)
      have h120 : sU (pS σ (fun _ => d)) 1 0 (nI (D + d)) 120 0 = 1 := by
        rw [sU_ne (by decide), pS_x (by omega)]
        exact E.out
      obtain ⟨M2, e2, R2⟩ := wrJ R1 h120 (nI (D + d)).toInt64
      refine ⟨M2, e2, ?_⟩
      simp only [wX5_pass, bX5_pass_32, m8]
      obtain ⟨M3, e3, R3⟩ := m_ref R2 0
      simp only [g1, ↓(fun (g : Int32 → Prop) => oex (in4 (nI d) 1 100) g), ↓(fun (g : Int32 → Prop) => oex (in5 (nI d) 1 100) g), c1, ↓reduceIte, bI_f, bI_t, i10, i20, i30, sx, snf, ↓rd5e R2, e3]
      have H2 : Hd (sU σ 0 0 0) := Hd_of (I.thr 0)
      refine lm_pass H2 hd2 (D := D) (by rw [sU_ne (by decide)]; exact hday) (fun M4 R4 => ?_) 1000 0 M3 (by rw [pS_0 H2]; exact R3) (by omega) (by omega)
      simp only [↓rd5e R4]
      refine endI0 R4 h120 (by rw [sU_ne (by decide), pS_x (by omega), sU_eq]) rfl (INV.mk (σ' := psS (sU σ 0 0 0) d D) R4 ?_ (BM.rf _) (Inv_pass (I.thr 0) (by rw [sU_ne (by decide)]; exact hday) hc) (by omega))
      unfold psS
      rw [pS_thr]
      exact ((AM.rf _).m (by omega)).u 1 0 _
    ·
      simp only [g1, c1, ↓(fun (g : Int32 → Prop) => oex (in4 (nI d) 1 100) g), ↓(fun (g : Int32 → Prop) => oex (in5 (nI d) 1 100) g), ↓reduceIte, bI_f, bI_t, i10, i20, i30, sx, snf, ↓rd4e R]
      simp only [wX5_pass, bX5_pass_32, m8]
      obtain ⟨M3, e3, R3⟩ := m_ref R 2
      simp (disch := omega) only [g1, c1, ↓(fun (g : Int32 → Prop) => oex (in4 (nI d) 1 100) g), ↓(fun (g : Int32 → Prop) => oex (in5 (nI d) 1 100) g), ↓reduceIte, bI_f, bI_t, i10, i20, i30, sx, snf, ↓rd5e R, ↓rdAe R, e3, ↓rd5e R3]
      exact endF R3 (sU_eq _ _ _ _) (INV.same R3 I hn)
end WPASS
